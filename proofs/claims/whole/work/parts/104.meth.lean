/-! methods as functions, and their contracts (written by wip/tool/gen.py) -/
-- X9_takeIn
abbrev j_X9_takeIn : rf_J := (9, yX9_takeIn, cX9_takeIn, 6, (some .int))
theorem mw_X9_takeIn : rf_mv j_X9_takeIn (rf_R 9) 5 := ⟨⟨rf_mem 35 (by decide +kernel), rf_mem 35 (by decide +kernel), rf_mem 0 (by decide +kernel), rf_mem 35 (by decide +kernel)⟩, by decide +kernel, by decide⟩
def g_X9_takeIn (w : rf_w) (m : rf_m) (a1 : Int32) (a2 : Int32) (a3 : Int32) (a4 : Int32) (a5 : Int32) : Option (Int32 × rf_m) := (if ((m.1 13 2) + 20) ≤ 300 then rf_bv (g_X9_takeFour w m a1) fun m0 => rf_bv (g_X9_takeFour w m0 a2) fun m1 => rf_bv (g_X9_takeFour w m1 a3) fun m2 => rf_bv (g_X9_takeFour w m2 a4) fun m3 => rf_bv (g_X9_takeFour w m3 a5) fun m4 => some (m4.1 13 2, m4) else some ((-1), m))
theorem c_X9_takeIn {w : rf_w} {m : rf_m} {a1 : Int32} {a2 : Int32} {a3 : Int32} {a4 : Int32} {a5 : Int32} {r : Int32 × rf_m} (hg : g_X9_takeIn w m a1 a2 a3 a4 a5 = some r) : rf_Con j_X9_takeIn 2 (rf_sh w) [.ref 13, .int a1, .int a2, .int a3, .int a4, .int a5] (rf_MM w m) (some (.int r.1)) (rf_MM w r.2) := by
  refine rf_con j_X9_takeIn 2 ⟨by decide +kernel, rfl, Nat.le_of_ble_eq_true rfl⟩ (fun K C hE => ?_)
  unfold g_X9_takeIn at hg
  show rf_V 6 (rf_sh w) K 0 0 0 ([(0, .ref 13), (1, .int a1), (2, .int a2), (3, .int a3), (4, .int a4), (5, .int a5)], [], rf_MM w m)
  refine rf_seg C [(.aload 0, 1), (.invokeinterface 9 2, 3), (.iconst 20, 2), (.iadd, 1), (.iconst 300, 3)] (pc' := 10) (S' := ([(0, .ref 13), (1, .int a1), (2, .int a2), (3, .int a3), (4, .int a4), (5, .int a5)], [.int 300, .int ((m.1 13 2) + 20)], rf_MM w m)) (by decide +kernel) rfl trivial ?_
  refine rf_icmp_le C 5 15 (by decide +kernel) (fun hc => ?_) (fun hc => ?_)
  · replace hg := (if_pos hc).symm.trans hg
    refine rf_seg C [(.aload 0, 1), (.iload 1, 1)] (pc' := 17) (S' := ([(0, .ref 13), (1, .int a1), (2, .int a2), (3, .int a3), (4, .int a4), (5, .int a5)], [.int a1, .ref 13], rf_MM w m)) (by decide +kernel) rfl trivial ?_
    obtain ⟨m0, hc0, hg⟩ := rf_bv_some hg
    refine rf_callv C rf_fit0 j_X9_takeFour (ci := 9) (As := [.int a1]) (rest := []) mw_X9_takeFour (c_X9_takeFour hc0) (by decide) rfl (by decide) lk_9_48 rfl rfl (Nat.le_of_ble_eq_true rfl) (by decide +kernel) ?_
    show rf_V 6 (rf_sh w) K 0 0 20 ([(0, .ref 13), (1, .int a1), (2, .int a2), (3, .int a3), (4, .int a4), (5, .int a5)], [], rf_MM w m0)
    refine rf_seg C [(.aload 0, 1), (.iload 2, 1)] (pc' := 22) (S' := ([(0, .ref 13), (1, .int a1), (2, .int a2), (3, .int a3), (4, .int a4), (5, .int a5)], [.int a2, .ref 13], rf_MM w m0)) (by decide +kernel) rfl trivial ?_
    obtain ⟨m1, hc1, hg⟩ := rf_bv_some hg
    refine rf_callv C rf_fit0 j_X9_takeFour (ci := 9) (As := [.int a2]) (rest := []) mw_X9_takeFour (c_X9_takeFour hc1) (by decide) rfl (by decide) lk_9_48 rfl rfl (Nat.le_of_ble_eq_true rfl) (by decide +kernel) ?_
    show rf_V 6 (rf_sh w) K 0 0 25 ([(0, .ref 13), (1, .int a1), (2, .int a2), (3, .int a3), (4, .int a4), (5, .int a5)], [], rf_MM w m1)
    refine rf_seg C [(.aload 0, 1), (.iload 3, 1)] (pc' := 27) (S' := ([(0, .ref 13), (1, .int a1), (2, .int a2), (3, .int a3), (4, .int a4), (5, .int a5)], [.int a3, .ref 13], rf_MM w m1)) (by decide +kernel) rfl trivial ?_
    obtain ⟨m2, hc2, hg⟩ := rf_bv_some hg
    refine rf_callv C rf_fit0 j_X9_takeFour (ci := 9) (As := [.int a3]) (rest := []) mw_X9_takeFour (c_X9_takeFour hc2) (by decide) rfl (by decide) lk_9_48 rfl rfl (Nat.le_of_ble_eq_true rfl) (by decide +kernel) ?_
    show rf_V 6 (rf_sh w) K 0 0 30 ([(0, .ref 13), (1, .int a1), (2, .int a2), (3, .int a3), (4, .int a4), (5, .int a5)], [], rf_MM w m2)
    refine rf_seg C [(.aload 0, 1), (.iload 4, 2)] (pc' := 33) (S' := ([(0, .ref 13), (1, .int a1), (2, .int a2), (3, .int a3), (4, .int a4), (5, .int a5)], [.int a4, .ref 13], rf_MM w m2)) (by decide +kernel) rfl trivial ?_
    obtain ⟨m3, hc3, hg⟩ := rf_bv_some hg
    refine rf_callv C rf_fit0 j_X9_takeFour (ci := 9) (As := [.int a4]) (rest := []) mw_X9_takeFour (c_X9_takeFour hc3) (by decide) rfl (by decide) lk_9_48 rfl rfl (Nat.le_of_ble_eq_true rfl) (by decide +kernel) ?_
    show rf_V 6 (rf_sh w) K 0 0 36 ([(0, .ref 13), (1, .int a1), (2, .int a2), (3, .int a3), (4, .int a4), (5, .int a5)], [], rf_MM w m3)
    refine rf_seg C [(.aload 0, 1), (.iload 5, 2)] (pc' := 39) (S' := ([(0, .ref 13), (1, .int a1), (2, .int a2), (3, .int a3), (4, .int a4), (5, .int a5)], [.int a5, .ref 13], rf_MM w m3)) (by decide +kernel) rfl trivial ?_
    obtain ⟨m4, hc4, hg⟩ := rf_bv_some hg
    refine rf_callv C rf_fit0 j_X9_takeFour (ci := 9) (As := [.int a5]) (rest := []) mw_X9_takeFour (c_X9_takeFour hc4) (by decide) rfl (by decide) lk_9_48 rfl rfl (Nat.le_of_ble_eq_true rfl) (by decide +kernel) ?_
    show rf_V 6 (rf_sh w) K 0 0 42 ([(0, .ref 13), (1, .int a1), (2, .int a2), (3, .int a3), (4, .int a4), (5, .int a5)], [], rf_MM w m4)
    refine rf_seg C [(.aload 0, 1), (.invokeinterface 9 2, 3)] (pc' := 46) (S' := ([(0, .ref 13), (1, .int a1), (2, .int a2), (3, .int a3), (4, .int a4), (5, .int a5)], [.int (m4.1 13 2)], rf_MM w m4)) (by decide +kernel) rfl trivial ?_
    obtain rfl := Option.some.inj hg
    exact rf_iret C hE (by decide +kernel)
  · replace hg := (if_neg hc).symm.trans hg
    refine rf_seg C [(.iconst (-1), 1)] (pc' := 14) (S' := ([(0, .ref 13), (1, .int a1), (2, .int a2), (3, .int a3), (4, .int a4), (5, .int a5)], [.int ((-1))], rf_MM w m)) (by decide +kernel) rfl trivial ?_
    obtain rfl := Option.some.inj hg
    exact rf_iret C hE (by decide +kernel)
-- X9_putInForce
abbrev j_X9_putInForce : rf_J := (9, yX9_putInForce, cX9_putInForce, 4, none)
theorem mw_X9_putInForce : rf_mv j_X9_putInForce (rf_R 9) 3 := ⟨⟨rf_mem 46 (by decide +kernel), rf_mem 46 (by decide +kernel), rf_mem 0 (by decide +kernel), rf_mem 46 (by decide +kernel)⟩, by decide +kernel, by decide⟩
def g_X9_putInForce (w : rf_w) (m : rf_m) (a1 : Int32) (a2 : Int32) (a3 : Int32) : Option (rf_m) := rf_g (rf_in a1 24) (rf_g (rf_in a1 24) (some (rf_i (rf_i m 20 (Int32.toNatClampNeg a1) a2) 21 (Int32.toNatClampNeg a1) a3)))
theorem c_X9_putInForce {w : rf_w} {m : rf_m} {a1 : Int32} {a2 : Int32} {a3 : Int32} {r : rf_m} (hg : g_X9_putInForce w m a1 a2 a3 = some r) : rf_Con j_X9_putInForce 1 (rf_sh w) [.ref 13, .int a1, .int a2, .int a3] (rf_MM w m) none (rf_MM w r) := by
  refine rf_con j_X9_putInForce 1 ⟨by decide +kernel, rfl, Nat.le_of_ble_eq_true rfl⟩ (fun K C hE => ?_)
  unfold g_X9_putInForce at hg
  show rf_V 4 (rf_sh w) K 0 0 0 ([(0, .ref 13), (1, .int a1), (2, .int a2), (3, .int a3)], [], rf_MM w m)
  obtain ⟨q0, hg⟩ := rf_g_some hg
  obtain ⟨q1, hg⟩ := rf_g_some hg
  refine rf_seg C [(.aload 0, 1), (.invokeinterface 9 5, 3), (.iload 1, 1), (.iload 2, 1), (.iastore, 1), (.aload 0, 1), (.invokeinterface 9 6, 3), (.iload 1, 1), (.iload 3, 1), (.iastore, 1)] (pc' := 14) (S' := ([(0, .ref 13), (1, .int a1), (2, .int a2), (3, .int a3)], [], rf_MM w (rf_i (rf_i m 20 (Int32.toNatClampNeg a1) a2) 21 (Int32.toNatClampNeg a1) a3))) (by decide +kernel) rfl (by exact ⟨(rf_in_of q0), (rf_in_of q1)⟩) ?_
  obtain rfl := Option.some.inj hg
  exact rf_vret C hE (by decide +kernel)
-- X9_add
abbrev j_X9_add : rf_J := (9, yX9_add, cX9_add, 3, (some .int))
theorem mw_X9_add : rf_mv j_X9_add (rf_R 9) 2 := ⟨⟨rf_mem 46 (by decide +kernel), rf_mem 46 (by decide +kernel), rf_mem 0 (by decide +kernel), rf_mem 46 (by decide +kernel)⟩, by decide +kernel, by decide⟩
def g_X9_add (w : rf_w) (m : rf_m) (a1 : Int32) (a2 : Int32) : Option (Int32 × rf_m) := rf_g (rf_in (m.1 13 3) 24) (rf_g (rf_in ((rf_i m 19 (Int32.toNatClampNeg (m.1 13 3)) (m.1 14 4)).1 13 3) 24) (rf_g (rf_in ((rf_i (rf_i m 19 (Int32.toNatClampNeg (m.1 13 3)) (m.1 14 4)) 22 (Int32.toNatClampNeg ((rf_i m 19 (Int32.toNatClampNeg (m.1 13 3)) (m.1 14 4)).1 13 3)) ((rf_i m 19 (Int32.toNatClampNeg (m.1 13 3)) (m.1 14 4)).1 14 3)).1 13 3) 24) (rf_g (rf_cg 0 (((rf_i (rf_i (rf_i m 19 (Int32.toNatClampNeg (m.1 13 3)) (m.1 14 4)) 22 (Int32.toNatClampNeg ((rf_i m 19 (Int32.toNatClampNeg (m.1 13 3)) (m.1 14 4)).1 13 3)) ((rf_i m 19 (Int32.toNatClampNeg (m.1 13 3)) (m.1 14 4)).1 14 3)) 23 (Int32.toNatClampNeg ((rf_i (rf_i m 19 (Int32.toNatClampNeg (m.1 13 3)) (m.1 14 4)) 22 (Int32.toNatClampNeg ((rf_i m 19 (Int32.toNatClampNeg (m.1 13 3)) (m.1 14 4)).1 13 3)) ((rf_i m 19 (Int32.toNatClampNeg (m.1 13 3)) (m.1 14 4)).1 14 3)).1 13 3)) ((rf_i (rf_i m 19 (Int32.toNatClampNeg (m.1 13 3)) (m.1 14 4)) 22 (Int32.toNatClampNeg ((rf_i m 19 (Int32.toNatClampNeg (m.1 13 3)) (m.1 14 4)).1 13 3)) ((rf_i m 19 (Int32.toNatClampNeg (m.1 13 3)) (m.1 14 4)).1 14 3)).1 14 2)).1 13 3) * 160) ((rf_i (rf_i (rf_i m 19 (Int32.toNatClampNeg (m.1 13 3)) (m.1 14 4)) 22 (Int32.toNatClampNeg ((rf_i m 19 (Int32.toNatClampNeg (m.1 13 3)) (m.1 14 4)).1 13 3)) ((rf_i m 19 (Int32.toNatClampNeg (m.1 13 3)) (m.1 14 4)).1 14 3)) 23 (Int32.toNatClampNeg ((rf_i (rf_i m 19 (Int32.toNatClampNeg (m.1 13 3)) (m.1 14 4)) 22 (Int32.toNatClampNeg ((rf_i m 19 (Int32.toNatClampNeg (m.1 13 3)) (m.1 14 4)).1 13 3)) ((rf_i m 19 (Int32.toNatClampNeg (m.1 13 3)) (m.1 14 4)).1 14 3)).1 13 3)) ((rf_i (rf_i m 19 (Int32.toNatClampNeg (m.1 13 3)) (m.1 14 4)) 22 (Int32.toNatClampNeg ((rf_i m 19 (Int32.toNatClampNeg (m.1 13 3)) (m.1 14 4)).1 13 3)) ((rf_i m 19 (Int32.toNatClampNeg (m.1 13 3)) (m.1 14 4)).1 14 3)).1 14 2)).1 14 2) 160 3840) (rf_bv (g_X9_putInForce w (rf_i (rf_ci (rf_i (rf_i (rf_i m 19 (Int32.toNatClampNeg (m.1 13 3)) (m.1 14 4)) 22 (Int32.toNatClampNeg ((rf_i m 19 (Int32.toNatClampNeg (m.1 13 3)) (m.1 14 4)).1 13 3)) ((rf_i m 19 (Int32.toNatClampNeg (m.1 13 3)) (m.1 14 4)).1 14 3)) 23 (Int32.toNatClampNeg ((rf_i (rf_i m 19 (Int32.toNatClampNeg (m.1 13 3)) (m.1 14 4)) 22 (Int32.toNatClampNeg ((rf_i m 19 (Int32.toNatClampNeg (m.1 13 3)) (m.1 14 4)).1 13 3)) ((rf_i m 19 (Int32.toNatClampNeg (m.1 13 3)) (m.1 14 4)).1 14 3)).1 13 3)) ((rf_i (rf_i m 19 (Int32.toNatClampNeg (m.1 13 3)) (m.1 14 4)) 22 (Int32.toNatClampNeg ((rf_i m 19 (Int32.toNatClampNeg (m.1 13 3)) (m.1 14 4)).1 13 3)) ((rf_i m 19 (Int32.toNatClampNeg (m.1 13 3)) (m.1 14 4)).1 14 3)).1 14 2)) 16 24 0 (((rf_i (rf_i (rf_i m 19 (Int32.toNatClampNeg (m.1 13 3)) (m.1 14 4)) 22 (Int32.toNatClampNeg ((rf_i m 19 (Int32.toNatClampNeg (m.1 13 3)) (m.1 14 4)).1 13 3)) ((rf_i m 19 (Int32.toNatClampNeg (m.1 13 3)) (m.1 14 4)).1 14 3)) 23 (Int32.toNatClampNeg ((rf_i (rf_i m 19 (Int32.toNatClampNeg (m.1 13 3)) (m.1 14 4)) 22 (Int32.toNatClampNeg ((rf_i m 19 (Int32.toNatClampNeg (m.1 13 3)) (m.1 14 4)).1 13 3)) ((rf_i m 19 (Int32.toNatClampNeg (m.1 13 3)) (m.1 14 4)).1 14 3)).1 13 3)) ((rf_i (rf_i m 19 (Int32.toNatClampNeg (m.1 13 3)) (m.1 14 4)) 22 (Int32.toNatClampNeg ((rf_i m 19 (Int32.toNatClampNeg (m.1 13 3)) (m.1 14 4)).1 13 3)) ((rf_i m 19 (Int32.toNatClampNeg (m.1 13 3)) (m.1 14 4)).1 14 3)).1 14 2)).1 13 3) * 160) ((rf_i (rf_i (rf_i m 19 (Int32.toNatClampNeg (m.1 13 3)) (m.1 14 4)) 22 (Int32.toNatClampNeg ((rf_i m 19 (Int32.toNatClampNeg (m.1 13 3)) (m.1 14 4)).1 13 3)) ((rf_i m 19 (Int32.toNatClampNeg (m.1 13 3)) (m.1 14 4)).1 14 3)) 23 (Int32.toNatClampNeg ((rf_i (rf_i m 19 (Int32.toNatClampNeg (m.1 13 3)) (m.1 14 4)) 22 (Int32.toNatClampNeg ((rf_i m 19 (Int32.toNatClampNeg (m.1 13 3)) (m.1 14 4)).1 13 3)) ((rf_i m 19 (Int32.toNatClampNeg (m.1 13 3)) (m.1 14 4)).1 14 3)).1 13 3)) ((rf_i (rf_i m 19 (Int32.toNatClampNeg (m.1 13 3)) (m.1 14 4)) 22 (Int32.toNatClampNeg ((rf_i m 19 (Int32.toNatClampNeg (m.1 13 3)) (m.1 14 4)).1 13 3)) ((rf_i m 19 (Int32.toNatClampNeg (m.1 13 3)) (m.1 14 4)).1 14 3)).1 14 2)).1 14 2)) 13 3 (((rf_ci (rf_i (rf_i (rf_i m 19 (Int32.toNatClampNeg (m.1 13 3)) (m.1 14 4)) 22 (Int32.toNatClampNeg ((rf_i m 19 (Int32.toNatClampNeg (m.1 13 3)) (m.1 14 4)).1 13 3)) ((rf_i m 19 (Int32.toNatClampNeg (m.1 13 3)) (m.1 14 4)).1 14 3)) 23 (Int32.toNatClampNeg ((rf_i (rf_i m 19 (Int32.toNatClampNeg (m.1 13 3)) (m.1 14 4)) 22 (Int32.toNatClampNeg ((rf_i m 19 (Int32.toNatClampNeg (m.1 13 3)) (m.1 14 4)).1 13 3)) ((rf_i m 19 (Int32.toNatClampNeg (m.1 13 3)) (m.1 14 4)).1 14 3)).1 13 3)) ((rf_i (rf_i m 19 (Int32.toNatClampNeg (m.1 13 3)) (m.1 14 4)) 22 (Int32.toNatClampNeg ((rf_i m 19 (Int32.toNatClampNeg (m.1 13 3)) (m.1 14 4)).1 13 3)) ((rf_i m 19 (Int32.toNatClampNeg (m.1 13 3)) (m.1 14 4)).1 14 3)).1 14 2)) 16 24 0 (((rf_i (rf_i (rf_i m 19 (Int32.toNatClampNeg (m.1 13 3)) (m.1 14 4)) 22 (Int32.toNatClampNeg ((rf_i m 19 (Int32.toNatClampNeg (m.1 13 3)) (m.1 14 4)).1 13 3)) ((rf_i m 19 (Int32.toNatClampNeg (m.1 13 3)) (m.1 14 4)).1 14 3)) 23 (Int32.toNatClampNeg ((rf_i (rf_i m 19 (Int32.toNatClampNeg (m.1 13 3)) (m.1 14 4)) 22 (Int32.toNatClampNeg ((rf_i m 19 (Int32.toNatClampNeg (m.1 13 3)) (m.1 14 4)).1 13 3)) ((rf_i m 19 (Int32.toNatClampNeg (m.1 13 3)) (m.1 14 4)).1 14 3)).1 13 3)) ((rf_i (rf_i m 19 (Int32.toNatClampNeg (m.1 13 3)) (m.1 14 4)) 22 (Int32.toNatClampNeg ((rf_i m 19 (Int32.toNatClampNeg (m.1 13 3)) (m.1 14 4)).1 13 3)) ((rf_i m 19 (Int32.toNatClampNeg (m.1 13 3)) (m.1 14 4)).1 14 3)).1 14 2)).1 13 3) * 160) ((rf_i (rf_i (rf_i m 19 (Int32.toNatClampNeg (m.1 13 3)) (m.1 14 4)) 22 (Int32.toNatClampNeg ((rf_i m 19 (Int32.toNatClampNeg (m.1 13 3)) (m.1 14 4)).1 13 3)) ((rf_i m 19 (Int32.toNatClampNeg (m.1 13 3)) (m.1 14 4)).1 14 3)) 23 (Int32.toNatClampNeg ((rf_i (rf_i m 19 (Int32.toNatClampNeg (m.1 13 3)) (m.1 14 4)) 22 (Int32.toNatClampNeg ((rf_i m 19 (Int32.toNatClampNeg (m.1 13 3)) (m.1 14 4)).1 13 3)) ((rf_i m 19 (Int32.toNatClampNeg (m.1 13 3)) (m.1 14 4)).1 14 3)).1 13 3)) ((rf_i (rf_i m 19 (Int32.toNatClampNeg (m.1 13 3)) (m.1 14 4)) 22 (Int32.toNatClampNeg ((rf_i m 19 (Int32.toNatClampNeg (m.1 13 3)) (m.1 14 4)).1 13 3)) ((rf_i m 19 (Int32.toNatClampNeg (m.1 13 3)) (m.1 14 4)).1 14 3)).1 14 2)).1 14 2)).1 13 3) + 1)) (((rf_i (rf_ci (rf_i (rf_i (rf_i m 19 (Int32.toNatClampNeg (m.1 13 3)) (m.1 14 4)) 22 (Int32.toNatClampNeg ((rf_i m 19 (Int32.toNatClampNeg (m.1 13 3)) (m.1 14 4)).1 13 3)) ((rf_i m 19 (Int32.toNatClampNeg (m.1 13 3)) (m.1 14 4)).1 14 3)) 23 (Int32.toNatClampNeg ((rf_i (rf_i m 19 (Int32.toNatClampNeg (m.1 13 3)) (m.1 14 4)) 22 (Int32.toNatClampNeg ((rf_i m 19 (Int32.toNatClampNeg (m.1 13 3)) (m.1 14 4)).1 13 3)) ((rf_i m 19 (Int32.toNatClampNeg (m.1 13 3)) (m.1 14 4)).1 14 3)).1 13 3)) ((rf_i (rf_i m 19 (Int32.toNatClampNeg (m.1 13 3)) (m.1 14 4)) 22 (Int32.toNatClampNeg ((rf_i m 19 (Int32.toNatClampNeg (m.1 13 3)) (m.1 14 4)).1 13 3)) ((rf_i m 19 (Int32.toNatClampNeg (m.1 13 3)) (m.1 14 4)).1 14 3)).1 14 2)) 16 24 0 (((rf_i (rf_i (rf_i m 19 (Int32.toNatClampNeg (m.1 13 3)) (m.1 14 4)) 22 (Int32.toNatClampNeg ((rf_i m 19 (Int32.toNatClampNeg (m.1 13 3)) (m.1 14 4)).1 13 3)) ((rf_i m 19 (Int32.toNatClampNeg (m.1 13 3)) (m.1 14 4)).1 14 3)) 23 (Int32.toNatClampNeg ((rf_i (rf_i m 19 (Int32.toNatClampNeg (m.1 13 3)) (m.1 14 4)) 22 (Int32.toNatClampNeg ((rf_i m 19 (Int32.toNatClampNeg (m.1 13 3)) (m.1 14 4)).1 13 3)) ((rf_i m 19 (Int32.toNatClampNeg (m.1 13 3)) (m.1 14 4)).1 14 3)).1 13 3)) ((rf_i (rf_i m 19 (Int32.toNatClampNeg (m.1 13 3)) (m.1 14 4)) 22 (Int32.toNatClampNeg ((rf_i m 19 (Int32.toNatClampNeg (m.1 13 3)) (m.1 14 4)).1 13 3)) ((rf_i m 19 (Int32.toNatClampNeg (m.1 13 3)) (m.1 14 4)).1 14 3)).1 14 2)).1 13 3) * 160) ((rf_i (rf_i (rf_i m 19 (Int32.toNatClampNeg (m.1 13 3)) (m.1 14 4)) 22 (Int32.toNatClampNeg ((rf_i m 19 (Int32.toNatClampNeg (m.1 13 3)) (m.1 14 4)).1 13 3)) ((rf_i m 19 (Int32.toNatClampNeg (m.1 13 3)) (m.1 14 4)).1 14 3)) 23 (Int32.toNatClampNeg ((rf_i (rf_i m 19 (Int32.toNatClampNeg (m.1 13 3)) (m.1 14 4)) 22 (Int32.toNatClampNeg ((rf_i m 19 (Int32.toNatClampNeg (m.1 13 3)) (m.1 14 4)).1 13 3)) ((rf_i m 19 (Int32.toNatClampNeg (m.1 13 3)) (m.1 14 4)).1 14 3)).1 13 3)) ((rf_i (rf_i m 19 (Int32.toNatClampNeg (m.1 13 3)) (m.1 14 4)) 22 (Int32.toNatClampNeg ((rf_i m 19 (Int32.toNatClampNeg (m.1 13 3)) (m.1 14 4)).1 13 3)) ((rf_i m 19 (Int32.toNatClampNeg (m.1 13 3)) (m.1 14 4)).1 14 3)).1 14 2)).1 14 2)) 13 3 (((rf_ci (rf_i (rf_i (rf_i m 19 (Int32.toNatClampNeg (m.1 13 3)) (m.1 14 4)) 22 (Int32.toNatClampNeg ((rf_i m 19 (Int32.toNatClampNeg (m.1 13 3)) (m.1 14 4)).1 13 3)) ((rf_i m 19 (Int32.toNatClampNeg (m.1 13 3)) (m.1 14 4)).1 14 3)) 23 (Int32.toNatClampNeg ((rf_i (rf_i m 19 (Int32.toNatClampNeg (m.1 13 3)) (m.1 14 4)) 22 (Int32.toNatClampNeg ((rf_i m 19 (Int32.toNatClampNeg (m.1 13 3)) (m.1 14 4)).1 13 3)) ((rf_i m 19 (Int32.toNatClampNeg (m.1 13 3)) (m.1 14 4)).1 14 3)).1 13 3)) ((rf_i (rf_i m 19 (Int32.toNatClampNeg (m.1 13 3)) (m.1 14 4)) 22 (Int32.toNatClampNeg ((rf_i m 19 (Int32.toNatClampNeg (m.1 13 3)) (m.1 14 4)).1 13 3)) ((rf_i m 19 (Int32.toNatClampNeg (m.1 13 3)) (m.1 14 4)).1 14 3)).1 14 2)) 16 24 0 (((rf_i (rf_i (rf_i m 19 (Int32.toNatClampNeg (m.1 13 3)) (m.1 14 4)) 22 (Int32.toNatClampNeg ((rf_i m 19 (Int32.toNatClampNeg (m.1 13 3)) (m.1 14 4)).1 13 3)) ((rf_i m 19 (Int32.toNatClampNeg (m.1 13 3)) (m.1 14 4)).1 14 3)) 23 (Int32.toNatClampNeg ((rf_i (rf_i m 19 (Int32.toNatClampNeg (m.1 13 3)) (m.1 14 4)) 22 (Int32.toNatClampNeg ((rf_i m 19 (Int32.toNatClampNeg (m.1 13 3)) (m.1 14 4)).1 13 3)) ((rf_i m 19 (Int32.toNatClampNeg (m.1 13 3)) (m.1 14 4)).1 14 3)).1 13 3)) ((rf_i (rf_i m 19 (Int32.toNatClampNeg (m.1 13 3)) (m.1 14 4)) 22 (Int32.toNatClampNeg ((rf_i m 19 (Int32.toNatClampNeg (m.1 13 3)) (m.1 14 4)).1 13 3)) ((rf_i m 19 (Int32.toNatClampNeg (m.1 13 3)) (m.1 14 4)).1 14 3)).1 14 2)).1 13 3) * 160) ((rf_i (rf_i (rf_i m 19 (Int32.toNatClampNeg (m.1 13 3)) (m.1 14 4)) 22 (Int32.toNatClampNeg ((rf_i m 19 (Int32.toNatClampNeg (m.1 13 3)) (m.1 14 4)).1 13 3)) ((rf_i m 19 (Int32.toNatClampNeg (m.1 13 3)) (m.1 14 4)).1 14 3)) 23 (Int32.toNatClampNeg ((rf_i (rf_i m 19 (Int32.toNatClampNeg (m.1 13 3)) (m.1 14 4)) 22 (Int32.toNatClampNeg ((rf_i m 19 (Int32.toNatClampNeg (m.1 13 3)) (m.1 14 4)).1 13 3)) ((rf_i m 19 (Int32.toNatClampNeg (m.1 13 3)) (m.1 14 4)).1 14 3)).1 13 3)) ((rf_i (rf_i m 19 (Int32.toNatClampNeg (m.1 13 3)) (m.1 14 4)) 22 (Int32.toNatClampNeg ((rf_i m 19 (Int32.toNatClampNeg (m.1 13 3)) (m.1 14 4)).1 13 3)) ((rf_i m 19 (Int32.toNatClampNeg (m.1 13 3)) (m.1 14 4)).1 14 3)).1 14 2)).1 14 2)).1 13 3) + 1)).1 13 3) - 1) a1 a2) fun m4 => some ((m4.1 13 3) - 1, m4)))))
theorem c_X9_add {w : rf_w} {m : rf_m} {a1 : Int32} {a2 : Int32} {r : Int32 × rf_m} (hg : g_X9_add w m a1 a2 = some r) : rf_Con j_X9_add 2 (rf_sh w) [.ref 13, .int a1, .int a2] (rf_MM w m) (some (.int r.1)) (rf_MM w r.2) := by
  refine rf_con j_X9_add 2 ⟨by decide +kernel, rfl, Nat.le_of_ble_eq_true rfl⟩ (fun K C hE => ?_)
  unfold g_X9_add at hg
  show rf_V 3 (rf_sh w) K 0 0 0 ([(0, .ref 13), (1, .int a1), (2, .int a2)], [], rf_MM w m)
  obtain ⟨q0, hg⟩ := rf_g_some hg
  obtain ⟨q1, hg⟩ := rf_g_some hg
  obtain ⟨q2, hg⟩ := rf_g_some hg
  refine rf_seg C [(.aload 0, 1), (.invokeinterface 9 4, 3), (.aload 0, 1), (.invokeinterface 9 3, 3), (.aload 0, 1), (.invokeinterface 9 0, 3), (.invokeinterface 8 4, 3), (.iastore, 1), (.aload 0, 1), (.invokeinterface 9 7, 3), (.aload 0, 1), (.invokeinterface 9 3, 3), (.aload 0, 1), (.invokeinterface 9 0, 3), (.invokeinterface 8 3, 3), (.iastore, 1), (.aload 0, 1), (.invokeinterface 9 8, 3), (.aload 0, 1), (.invokeinterface 9 3, 3), (.aload 0, 1), (.invokeinterface 9 0, 3), (.invokeinterface 8 2, 3), (.iastore, 1), (.aload 0, 1), (.invokeinterface 9 0, 3), (.invokeinterface 8 1, 3), (.iconst 0, 1), (.aload 0, 1), (.invokeinterface 9 9, 3), (.aload 0, 1), (.invokeinterface 9 3, 3), (.iconst 160, 3), (.imul, 1), (.aload 0, 1), (.invokeinterface 9 0, 3), (.invokeinterface 8 2, 3)] (pc' := 75) (S' := ([(0, .ref 13), (1, .int a1), (2, .int a2)], [.int ((rf_i (rf_i (rf_i m 19 (Int32.toNatClampNeg (m.1 13 3)) (m.1 14 4)) 22 (Int32.toNatClampNeg ((rf_i m 19 (Int32.toNatClampNeg (m.1 13 3)) (m.1 14 4)).1 13 3)) ((rf_i m 19 (Int32.toNatClampNeg (m.1 13 3)) (m.1 14 4)).1 14 3)) 23 (Int32.toNatClampNeg ((rf_i (rf_i m 19 (Int32.toNatClampNeg (m.1 13 3)) (m.1 14 4)) 22 (Int32.toNatClampNeg ((rf_i m 19 (Int32.toNatClampNeg (m.1 13 3)) (m.1 14 4)).1 13 3)) ((rf_i m 19 (Int32.toNatClampNeg (m.1 13 3)) (m.1 14 4)).1 14 3)).1 13 3)) ((rf_i (rf_i m 19 (Int32.toNatClampNeg (m.1 13 3)) (m.1 14 4)) 22 (Int32.toNatClampNeg ((rf_i m 19 (Int32.toNatClampNeg (m.1 13 3)) (m.1 14 4)).1 13 3)) ((rf_i m 19 (Int32.toNatClampNeg (m.1 13 3)) (m.1 14 4)).1 14 3)).1 14 2)).1 14 2), .int (((rf_i (rf_i (rf_i m 19 (Int32.toNatClampNeg (m.1 13 3)) (m.1 14 4)) 22 (Int32.toNatClampNeg ((rf_i m 19 (Int32.toNatClampNeg (m.1 13 3)) (m.1 14 4)).1 13 3)) ((rf_i m 19 (Int32.toNatClampNeg (m.1 13 3)) (m.1 14 4)).1 14 3)) 23 (Int32.toNatClampNeg ((rf_i (rf_i m 19 (Int32.toNatClampNeg (m.1 13 3)) (m.1 14 4)) 22 (Int32.toNatClampNeg ((rf_i m 19 (Int32.toNatClampNeg (m.1 13 3)) (m.1 14 4)).1 13 3)) ((rf_i m 19 (Int32.toNatClampNeg (m.1 13 3)) (m.1 14 4)).1 14 3)).1 13 3)) ((rf_i (rf_i m 19 (Int32.toNatClampNeg (m.1 13 3)) (m.1 14 4)) 22 (Int32.toNatClampNeg ((rf_i m 19 (Int32.toNatClampNeg (m.1 13 3)) (m.1 14 4)).1 13 3)) ((rf_i m 19 (Int32.toNatClampNeg (m.1 13 3)) (m.1 14 4)).1 14 3)).1 14 2)).1 13 3) * 160), .ref 24, .int 0, .ref 16], rf_MM w (rf_i (rf_i (rf_i m 19 (Int32.toNatClampNeg (m.1 13 3)) (m.1 14 4)) 22 (Int32.toNatClampNeg ((rf_i m 19 (Int32.toNatClampNeg (m.1 13 3)) (m.1 14 4)).1 13 3)) ((rf_i m 19 (Int32.toNatClampNeg (m.1 13 3)) (m.1 14 4)).1 14 3)) 23 (Int32.toNatClampNeg ((rf_i (rf_i m 19 (Int32.toNatClampNeg (m.1 13 3)) (m.1 14 4)) 22 (Int32.toNatClampNeg ((rf_i m 19 (Int32.toNatClampNeg (m.1 13 3)) (m.1 14 4)).1 13 3)) ((rf_i m 19 (Int32.toNatClampNeg (m.1 13 3)) (m.1 14 4)).1 14 3)).1 13 3)) ((rf_i (rf_i m 19 (Int32.toNatClampNeg (m.1 13 3)) (m.1 14 4)) 22 (Int32.toNatClampNeg ((rf_i m 19 (Int32.toNatClampNeg (m.1 13 3)) (m.1 14 4)).1 13 3)) ((rf_i m 19 (Int32.toNatClampNeg (m.1 13 3)) (m.1 14 4)).1 14 3)).1 14 2)))) (by decide +kernel) rfl (by exact ⟨(rf_in_of q0), (rf_in_of q1), (rf_in_of q2)⟩) ?_
  obtain ⟨q3, hg⟩ := rf_g_some hg
  refine rf_copyi C (by decide) (n0 := 160) (n1 := 3840) lk_9_65 rfl rfl q3 (Nat.le_of_ble_eq_true rfl) (by decide +kernel) ?_
  show rf_V 3 (rf_sh w) K 0 0 78 ([(0, .ref 13), (1, .int a1), (2, .int a2)], [], rf_MM w (rf_ci (rf_i (rf_i (rf_i m 19 (Int32.toNatClampNeg (m.1 13 3)) (m.1 14 4)) 22 (Int32.toNatClampNeg ((rf_i m 19 (Int32.toNatClampNeg (m.1 13 3)) (m.1 14 4)).1 13 3)) ((rf_i m 19 (Int32.toNatClampNeg (m.1 13 3)) (m.1 14 4)).1 14 3)) 23 (Int32.toNatClampNeg ((rf_i (rf_i m 19 (Int32.toNatClampNeg (m.1 13 3)) (m.1 14 4)) 22 (Int32.toNatClampNeg ((rf_i m 19 (Int32.toNatClampNeg (m.1 13 3)) (m.1 14 4)).1 13 3)) ((rf_i m 19 (Int32.toNatClampNeg (m.1 13 3)) (m.1 14 4)).1 14 3)).1 13 3)) ((rf_i (rf_i m 19 (Int32.toNatClampNeg (m.1 13 3)) (m.1 14 4)) 22 (Int32.toNatClampNeg ((rf_i m 19 (Int32.toNatClampNeg (m.1 13 3)) (m.1 14 4)).1 13 3)) ((rf_i m 19 (Int32.toNatClampNeg (m.1 13 3)) (m.1 14 4)).1 14 3)).1 14 2)) 16 24 0 (((rf_i (rf_i (rf_i m 19 (Int32.toNatClampNeg (m.1 13 3)) (m.1 14 4)) 22 (Int32.toNatClampNeg ((rf_i m 19 (Int32.toNatClampNeg (m.1 13 3)) (m.1 14 4)).1 13 3)) ((rf_i m 19 (Int32.toNatClampNeg (m.1 13 3)) (m.1 14 4)).1 14 3)) 23 (Int32.toNatClampNeg ((rf_i (rf_i m 19 (Int32.toNatClampNeg (m.1 13 3)) (m.1 14 4)) 22 (Int32.toNatClampNeg ((rf_i m 19 (Int32.toNatClampNeg (m.1 13 3)) (m.1 14 4)).1 13 3)) ((rf_i m 19 (Int32.toNatClampNeg (m.1 13 3)) (m.1 14 4)).1 14 3)).1 13 3)) ((rf_i (rf_i m 19 (Int32.toNatClampNeg (m.1 13 3)) (m.1 14 4)) 22 (Int32.toNatClampNeg ((rf_i m 19 (Int32.toNatClampNeg (m.1 13 3)) (m.1 14 4)).1 13 3)) ((rf_i m 19 (Int32.toNatClampNeg (m.1 13 3)) (m.1 14 4)).1 14 3)).1 14 2)).1 13 3) * 160) ((rf_i (rf_i (rf_i m 19 (Int32.toNatClampNeg (m.1 13 3)) (m.1 14 4)) 22 (Int32.toNatClampNeg ((rf_i m 19 (Int32.toNatClampNeg (m.1 13 3)) (m.1 14 4)).1 13 3)) ((rf_i m 19 (Int32.toNatClampNeg (m.1 13 3)) (m.1 14 4)).1 14 3)) 23 (Int32.toNatClampNeg ((rf_i (rf_i m 19 (Int32.toNatClampNeg (m.1 13 3)) (m.1 14 4)) 22 (Int32.toNatClampNeg ((rf_i m 19 (Int32.toNatClampNeg (m.1 13 3)) (m.1 14 4)).1 13 3)) ((rf_i m 19 (Int32.toNatClampNeg (m.1 13 3)) (m.1 14 4)).1 14 3)).1 13 3)) ((rf_i (rf_i m 19 (Int32.toNatClampNeg (m.1 13 3)) (m.1 14 4)) 22 (Int32.toNatClampNeg ((rf_i m 19 (Int32.toNatClampNeg (m.1 13 3)) (m.1 14 4)).1 13 3)) ((rf_i m 19 (Int32.toNatClampNeg (m.1 13 3)) (m.1 14 4)).1 14 3)).1 14 2)).1 14 2)))
  refine rf_seg C [(.aload 0, 1), (.dup, 1), (.invokeinterface 9 3, 3), (.iconst 1, 1), (.iadd, 1), (.multianewarray 9 3, 3), (.aload 0, 1), (.aload 0, 1), (.invokeinterface 9 3, 3), (.iconst 1, 1), (.isub, 1), (.iload 1, 1), (.iload 2, 1)] (pc' := 97) (S' := ([(0, .ref 13), (1, .int a1), (2, .int a2)], [.int a2, .int a1, .int (((rf_i (rf_ci (rf_i (rf_i (rf_i m 19 (Int32.toNatClampNeg (m.1 13 3)) (m.1 14 4)) 22 (Int32.toNatClampNeg ((rf_i m 19 (Int32.toNatClampNeg (m.1 13 3)) (m.1 14 4)).1 13 3)) ((rf_i m 19 (Int32.toNatClampNeg (m.1 13 3)) (m.1 14 4)).1 14 3)) 23 (Int32.toNatClampNeg ((rf_i (rf_i m 19 (Int32.toNatClampNeg (m.1 13 3)) (m.1 14 4)) 22 (Int32.toNatClampNeg ((rf_i m 19 (Int32.toNatClampNeg (m.1 13 3)) (m.1 14 4)).1 13 3)) ((rf_i m 19 (Int32.toNatClampNeg (m.1 13 3)) (m.1 14 4)).1 14 3)).1 13 3)) ((rf_i (rf_i m 19 (Int32.toNatClampNeg (m.1 13 3)) (m.1 14 4)) 22 (Int32.toNatClampNeg ((rf_i m 19 (Int32.toNatClampNeg (m.1 13 3)) (m.1 14 4)).1 13 3)) ((rf_i m 19 (Int32.toNatClampNeg (m.1 13 3)) (m.1 14 4)).1 14 3)).1 14 2)) 16 24 0 (((rf_i (rf_i (rf_i m 19 (Int32.toNatClampNeg (m.1 13 3)) (m.1 14 4)) 22 (Int32.toNatClampNeg ((rf_i m 19 (Int32.toNatClampNeg (m.1 13 3)) (m.1 14 4)).1 13 3)) ((rf_i m 19 (Int32.toNatClampNeg (m.1 13 3)) (m.1 14 4)).1 14 3)) 23 (Int32.toNatClampNeg ((rf_i (rf_i m 19 (Int32.toNatClampNeg (m.1 13 3)) (m.1 14 4)) 22 (Int32.toNatClampNeg ((rf_i m 19 (Int32.toNatClampNeg (m.1 13 3)) (m.1 14 4)).1 13 3)) ((rf_i m 19 (Int32.toNatClampNeg (m.1 13 3)) (m.1 14 4)).1 14 3)).1 13 3)) ((rf_i (rf_i m 19 (Int32.toNatClampNeg (m.1 13 3)) (m.1 14 4)) 22 (Int32.toNatClampNeg ((rf_i m 19 (Int32.toNatClampNeg (m.1 13 3)) (m.1 14 4)).1 13 3)) ((rf_i m 19 (Int32.toNatClampNeg (m.1 13 3)) (m.1 14 4)).1 14 3)).1 14 2)).1 13 3) * 160) ((rf_i (rf_i (rf_i m 19 (Int32.toNatClampNeg (m.1 13 3)) (m.1 14 4)) 22 (Int32.toNatClampNeg ((rf_i m 19 (Int32.toNatClampNeg (m.1 13 3)) (m.1 14 4)).1 13 3)) ((rf_i m 19 (Int32.toNatClampNeg (m.1 13 3)) (m.1 14 4)).1 14 3)) 23 (Int32.toNatClampNeg ((rf_i (rf_i m 19 (Int32.toNatClampNeg (m.1 13 3)) (m.1 14 4)) 22 (Int32.toNatClampNeg ((rf_i m 19 (Int32.toNatClampNeg (m.1 13 3)) (m.1 14 4)).1 13 3)) ((rf_i m 19 (Int32.toNatClampNeg (m.1 13 3)) (m.1 14 4)).1 14 3)).1 13 3)) ((rf_i (rf_i m 19 (Int32.toNatClampNeg (m.1 13 3)) (m.1 14 4)) 22 (Int32.toNatClampNeg ((rf_i m 19 (Int32.toNatClampNeg (m.1 13 3)) (m.1 14 4)).1 13 3)) ((rf_i m 19 (Int32.toNatClampNeg (m.1 13 3)) (m.1 14 4)).1 14 3)).1 14 2)).1 14 2)) 13 3 (((rf_ci (rf_i (rf_i (rf_i m 19 (Int32.toNatClampNeg (m.1 13 3)) (m.1 14 4)) 22 (Int32.toNatClampNeg ((rf_i m 19 (Int32.toNatClampNeg (m.1 13 3)) (m.1 14 4)).1 13 3)) ((rf_i m 19 (Int32.toNatClampNeg (m.1 13 3)) (m.1 14 4)).1 14 3)) 23 (Int32.toNatClampNeg ((rf_i (rf_i m 19 (Int32.toNatClampNeg (m.1 13 3)) (m.1 14 4)) 22 (Int32.toNatClampNeg ((rf_i m 19 (Int32.toNatClampNeg (m.1 13 3)) (m.1 14 4)).1 13 3)) ((rf_i m 19 (Int32.toNatClampNeg (m.1 13 3)) (m.1 14 4)).1 14 3)).1 13 3)) ((rf_i (rf_i m 19 (Int32.toNatClampNeg (m.1 13 3)) (m.1 14 4)) 22 (Int32.toNatClampNeg ((rf_i m 19 (Int32.toNatClampNeg (m.1 13 3)) (m.1 14 4)).1 13 3)) ((rf_i m 19 (Int32.toNatClampNeg (m.1 13 3)) (m.1 14 4)).1 14 3)).1 14 2)) 16 24 0 (((rf_i (rf_i (rf_i m 19 (Int32.toNatClampNeg (m.1 13 3)) (m.1 14 4)) 22 (Int32.toNatClampNeg ((rf_i m 19 (Int32.toNatClampNeg (m.1 13 3)) (m.1 14 4)).1 13 3)) ((rf_i m 19 (Int32.toNatClampNeg (m.1 13 3)) (m.1 14 4)).1 14 3)) 23 (Int32.toNatClampNeg ((rf_i (rf_i m 19 (Int32.toNatClampNeg (m.1 13 3)) (m.1 14 4)) 22 (Int32.toNatClampNeg ((rf_i m 19 (Int32.toNatClampNeg (m.1 13 3)) (m.1 14 4)).1 13 3)) ((rf_i m 19 (Int32.toNatClampNeg (m.1 13 3)) (m.1 14 4)).1 14 3)).1 13 3)) ((rf_i (rf_i m 19 (Int32.toNatClampNeg (m.1 13 3)) (m.1 14 4)) 22 (Int32.toNatClampNeg ((rf_i m 19 (Int32.toNatClampNeg (m.1 13 3)) (m.1 14 4)).1 13 3)) ((rf_i m 19 (Int32.toNatClampNeg (m.1 13 3)) (m.1 14 4)).1 14 3)).1 14 2)).1 13 3) * 160) ((rf_i (rf_i (rf_i m 19 (Int32.toNatClampNeg (m.1 13 3)) (m.1 14 4)) 22 (Int32.toNatClampNeg ((rf_i m 19 (Int32.toNatClampNeg (m.1 13 3)) (m.1 14 4)).1 13 3)) ((rf_i m 19 (Int32.toNatClampNeg (m.1 13 3)) (m.1 14 4)).1 14 3)) 23 (Int32.toNatClampNeg ((rf_i (rf_i m 19 (Int32.toNatClampNeg (m.1 13 3)) (m.1 14 4)) 22 (Int32.toNatClampNeg ((rf_i m 19 (Int32.toNatClampNeg (m.1 13 3)) (m.1 14 4)).1 13 3)) ((rf_i m 19 (Int32.toNatClampNeg (m.1 13 3)) (m.1 14 4)).1 14 3)).1 13 3)) ((rf_i (rf_i m 19 (Int32.toNatClampNeg (m.1 13 3)) (m.1 14 4)) 22 (Int32.toNatClampNeg ((rf_i m 19 (Int32.toNatClampNeg (m.1 13 3)) (m.1 14 4)).1 13 3)) ((rf_i m 19 (Int32.toNatClampNeg (m.1 13 3)) (m.1 14 4)).1 14 3)).1 14 2)).1 14 2)).1 13 3) + 1)).1 13 3) - 1), .ref 13], rf_MM w (rf_i (rf_ci (rf_i (rf_i (rf_i m 19 (Int32.toNatClampNeg (m.1 13 3)) (m.1 14 4)) 22 (Int32.toNatClampNeg ((rf_i m 19 (Int32.toNatClampNeg (m.1 13 3)) (m.1 14 4)).1 13 3)) ((rf_i m 19 (Int32.toNatClampNeg (m.1 13 3)) (m.1 14 4)).1 14 3)) 23 (Int32.toNatClampNeg ((rf_i (rf_i m 19 (Int32.toNatClampNeg (m.1 13 3)) (m.1 14 4)) 22 (Int32.toNatClampNeg ((rf_i m 19 (Int32.toNatClampNeg (m.1 13 3)) (m.1 14 4)).1 13 3)) ((rf_i m 19 (Int32.toNatClampNeg (m.1 13 3)) (m.1 14 4)).1 14 3)).1 13 3)) ((rf_i (rf_i m 19 (Int32.toNatClampNeg (m.1 13 3)) (m.1 14 4)) 22 (Int32.toNatClampNeg ((rf_i m 19 (Int32.toNatClampNeg (m.1 13 3)) (m.1 14 4)).1 13 3)) ((rf_i m 19 (Int32.toNatClampNeg (m.1 13 3)) (m.1 14 4)).1 14 3)).1 14 2)) 16 24 0 (((rf_i (rf_i (rf_i m 19 (Int32.toNatClampNeg (m.1 13 3)) (m.1 14 4)) 22 (Int32.toNatClampNeg ((rf_i m 19 (Int32.toNatClampNeg (m.1 13 3)) (m.1 14 4)).1 13 3)) ((rf_i m 19 (Int32.toNatClampNeg (m.1 13 3)) (m.1 14 4)).1 14 3)) 23 (Int32.toNatClampNeg ((rf_i (rf_i m 19 (Int32.toNatClampNeg (m.1 13 3)) (m.1 14 4)) 22 (Int32.toNatClampNeg ((rf_i m 19 (Int32.toNatClampNeg (m.1 13 3)) (m.1 14 4)).1 13 3)) ((rf_i m 19 (Int32.toNatClampNeg (m.1 13 3)) (m.1 14 4)).1 14 3)).1 13 3)) ((rf_i (rf_i m 19 (Int32.toNatClampNeg (m.1 13 3)) (m.1 14 4)) 22 (Int32.toNatClampNeg ((rf_i m 19 (Int32.toNatClampNeg (m.1 13 3)) (m.1 14 4)).1 13 3)) ((rf_i m 19 (Int32.toNatClampNeg (m.1 13 3)) (m.1 14 4)).1 14 3)).1 14 2)).1 13 3) * 160) ((rf_i (rf_i (rf_i m 19 (Int32.toNatClampNeg (m.1 13 3)) (m.1 14 4)) 22 (Int32.toNatClampNeg ((rf_i m 19 (Int32.toNatClampNeg (m.1 13 3)) (m.1 14 4)).1 13 3)) ((rf_i m 19 (Int32.toNatClampNeg (m.1 13 3)) (m.1 14 4)).1 14 3)) 23 (Int32.toNatClampNeg ((rf_i (rf_i m 19 (Int32.toNatClampNeg (m.1 13 3)) (m.1 14 4)) 22 (Int32.toNatClampNeg ((rf_i m 19 (Int32.toNatClampNeg (m.1 13 3)) (m.1 14 4)).1 13 3)) ((rf_i m 19 (Int32.toNatClampNeg (m.1 13 3)) (m.1 14 4)).1 14 3)).1 13 3)) ((rf_i (rf_i m 19 (Int32.toNatClampNeg (m.1 13 3)) (m.1 14 4)) 22 (Int32.toNatClampNeg ((rf_i m 19 (Int32.toNatClampNeg (m.1 13 3)) (m.1 14 4)).1 13 3)) ((rf_i m 19 (Int32.toNatClampNeg (m.1 13 3)) (m.1 14 4)).1 14 3)).1 14 2)).1 14 2)) 13 3 (((rf_ci (rf_i (rf_i (rf_i m 19 (Int32.toNatClampNeg (m.1 13 3)) (m.1 14 4)) 22 (Int32.toNatClampNeg ((rf_i m 19 (Int32.toNatClampNeg (m.1 13 3)) (m.1 14 4)).1 13 3)) ((rf_i m 19 (Int32.toNatClampNeg (m.1 13 3)) (m.1 14 4)).1 14 3)) 23 (Int32.toNatClampNeg ((rf_i (rf_i m 19 (Int32.toNatClampNeg (m.1 13 3)) (m.1 14 4)) 22 (Int32.toNatClampNeg ((rf_i m 19 (Int32.toNatClampNeg (m.1 13 3)) (m.1 14 4)).1 13 3)) ((rf_i m 19 (Int32.toNatClampNeg (m.1 13 3)) (m.1 14 4)).1 14 3)).1 13 3)) ((rf_i (rf_i m 19 (Int32.toNatClampNeg (m.1 13 3)) (m.1 14 4)) 22 (Int32.toNatClampNeg ((rf_i m 19 (Int32.toNatClampNeg (m.1 13 3)) (m.1 14 4)).1 13 3)) ((rf_i m 19 (Int32.toNatClampNeg (m.1 13 3)) (m.1 14 4)).1 14 3)).1 14 2)) 16 24 0 (((rf_i (rf_i (rf_i m 19 (Int32.toNatClampNeg (m.1 13 3)) (m.1 14 4)) 22 (Int32.toNatClampNeg ((rf_i m 19 (Int32.toNatClampNeg (m.1 13 3)) (m.1 14 4)).1 13 3)) ((rf_i m 19 (Int32.toNatClampNeg (m.1 13 3)) (m.1 14 4)).1 14 3)) 23 (Int32.toNatClampNeg ((rf_i (rf_i m 19 (Int32.toNatClampNeg (m.1 13 3)) (m.1 14 4)) 22 (Int32.toNatClampNeg ((rf_i m 19 (Int32.toNatClampNeg (m.1 13 3)) (m.1 14 4)).1 13 3)) ((rf_i m 19 (Int32.toNatClampNeg (m.1 13 3)) (m.1 14 4)).1 14 3)).1 13 3)) ((rf_i (rf_i m 19 (Int32.toNatClampNeg (m.1 13 3)) (m.1 14 4)) 22 (Int32.toNatClampNeg ((rf_i m 19 (Int32.toNatClampNeg (m.1 13 3)) (m.1 14 4)).1 13 3)) ((rf_i m 19 (Int32.toNatClampNeg (m.1 13 3)) (m.1 14 4)).1 14 3)).1 14 2)).1 13 3) * 160) ((rf_i (rf_i (rf_i m 19 (Int32.toNatClampNeg (m.1 13 3)) (m.1 14 4)) 22 (Int32.toNatClampNeg ((rf_i m 19 (Int32.toNatClampNeg (m.1 13 3)) (m.1 14 4)).1 13 3)) ((rf_i m 19 (Int32.toNatClampNeg (m.1 13 3)) (m.1 14 4)).1 14 3)) 23 (Int32.toNatClampNeg ((rf_i (rf_i m 19 (Int32.toNatClampNeg (m.1 13 3)) (m.1 14 4)) 22 (Int32.toNatClampNeg ((rf_i m 19 (Int32.toNatClampNeg (m.1 13 3)) (m.1 14 4)).1 13 3)) ((rf_i m 19 (Int32.toNatClampNeg (m.1 13 3)) (m.1 14 4)).1 14 3)).1 13 3)) ((rf_i (rf_i m 19 (Int32.toNatClampNeg (m.1 13 3)) (m.1 14 4)) 22 (Int32.toNatClampNeg ((rf_i m 19 (Int32.toNatClampNeg (m.1 13 3)) (m.1 14 4)).1 13 3)) ((rf_i m 19 (Int32.toNatClampNeg (m.1 13 3)) (m.1 14 4)).1 14 3)).1 14 2)).1 14 2)).1 13 3) + 1)))) (by decide +kernel) rfl trivial ?_
  obtain ⟨m4, hc4, hg⟩ := rf_bv_some hg
  refine rf_callv C rf_fit0 j_X9_putInForce (ci := 9) (As := [.int (((rf_i (rf_ci (rf_i (rf_i (rf_i m 19 (Int32.toNatClampNeg (m.1 13 3)) (m.1 14 4)) 22 (Int32.toNatClampNeg ((rf_i m 19 (Int32.toNatClampNeg (m.1 13 3)) (m.1 14 4)).1 13 3)) ((rf_i m 19 (Int32.toNatClampNeg (m.1 13 3)) (m.1 14 4)).1 14 3)) 23 (Int32.toNatClampNeg ((rf_i (rf_i m 19 (Int32.toNatClampNeg (m.1 13 3)) (m.1 14 4)) 22 (Int32.toNatClampNeg ((rf_i m 19 (Int32.toNatClampNeg (m.1 13 3)) (m.1 14 4)).1 13 3)) ((rf_i m 19 (Int32.toNatClampNeg (m.1 13 3)) (m.1 14 4)).1 14 3)).1 13 3)) ((rf_i (rf_i m 19 (Int32.toNatClampNeg (m.1 13 3)) (m.1 14 4)) 22 (Int32.toNatClampNeg ((rf_i m 19 (Int32.toNatClampNeg (m.1 13 3)) (m.1 14 4)).1 13 3)) ((rf_i m 19 (Int32.toNatClampNeg (m.1 13 3)) (m.1 14 4)).1 14 3)).1 14 2)) 16 24 0 (((rf_i (rf_i (rf_i m 19 (Int32.toNatClampNeg (m.1 13 3)) (m.1 14 4)) 22 (Int32.toNatClampNeg ((rf_i m 19 (Int32.toNatClampNeg (m.1 13 3)) (m.1 14 4)).1 13 3)) ((rf_i m 19 (Int32.toNatClampNeg (m.1 13 3)) (m.1 14 4)).1 14 3)) 23 (Int32.toNatClampNeg ((rf_i (rf_i m 19 (Int32.toNatClampNeg (m.1 13 3)) (m.1 14 4)) 22 (Int32.toNatClampNeg ((rf_i m 19 (Int32.toNatClampNeg (m.1 13 3)) (m.1 14 4)).1 13 3)) ((rf_i m 19 (Int32.toNatClampNeg (m.1 13 3)) (m.1 14 4)).1 14 3)).1 13 3)) ((rf_i (rf_i m 19 (Int32.toNatClampNeg (m.1 13 3)) (m.1 14 4)) 22 (Int32.toNatClampNeg ((rf_i m 19 (Int32.toNatClampNeg (m.1 13 3)) (m.1 14 4)).1 13 3)) ((rf_i m 19 (Int32.toNatClampNeg (m.1 13 3)) (m.1 14 4)).1 14 3)).1 14 2)).1 13 3) * 160) ((rf_i (rf_i (rf_i m 19 (Int32.toNatClampNeg (m.1 13 3)) (m.1 14 4)) 22 (Int32.toNatClampNeg ((rf_i m 19 (Int32.toNatClampNeg (m.1 13 3)) (m.1 14 4)).1 13 3)) ((rf_i m 19 (Int32.toNatClampNeg (m.1 13 3)) (m.1 14 4)).1 14 3)) 23 (Int32.toNatClampNeg ((rf_i (rf_i m 19 (Int32.toNatClampNeg (m.1 13 3)) (m.1 14 4)) 22 (Int32.toNatClampNeg ((rf_i m 19 (Int32.toNatClampNeg (m.1 13 3)) (m.1 14 4)).1 13 3)) ((rf_i m 19 (Int32.toNatClampNeg (m.1 13 3)) (m.1 14 4)).1 14 3)).1 13 3)) ((rf_i (rf_i m 19 (Int32.toNatClampNeg (m.1 13 3)) (m.1 14 4)) 22 (Int32.toNatClampNeg ((rf_i m 19 (Int32.toNatClampNeg (m.1 13 3)) (m.1 14 4)).1 13 3)) ((rf_i m 19 (Int32.toNatClampNeg (m.1 13 3)) (m.1 14 4)).1 14 3)).1 14 2)).1 14 2)) 13 3 (((rf_ci (rf_i (rf_i (rf_i m 19 (Int32.toNatClampNeg (m.1 13 3)) (m.1 14 4)) 22 (Int32.toNatClampNeg ((rf_i m 19 (Int32.toNatClampNeg (m.1 13 3)) (m.1 14 4)).1 13 3)) ((rf_i m 19 (Int32.toNatClampNeg (m.1 13 3)) (m.1 14 4)).1 14 3)) 23 (Int32.toNatClampNeg ((rf_i (rf_i m 19 (Int32.toNatClampNeg (m.1 13 3)) (m.1 14 4)) 22 (Int32.toNatClampNeg ((rf_i m 19 (Int32.toNatClampNeg (m.1 13 3)) (m.1 14 4)).1 13 3)) ((rf_i m 19 (Int32.toNatClampNeg (m.1 13 3)) (m.1 14 4)).1 14 3)).1 13 3)) ((rf_i (rf_i m 19 (Int32.toNatClampNeg (m.1 13 3)) (m.1 14 4)) 22 (Int32.toNatClampNeg ((rf_i m 19 (Int32.toNatClampNeg (m.1 13 3)) (m.1 14 4)).1 13 3)) ((rf_i m 19 (Int32.toNatClampNeg (m.1 13 3)) (m.1 14 4)).1 14 3)).1 14 2)) 16 24 0 (((rf_i (rf_i (rf_i m 19 (Int32.toNatClampNeg (m.1 13 3)) (m.1 14 4)) 22 (Int32.toNatClampNeg ((rf_i m 19 (Int32.toNatClampNeg (m.1 13 3)) (m.1 14 4)).1 13 3)) ((rf_i m 19 (Int32.toNatClampNeg (m.1 13 3)) (m.1 14 4)).1 14 3)) 23 (Int32.toNatClampNeg ((rf_i (rf_i m 19 (Int32.toNatClampNeg (m.1 13 3)) (m.1 14 4)) 22 (Int32.toNatClampNeg ((rf_i m 19 (Int32.toNatClampNeg (m.1 13 3)) (m.1 14 4)).1 13 3)) ((rf_i m 19 (Int32.toNatClampNeg (m.1 13 3)) (m.1 14 4)).1 14 3)).1 13 3)) ((rf_i (rf_i m 19 (Int32.toNatClampNeg (m.1 13 3)) (m.1 14 4)) 22 (Int32.toNatClampNeg ((rf_i m 19 (Int32.toNatClampNeg (m.1 13 3)) (m.1 14 4)).1 13 3)) ((rf_i m 19 (Int32.toNatClampNeg (m.1 13 3)) (m.1 14 4)).1 14 3)).1 14 2)).1 13 3) * 160) ((rf_i (rf_i (rf_i m 19 (Int32.toNatClampNeg (m.1 13 3)) (m.1 14 4)) 22 (Int32.toNatClampNeg ((rf_i m 19 (Int32.toNatClampNeg (m.1 13 3)) (m.1 14 4)).1 13 3)) ((rf_i m 19 (Int32.toNatClampNeg (m.1 13 3)) (m.1 14 4)).1 14 3)) 23 (Int32.toNatClampNeg ((rf_i (rf_i m 19 (Int32.toNatClampNeg (m.1 13 3)) (m.1 14 4)) 22 (Int32.toNatClampNeg ((rf_i m 19 (Int32.toNatClampNeg (m.1 13 3)) (m.1 14 4)).1 13 3)) ((rf_i m 19 (Int32.toNatClampNeg (m.1 13 3)) (m.1 14 4)).1 14 3)).1 13 3)) ((rf_i (rf_i m 19 (Int32.toNatClampNeg (m.1 13 3)) (m.1 14 4)) 22 (Int32.toNatClampNeg ((rf_i m 19 (Int32.toNatClampNeg (m.1 13 3)) (m.1 14 4)).1 13 3)) ((rf_i m 19 (Int32.toNatClampNeg (m.1 13 3)) (m.1 14 4)).1 14 3)).1 14 2)).1 14 2)).1 13 3) + 1)).1 13 3) - 1), .int a1, .int a2]) (rest := []) mw_X9_putInForce (c_X9_putInForce hc4) (by decide) rfl (by decide) lk_9_71 rfl rfl (Nat.le_of_ble_eq_true rfl) (by decide +kernel) ?_
  show rf_V 3 (rf_sh w) K 0 0 100 ([(0, .ref 13), (1, .int a1), (2, .int a2)], [], rf_MM w m4)
  refine rf_seg C [(.aload 0, 1), (.invokeinterface 9 3, 3), (.iconst 1, 1), (.isub, 1)] (pc' := 106) (S' := ([(0, .ref 13), (1, .int a1), (2, .int a2)], [.int ((m4.1 13 3) - 1)], rf_MM w m4)) (by decide +kernel) rfl trivial ?_
  obtain rfl := Option.some.inj hg
  exact rf_iret C hE (by decide +kernel)
-- X9_isStriking
abbrev j_X9_isStriking : rf_J := (9, yX9_isStriking, cX9_isStriking, 2, (some .boolean))
theorem mw_X9_isStriking : rf_mv j_X9_isStriking (rf_R 9) 1 := ⟨⟨rf_mem 46 (by decide +kernel), rf_mem 46 (by decide +kernel), rf_mem 0 (by decide +kernel), rf_mem 46 (by decide +kernel)⟩, by decide +kernel, by decide⟩
def g_X9_isStriking (w : rf_w) (m : rf_m) (a1 : Int32) : Option (Int32 × rf_m) := rf_g (rf_in a1 24) ((if (m.1 19 (Int32.toNatClampNeg a1)) = 1 then some (1, m) else some (0, m)))
theorem c_X9_isStriking {w : rf_w} {m : rf_m} {a1 : Int32} {r : Int32 × rf_m} (hg : g_X9_isStriking w m a1 = some r) : rf_Con j_X9_isStriking 1 (rf_sh w) [.ref 13, .int a1] (rf_MM w m) (some (.int r.1)) (rf_MM w r.2) := by
  refine rf_con j_X9_isStriking 1 ⟨by decide +kernel, rfl, Nat.le_of_ble_eq_true rfl⟩ (fun K C hE => ?_)
  unfold g_X9_isStriking at hg
  show rf_V 2 (rf_sh w) K 0 0 0 ([(0, .ref 13), (1, .int a1)], [], rf_MM w m)
  obtain ⟨q0, hg⟩ := rf_g_some hg
  refine rf_seg C [(.aload 0, 1), (.invokeinterface 9 4, 3), (.iload 1, 1), (.iaload, 1), (.iconst 1, 1)] (pc' := 7) (S' := ([(0, .ref 13), (1, .int a1)], [.int 1, .int (m.1 19 (Int32.toNatClampNeg a1))], rf_MM w m)) (by decide +kernel) rfl (rf_in_of q0) ?_
  refine rf_icmp_ne C 7 14 (by decide +kernel) (fun hc => ?_) (fun hc => ?_)
  · replace hg := (if_neg hc).symm.trans hg
    refine rf_seg C [(.iconst 0, 1)] (pc' := 15) (S' := ([(0, .ref 13), (1, .int a1)], [.int 0], rf_MM w m)) (by decide +kernel) rfl trivial ?_
    obtain rfl := Option.some.inj hg
    exact rf_zret C hE (by decide) (by decide +kernel)
  · replace hg := (if_pos hc).symm.trans hg
    refine rf_seg C [(.iconst 1, 1)] (pc' := 11) (S' := ([(0, .ref 13), (1, .int a1)], [.int 1], rf_MM w m)) (by decide +kernel) rfl trivial ?_
    refine rf_goto C 4 15 (by decide +kernel) ?_
    obtain rfl := Option.some.inj hg
    exact rf_zret C hE (by decide) (by decide +kernel)
-- X9_latest
abbrev j_X9_latest : rf_J := (9, yX9_latest, cX9_latest, 5, (some .int))
theorem mw_X9_latest : rf_mv j_X9_latest (rf_R 9) 3 := ⟨⟨rf_mem 51 (by decide +kernel), rf_mem 52 (by decide +kernel), rf_mem 0 (by decide +kernel), rf_mem 52 (by decide +kernel)⟩, by decide +kernel, by decide⟩
def g_X9_latest_12_b (w : rf_w) (rec12 : Int32 → Int32 → Int32 → Int32 → rf_m → Option (Int32 × rf_m)) (a1 : Int32) (a2 : Int32) (a3 : Int32) (a4 : Int32) (m : rf_m) : Option (Int32 × rf_m) := (if a4 < 0 then some (a3, m) else rf_b (g_X9_isDue w m a4 a1 a2) fun y0 m0 => (if y0 = 0 then rec12 a1 a2 a3 (a4 + (-1)) m0 else rf_b (g_X9_total w m0 a4) fun y1 m1 => some (y1, m1)))
def g_X9_latest_12 (w : rf_w) : Nat → Int32 → Int32 → Int32 → Int32 → rf_m → Option (Int32 × rf_m)
  | 0, _, _, _, _, _ => none
  | n + 1, a1, a2, a3, a4, m => g_X9_latest_12_b w (g_X9_latest_12 w n) a1 a2 a3 a4 m
def g_X9_latest (w : rf_w) (m : rf_m) (a1 : Int32) (a2 : Int32) (a3 : Int32) : Option (Int32 × rf_m) := rf_bv (g_X9_clearFacts w m) fun m0 => g_X9_latest_12 w rf_fuel a1 a2 a3 ((m0.1 13 3) - 1) m0
theorem s_X9_latest_12_b {w : rf_w} {K : rf_K} {r : Int32 × rf_m} (C : rf_Ctx 9 cX9_latest 5 4 (rf_sh w) K) (hE : rf_End (some .int) K (rf_sh w) 0 0 (some (.int r.1)) (rf_MM w r.2)) {rec12 : Int32 → Int32 → Int32 → Int32 → rf_m → Option (Int32 × rf_m)} (hr12 : ∀ (a1 : Int32) (a2 : Int32) (a3 : Int32) (a4 : Int32) (m : rf_m), rec12 a1 a2 a3 a4 m = some r → rf_V 5 (rf_sh w) K 0 0 12 ([(0, .ref 13), (1, .int a1), (2, .int a2), (3, .int a3), (4, .int a4)], [], rf_MM w m)) (a1 : Int32) (a2 : Int32) (a3 : Int32) (a4 : Int32) (m : rf_m) (hg : g_X9_latest_12_b w rec12 a1 a2 a3 a4 m = some r) : rf_V 5 (rf_sh w) K 0 0 12 ([(0, .ref 13), (1, .int a1), (2, .int a2), (3, .int a3), (4, .int a4)], [], rf_MM w m) := by
  unfold g_X9_latest_12_b at hg
  refine rf_seg C [(.iload 4, 2)] (pc' := 14) (S' := ([(0, .ref 13), (1, .int a1), (2, .int a2), (3, .int a3), (4, .int a4)], [.int a4], rf_MM w m)) (by decide +kernel) rfl trivial ?_
  refine rf_if_lt C 27 41 (by decide +kernel) (fun hc => ?_) (fun hc => ?_)
  · replace hg := (if_pos hc).symm.trans hg
    refine rf_seg C [(.iload 3, 1)] (pc' := 42) (S' := ([(0, .ref 13), (1, .int a1), (2, .int a2), (3, .int a3), (4, .int a4)], [.int a3], rf_MM w m)) (by decide +kernel) rfl trivial ?_
    obtain rfl := Option.some.inj hg
    exact rf_iret C hE (by decide +kernel)
  · replace hg := (if_neg hc).symm.trans hg
    refine rf_seg C [(.aload 0, 1), (.iload 4, 2), (.iload 1, 1), (.iload 2, 1)] (pc' := 22) (S' := ([(0, .ref 13), (1, .int a1), (2, .int a2), (3, .int a3), (4, .int a4)], [.int a2, .int a1, .int a4, .ref 13], rf_MM w m)) (by decide +kernel) rfl trivial ?_
    obtain ⟨y0, m0, hc0, hg⟩ := rf_b_some hg
    refine rf_callv C rf_fit0 j_X9_isDue (ci := 9) (As := [.int a4, .int a1, .int a2]) (rest := []) mw_X9_isDue (c_X9_isDue hc0) (by decide) rfl (by decide) lk_9_81 rfl rfl (Nat.le_of_ble_eq_true rfl) (by decide +kernel) ?_
    show rf_V 5 (rf_sh w) K 0 0 25 ([(0, .ref 13), (1, .int a1), (2, .int a2), (3, .int a3), (4, .int a4)], [.int y0], rf_MM w m0)
    refine rf_if_eq C 10 35 (by decide +kernel) (fun hc => ?_) (fun hc => ?_)
    · replace hg := (if_pos hc).symm.trans hg
      refine rf_seg C [(.iinc 4 (-1), 3)] (pc' := 38) (S' := ([(4, .int (a4 + (-1))), (0, .ref 13), (1, .int a1), (2, .int a2), (3, .int a3)], [], rf_MM w m0)) (by decide +kernel) rfl trivial ?_
      refine rf_goto C (-26) 12 (by decide +kernel) ?_
      refine rf_few [1, 2, 3, 4, 0] rfl ?_
      exact hr12 a1 a2 a3 (a4 + (-1)) m0 hg
    · replace hg := (if_neg hc).symm.trans hg
      refine rf_seg C [(.aload 0, 1), (.iload 4, 2)] (pc' := 31) (S' := ([(0, .ref 13), (1, .int a1), (2, .int a2), (3, .int a3), (4, .int a4)], [.int a4, .ref 13], rf_MM w m0)) (by decide +kernel) rfl trivial ?_
      obtain ⟨y1, m1, hc1, hg⟩ := rf_b_some hg
      refine rf_callv C rf_fit0 j_X9_total (ci := 9) (As := [.int a4]) (rest := []) mw_X9_total (c_X9_total hc1) (by decide) rfl (by decide) lk_9_89 rfl rfl (Nat.le_of_ble_eq_true rfl) (by decide +kernel) ?_
      show rf_V 5 (rf_sh w) K 0 0 34 ([(0, .ref 13), (1, .int a1), (2, .int a2), (3, .int a3), (4, .int a4)], [.int y1], rf_MM w m1)
      obtain rfl := Option.some.inj hg
      exact rf_iret C hE (by decide +kernel)
theorem s_X9_latest_12 {w : rf_w} {K : rf_K} {r : Int32 × rf_m} (C : rf_Ctx 9 cX9_latest 5 4 (rf_sh w) K) (hE : rf_End (some .int) K (rf_sh w) 0 0 (some (.int r.1)) (rf_MM w r.2)) (n : Nat) : ∀ (a1 : Int32) (a2 : Int32) (a3 : Int32) (a4 : Int32) (m : rf_m), g_X9_latest_12 w n a1 a2 a3 a4 m = some r → rf_V 5 (rf_sh w) K 0 0 12 ([(0, .ref 13), (1, .int a1), (2, .int a2), (3, .int a3), (4, .int a4)], [], rf_MM w m) := by
  induction n with
  | zero => intro a1 a2 a3 a4 m hg; cases hg
  | succ n ih => intro a1 a2 a3 a4 m hg; exact s_X9_latest_12_b C hE ih a1 a2 a3 a4 m hg
theorem c_X9_latest {w : rf_w} {m : rf_m} {a1 : Int32} {a2 : Int32} {a3 : Int32} {r : Int32 × rf_m} (hg : g_X9_latest w m a1 a2 a3 = some r) : rf_Con j_X9_latest 4 (rf_sh w) [.ref 13, .int a1, .int a2, .int a3] (rf_MM w m) (some (.int r.1)) (rf_MM w r.2) := by
  refine rf_con j_X9_latest 4 ⟨by decide +kernel, rfl, Nat.le_of_ble_eq_true rfl⟩ (fun K C hE => ?_)
  unfold g_X9_latest at hg
  show rf_V 5 (rf_sh w) K 0 0 0 ([(0, .ref 13), (1, .int a1), (2, .int a2), (3, .int a3)], [], rf_MM w m)
  refine rf_seg C [(.aload 0, 1)] (pc' := 1) (S' := ([(0, .ref 13), (1, .int a1), (2, .int a2), (3, .int a3)], [.ref 13], rf_MM w m)) (by decide +kernel) rfl trivial ?_
  obtain ⟨m0, hc0, hg⟩ := rf_bv_some hg
  refine rf_callv C rf_fit0 j_X9_clearFacts (ci := 9) (As := []) (rest := []) mw_X9_clearFacts (c_X9_clearFacts hc0) (by decide) rfl (by decide) lk_9_106 rfl rfl (Nat.le_of_ble_eq_true rfl) (by decide +kernel) ?_
  show rf_V 5 (rf_sh w) K 0 0 4 ([(0, .ref 13), (1, .int a1), (2, .int a2), (3, .int a3)], [], rf_MM w m0)
  refine rf_seg C [(.aload 0, 1), (.invokeinterface 9 3, 3), (.iconst 1, 1), (.isub, 1), (.istore 4, 2)] (pc' := 12) (S' := ([(4, .int ((m0.1 13 3) - 1)), (0, .ref 13), (1, .int a1), (2, .int a2), (3, .int a3)], [], rf_MM w m0)) (by decide +kernel) rfl trivial ?_
  refine rf_few [1, 2, 3, 4, 0] rfl ?_
  exact s_X9_latest_12 C hE rf_fuel a1 a2 a3 ((m0.1 13 3) - 1) m0 hg
-- X9_leastAngle
abbrev j_X9_leastAngle : rf_J := (9, yX9_leastAngle, cX9_leastAngle, 2, (some .int))
theorem mw_X9_leastAngle : rf_mv j_X9_leastAngle (rf_R 9) 1 := ⟨⟨rf_mem 51 (by decide +kernel), rf_mem 51 (by decide +kernel), rf_mem 0 (by decide +kernel), rf_mem 51 (by decide +kernel)⟩, by decide +kernel, by decide⟩
def g_X9_leastAngle (w : rf_w) (m : rf_m) (a1 : Int32) : Option (Int32 × rf_m) := rf_b (g_X9_latest w m 4 a1 0) fun y0 m0 => some (y0, m0)
theorem c_X9_leastAngle {w : rf_w} {m : rf_m} {a1 : Int32} {r : Int32 × rf_m} (hg : g_X9_leastAngle w m a1 = some r) : rf_Con j_X9_leastAngle 5 (rf_sh w) [.ref 13, .int a1] (rf_MM w m) (some (.int r.1)) (rf_MM w r.2) := by
  refine rf_con j_X9_leastAngle 5 ⟨by decide +kernel, rfl, Nat.le_of_ble_eq_true rfl⟩ (fun K C hE => ?_)
  unfold g_X9_leastAngle at hg
  show rf_V 2 (rf_sh w) K 0 0 0 ([(0, .ref 13), (1, .int a1)], [], rf_MM w m)
  refine rf_seg C [(.aload 0, 1), (.iconst 4, 1), (.iload 1, 1), (.iconst 0, 1)] (pc' := 4) (S' := ([(0, .ref 13), (1, .int a1)], [.int 0, .int a1, .int 4, .ref 13], rf_MM w m)) (by decide +kernel) rfl trivial ?_
  obtain ⟨y0, m0, hc0, hg⟩ := rf_b_some hg
  refine rf_callv C rf_fit0 j_X9_latest (ci := 9) (As := [.int 4, .int a1, .int 0]) (rest := []) mw_X9_latest (c_X9_latest hc0) (by decide) rfl (by decide) lk_9_102 rfl rfl (Nat.le_of_ble_eq_true rfl) (by decide +kernel) ?_
  show rf_V 2 (rf_sh w) K 0 0 7 ([(0, .ref 13), (1, .int a1)], [.int y0], rf_MM w m0)
  obtain rfl := Option.some.inj hg
  exact rf_iret C hE (by decide +kernel)
-- X9_allowedMiss
abbrev j_X9_allowedMiss : rf_J := (9, yX9_allowedMiss, cX9_allowedMiss, 2, (some .int))
theorem mw_X9_allowedMiss : rf_mv j_X9_allowedMiss (rf_R 9) 1 := ⟨⟨rf_mem 52 (by decide +kernel), rf_mem 52 (by decide +kernel), rf_mem 0 (by decide +kernel), rf_mem 52 (by decide +kernel)⟩, by decide +kernel, by decide⟩
def g_X9_allowedMiss (w : rf_w) (m : rf_m) (a1 : Int32) : Option (Int32 × rf_m) := rf_b (g_X9_latest w m 5 a1 100) fun y0 m0 => rf_b (g_max w m0 0 y0) fun y1 m1 => some (y1, m1)
theorem c_X9_allowedMiss {w : rf_w} {m : rf_m} {a1 : Int32} {r : Int32 × rf_m} (hg : g_X9_allowedMiss w m a1 = some r) : rf_Con j_X9_allowedMiss 5 (rf_sh w) [.ref 13, .int a1] (rf_MM w m) (some (.int r.1)) (rf_MM w r.2) := by
  refine rf_con j_X9_allowedMiss 5 ⟨by decide +kernel, rfl, Nat.le_of_ble_eq_true rfl⟩ (fun K C hE => ?_)
  unfold g_X9_allowedMiss at hg
  show rf_V 2 (rf_sh w) K 0 0 0 ([(0, .ref 13), (1, .int a1)], [], rf_MM w m)
  refine rf_seg C [(.iconst 0, 1), (.aload 0, 1), (.iconst 5, 1), (.iload 1, 1), (.iconst 100, 2)] (pc' := 6) (S' := ([(0, .ref 13), (1, .int a1)], [.int 100, .int a1, .int 5, .ref 13, .int 0], rf_MM w m)) (by decide +kernel) rfl trivial ?_
  obtain ⟨y0, m0, hc0, hg⟩ := rf_b_some hg
  refine rf_callv C rf_fit0 j_X9_latest (ci := 9) (As := [.int 5, .int a1, .int 100]) (rest := [.int 0]) mw_X9_latest (c_X9_latest hc0) (by decide) rfl (by decide) lk_9_102 rfl rfl (Nat.le_of_ble_eq_true rfl) (by decide +kernel) ?_
  show rf_V 2 (rf_sh w) K 0 0 9 ([(0, .ref 13), (1, .int a1)], [.int y0, .int 0], rf_MM w m0)
  obtain ⟨y1, m1, hc1, hg⟩ := rf_b_some hg
  refine rf_calls C rf_fit0 j_max (As := [.int 0, .int y0]) (rest := []) mw_max (c_max hc1) (by decide) lk_9_99 rfl rfl (Nat.le_of_ble_eq_true rfl) (by decide +kernel) ?_
  show rf_V 2 (rf_sh w) K 0 0 12 ([(0, .ref 13), (1, .int a1)], [.int y1], rf_MM w m1)
  obtain rfl := Option.some.inj hg
  exact rf_iret C hE (by decide +kernel)
-- X10_sight
abbrev j_X10_sight : rf_J := (10, yX10_sight, cX10_sight, 2, (some .int))
theorem mw_X10_sight : rf_ms j_X10_sight 2 := ⟨⟨rf_mem 89 (by decide +kernel), rf_mem 1 (by decide +kernel), rf_mem 89 (by decide +kernel)⟩, by decide +kernel, by decide⟩
def g_X10_sight (w : rf_w) (m : rf_m) (a0 : Int32) (a1 : Int32) : Option (Int32 × rf_m) := some ((a0 * 30) + a1, m)
theorem c_X10_sight {w : rf_w} {m : rf_m} {a0 : Int32} {a1 : Int32} {r : Int32 × rf_m} (hg : g_X10_sight w m a0 a1 = some r) : rf_Con j_X10_sight 1 (rf_sh w) [.int a0, .int a1] (rf_MM w m) (some (.int r.1)) (rf_MM w r.2) := by
  refine rf_con j_X10_sight 1 ⟨by decide +kernel, rfl, Nat.le_of_ble_eq_true rfl⟩ (fun K C hE => ?_)
  unfold g_X10_sight at hg
  show rf_V 2 (rf_sh w) K 0 0 0 ([(0, .int a0), (1, .int a1)], [], rf_MM w m)
  refine rf_seg C [(.iload 0, 1), (.iconst 30, 2), (.imul, 1), (.iload 1, 1), (.iadd, 1)] (pc' := 6) (S' := ([(0, .int a0), (1, .int a1)], [.int ((a0 * 30) + a1)], rf_MM w m)) (by decide +kernel) rfl trivial ?_
  obtain rfl := Option.some.inj hg
  exact rf_iret C hE (by decide +kernel)
-- X10_addStar
abbrev j_X10_addStar : rf_J := (10, yX10_addStar, cX10_addStar, 4, (some .int))
theorem mw_X10_addStar : rf_mv j_X10_addStar (rf_R 10) 3 := ⟨⟨rf_mem 88 (by decide +kernel), rf_mem 88 (by decide +kernel), rf_mem 1 (by decide +kernel), rf_mem 88 (by decide +kernel)⟩, by decide +kernel, by decide⟩
def g_X10_addStar (w : rf_w) (m : rf_m) (a1 : Int32) (a2 : Int32) (a3 : Int32) : Option (Int32 × rf_m) := rf_g (rf_in (m.1 193 0) 20) (rf_g (rf_in ((rf_i m 194 (Int32.toNatClampNeg (m.1 193 0)) a1).1 193 0) 20) (rf_g (rf_in ((rf_i (rf_i m 194 (Int32.toNatClampNeg (m.1 193 0)) a1) 195 (Int32.toNatClampNeg ((rf_i m 194 (Int32.toNatClampNeg (m.1 193 0)) a1).1 193 0)) a2).1 193 0) 20) (some (((rf_i (rf_i (rf_i (rf_i m 194 (Int32.toNatClampNeg (m.1 193 0)) a1) 195 (Int32.toNatClampNeg ((rf_i m 194 (Int32.toNatClampNeg (m.1 193 0)) a1).1 193 0)) a2) 196 (Int32.toNatClampNeg ((rf_i (rf_i m 194 (Int32.toNatClampNeg (m.1 193 0)) a1) 195 (Int32.toNatClampNeg ((rf_i m 194 (Int32.toNatClampNeg (m.1 193 0)) a1).1 193 0)) a2).1 193 0)) a3) 193 0 (((rf_i (rf_i (rf_i m 194 (Int32.toNatClampNeg (m.1 193 0)) a1) 195 (Int32.toNatClampNeg ((rf_i m 194 (Int32.toNatClampNeg (m.1 193 0)) a1).1 193 0)) a2) 196 (Int32.toNatClampNeg ((rf_i (rf_i m 194 (Int32.toNatClampNeg (m.1 193 0)) a1) 195 (Int32.toNatClampNeg ((rf_i m 194 (Int32.toNatClampNeg (m.1 193 0)) a1).1 193 0)) a2).1 193 0)) a3).1 193 0) + 1)).1 193 0) - 1, rf_i (rf_i (rf_i (rf_i m 194 (Int32.toNatClampNeg (m.1 193 0)) a1) 195 (Int32.toNatClampNeg ((rf_i m 194 (Int32.toNatClampNeg (m.1 193 0)) a1).1 193 0)) a2) 196 (Int32.toNatClampNeg ((rf_i (rf_i m 194 (Int32.toNatClampNeg (m.1 193 0)) a1) 195 (Int32.toNatClampNeg ((rf_i m 194 (Int32.toNatClampNeg (m.1 193 0)) a1).1 193 0)) a2).1 193 0)) a3) 193 0 (((rf_i (rf_i (rf_i m 194 (Int32.toNatClampNeg (m.1 193 0)) a1) 195 (Int32.toNatClampNeg ((rf_i m 194 (Int32.toNatClampNeg (m.1 193 0)) a1).1 193 0)) a2) 196 (Int32.toNatClampNeg ((rf_i (rf_i m 194 (Int32.toNatClampNeg (m.1 193 0)) a1) 195 (Int32.toNatClampNeg ((rf_i m 194 (Int32.toNatClampNeg (m.1 193 0)) a1).1 193 0)) a2).1 193 0)) a3).1 193 0) + 1)))))
theorem c_X10_addStar {w : rf_w} {m : rf_m} {a1 : Int32} {a2 : Int32} {a3 : Int32} {r : Int32 × rf_m} (hg : g_X10_addStar w m a1 a2 a3 = some r) : rf_Con j_X10_addStar 1 (rf_sh w) [.ref 193, .int a1, .int a2, .int a3] (rf_MM w m) (some (.int r.1)) (rf_MM w r.2) := by
  refine rf_con j_X10_addStar 1 ⟨by decide +kernel, rfl, Nat.le_of_ble_eq_true rfl⟩ (fun K C hE => ?_)
  unfold g_X10_addStar at hg
  show rf_V 4 (rf_sh w) K 0 0 0 ([(0, .ref 193), (1, .int a1), (2, .int a2), (3, .int a3)], [], rf_MM w m)
  obtain ⟨q0, hg⟩ := rf_g_some hg
  obtain ⟨q1, hg⟩ := rf_g_some hg
  obtain ⟨q2, hg⟩ := rf_g_some hg
  refine rf_seg C [(.aload 0, 1), (.invokeinterface 10 3, 3), (.aload 0, 1), (.invokeinterface 10 0, 3), (.iload 1, 1), (.iastore, 1), (.aload 0, 1), (.invokeinterface 10 4, 3), (.aload 0, 1), (.invokeinterface 10 0, 3), (.iload 2, 1), (.iastore, 1), (.aload 0, 1), (.invokeinterface 10 5, 3), (.aload 0, 1), (.invokeinterface 10 0, 3), (.iload 3, 1), (.iastore, 1), (.aload 0, 1), (.dup, 1), (.invokeinterface 10 0, 3), (.iconst 1, 1), (.iadd, 1), (.multianewarray 10 0, 3), (.aload 0, 1), (.invokeinterface 10 0, 3), (.iconst 1, 1), (.isub, 1)] (pc' := 46) (S' := ([(0, .ref 193), (1, .int a1), (2, .int a2), (3, .int a3)], [.int (((rf_i (rf_i (rf_i (rf_i m 194 (Int32.toNatClampNeg (m.1 193 0)) a1) 195 (Int32.toNatClampNeg ((rf_i m 194 (Int32.toNatClampNeg (m.1 193 0)) a1).1 193 0)) a2) 196 (Int32.toNatClampNeg ((rf_i (rf_i m 194 (Int32.toNatClampNeg (m.1 193 0)) a1) 195 (Int32.toNatClampNeg ((rf_i m 194 (Int32.toNatClampNeg (m.1 193 0)) a1).1 193 0)) a2).1 193 0)) a3) 193 0 (((rf_i (rf_i (rf_i m 194 (Int32.toNatClampNeg (m.1 193 0)) a1) 195 (Int32.toNatClampNeg ((rf_i m 194 (Int32.toNatClampNeg (m.1 193 0)) a1).1 193 0)) a2) 196 (Int32.toNatClampNeg ((rf_i (rf_i m 194 (Int32.toNatClampNeg (m.1 193 0)) a1) 195 (Int32.toNatClampNeg ((rf_i m 194 (Int32.toNatClampNeg (m.1 193 0)) a1).1 193 0)) a2).1 193 0)) a3).1 193 0) + 1)).1 193 0) - 1)], rf_MM w (rf_i (rf_i (rf_i (rf_i m 194 (Int32.toNatClampNeg (m.1 193 0)) a1) 195 (Int32.toNatClampNeg ((rf_i m 194 (Int32.toNatClampNeg (m.1 193 0)) a1).1 193 0)) a2) 196 (Int32.toNatClampNeg ((rf_i (rf_i m 194 (Int32.toNatClampNeg (m.1 193 0)) a1) 195 (Int32.toNatClampNeg ((rf_i m 194 (Int32.toNatClampNeg (m.1 193 0)) a1).1 193 0)) a2).1 193 0)) a3) 193 0 (((rf_i (rf_i (rf_i m 194 (Int32.toNatClampNeg (m.1 193 0)) a1) 195 (Int32.toNatClampNeg ((rf_i m 194 (Int32.toNatClampNeg (m.1 193 0)) a1).1 193 0)) a2) 196 (Int32.toNatClampNeg ((rf_i (rf_i m 194 (Int32.toNatClampNeg (m.1 193 0)) a1) 195 (Int32.toNatClampNeg ((rf_i m 194 (Int32.toNatClampNeg (m.1 193 0)) a1).1 193 0)) a2).1 193 0)) a3).1 193 0) + 1)))) (by decide +kernel) rfl (by exact ⟨(rf_in_of q0), (rf_in_of q1), (rf_in_of q2)⟩) ?_
  obtain rfl := Option.some.inj hg
  exact rf_iret C hE (by decide +kernel)
-- X10_northOf
abbrev j_X10_northOf : rf_J := (10, yX10_northOf, cX10_northOf, 3, (some .int))
theorem mw_X10_northOf : rf_mv j_X10_northOf (rf_R 10) 2 := ⟨⟨rf_mem 90 (by decide +kernel), rf_mem 90 (by decide +kernel), rf_mem 1 (by decide +kernel), rf_mem 90 (by decide +kernel)⟩, by decide +kernel, by decide⟩
def g_X10_northOf (w : rf_w) (m : rf_m) (a1 : Int32) (a2 : Int32) : Option (Int32 × rf_m) := rf_b (g_X10_sight w m a1 a2) fun y0 m0 => rf_g (rf_in y0 900) ((if (0 : Int32) ≤ (m0.1 197 (Int32.toNatClampNeg y0)) then rf_b (g_X10_sight w m0 a1 a2) fun y2 m2 => rf_g (rf_in y2 900) (some (m2.1 198 (Int32.toNatClampNeg y2), m2)) else some ((-2), m0)))
theorem c_X10_northOf {w : rf_w} {m : rf_m} {a1 : Int32} {a2 : Int32} {r : Int32 × rf_m} (hg : g_X10_northOf w m a1 a2 = some r) : rf_Con j_X10_northOf 2 (rf_sh w) [.ref 193, .int a1, .int a2] (rf_MM w m) (some (.int r.1)) (rf_MM w r.2) := by
  refine rf_con j_X10_northOf 2 ⟨by decide +kernel, rfl, Nat.le_of_ble_eq_true rfl⟩ (fun K C hE => ?_)
  unfold g_X10_northOf at hg
  show rf_V 3 (rf_sh w) K 0 0 0 ([(0, .ref 193), (1, .int a1), (2, .int a2)], [], rf_MM w m)
  refine rf_seg C [(.aload 0, 1), (.invokeinterface 10 6, 3), (.iload 1, 1), (.iload 2, 1)] (pc' := 6) (S' := ([(0, .ref 193), (1, .int a1), (2, .int a2)], [.int a2, .int a1, .ref 197], rf_MM w m)) (by decide +kernel) rfl trivial ?_
  obtain ⟨y0, m0, hc0, hg⟩ := rf_b_some hg
  refine rf_calls C rf_fit0 j_X10_sight (As := [.int a1, .int a2]) (rest := [.ref 197]) mw_X10_sight (c_X10_sight hc0) (by decide) lk_10_53 rfl rfl (Nat.le_of_ble_eq_true rfl) (by decide +kernel) ?_
  show rf_V 3 (rf_sh w) K 0 0 9 ([(0, .ref 193), (1, .int a1), (2, .int a2)], [.int y0, .ref 197], rf_MM w m0)
  obtain ⟨q1, hg⟩ := rf_g_some hg
  refine rf_seg C [(.iaload, 1)] (pc' := 10) (S' := ([(0, .ref 193), (1, .int a1), (2, .int a2)], [.int (m0.1 197 (Int32.toNatClampNeg y0))], rf_MM w m0)) (by decide +kernel) rfl (rf_in_of q1) ?_
  refine rf_if_ge C 8 18 (by decide +kernel) (fun hc => ?_) (fun hc => ?_)
  · replace hg := (if_pos hc).symm.trans hg
    refine rf_seg C [(.aload 0, 1), (.invokeinterface 10 7, 3), (.iload 1, 1), (.iload 2, 1)] (pc' := 24) (S' := ([(0, .ref 193), (1, .int a1), (2, .int a2)], [.int a2, .int a1, .ref 198], rf_MM w m0)) (by decide +kernel) rfl trivial ?_
    obtain ⟨y2, m2, hc2, hg⟩ := rf_b_some hg
    refine rf_calls C rf_fit0 j_X10_sight (As := [.int a1, .int a2]) (rest := [.ref 198]) mw_X10_sight (c_X10_sight hc2) (by decide) lk_10_53 rfl rfl (Nat.le_of_ble_eq_true rfl) (by decide +kernel) ?_
    show rf_V 3 (rf_sh w) K 0 0 27 ([(0, .ref 193), (1, .int a1), (2, .int a2)], [.int y2, .ref 198], rf_MM w m2)
    obtain ⟨q3, hg⟩ := rf_g_some hg
    refine rf_seg C [(.iaload, 1)] (pc' := 28) (S' := ([(0, .ref 193), (1, .int a1), (2, .int a2)], [.int (m2.1 198 (Int32.toNatClampNeg y2))], rf_MM w m2)) (by decide +kernel) rfl (rf_in_of q3) ?_
    obtain rfl := Option.some.inj hg
    exact rf_iret C hE (by decide +kernel)
  · replace hg := (if_neg hc).symm.trans hg
    refine rf_seg C [(.iconst (-2), 2)] (pc' := 15) (S' := ([(0, .ref 193), (1, .int a1), (2, .int a2)], [.int ((-2))], rf_MM w m0)) (by decide +kernel) rfl trivial ?_
    refine rf_goto C 13 28 (by decide +kernel) ?_
    obtain rfl := Option.some.inj hg
    exact rf_iret C hE (by decide +kernel)
-- X10_stepsOf
abbrev j_X10_stepsOf : rf_J := (10, yX10_stepsOf, cX10_stepsOf, 3, (some .int))
theorem mw_X10_stepsOf : rf_mv j_X10_stepsOf (rf_R 10) 2 := ⟨⟨rf_mem 91 (by decide +kernel), rf_mem 91 (by decide +kernel), rf_mem 1 (by decide +kernel), rf_mem 91 (by decide +kernel)⟩, by decide +kernel, by decide⟩
def g_X10_stepsOf (w : rf_w) (m : rf_m) (a1 : Int32) (a2 : Int32) : Option (Int32 × rf_m) := rf_b (g_X10_sight w m a1 a2) fun y0 m0 => rf_g (rf_in y0 900) (some (m0.1 197 (Int32.toNatClampNeg y0), m0))
theorem c_X10_stepsOf {w : rf_w} {m : rf_m} {a1 : Int32} {a2 : Int32} {r : Int32 × rf_m} (hg : g_X10_stepsOf w m a1 a2 = some r) : rf_Con j_X10_stepsOf 2 (rf_sh w) [.ref 193, .int a1, .int a2] (rf_MM w m) (some (.int r.1)) (rf_MM w r.2) := by
  refine rf_con j_X10_stepsOf 2 ⟨by decide +kernel, rfl, Nat.le_of_ble_eq_true rfl⟩ (fun K C hE => ?_)
  unfold g_X10_stepsOf at hg
  show rf_V 3 (rf_sh w) K 0 0 0 ([(0, .ref 193), (1, .int a1), (2, .int a2)], [], rf_MM w m)
  refine rf_seg C [(.aload 0, 1), (.invokeinterface 10 6, 3), (.iload 1, 1), (.iload 2, 1)] (pc' := 6) (S' := ([(0, .ref 193), (1, .int a1), (2, .int a2)], [.int a2, .int a1, .ref 197], rf_MM w m)) (by decide +kernel) rfl trivial ?_
  obtain ⟨y0, m0, hc0, hg⟩ := rf_b_some hg
  refine rf_calls C rf_fit0 j_X10_sight (As := [.int a1, .int a2]) (rest := [.ref 197]) mw_X10_sight (c_X10_sight hc0) (by decide) lk_10_53 rfl rfl (Nat.le_of_ble_eq_true rfl) (by decide +kernel) ?_
  show rf_V 3 (rf_sh w) K 0 0 9 ([(0, .ref 193), (1, .int a1), (2, .int a2)], [.int y0, .ref 197], rf_MM w m0)
  obtain ⟨q1, hg⟩ := rf_g_some hg
  refine rf_seg C [(.iaload, 1)] (pc' := 10) (S' := ([(0, .ref 193), (1, .int a1), (2, .int a2)], [.int (m0.1 197 (Int32.toNatClampNeg y0))], rf_MM w m0)) (by decide +kernel) rfl (rf_in_of q1) ?_
  obtain rfl := Option.some.inj hg
  exact rf_iret C hE (by decide +kernel)
-- X10_rankLayer
abbrev j_X10_rankLayer : rf_J := (10, yX10_rankLayer, cX10_rankLayer, 4, none)
theorem mw_X10_rankLayer : rf_mv j_X10_rankLayer (rf_R 10) 0 := ⟨⟨rf_mem 90 (by decide +kernel), rf_mem 90 (by decide +kernel), rf_mem 1 (by decide +kernel), rf_mem 90 (by decide +kernel)⟩, by decide +kernel, by decide⟩
def g_X10_rankLayer_50 (w : rf_w) (rec2 : Int32 → rf_m → Option (rf_m)) (rec14 : Int32 → Int32 → Int32 → rf_m → Option (rf_m)) (a1 : Int32) (a2 : Int32) (a3 : Int32) (m : rf_m) : Option (rf_m) := rec14 a1 a2 (a3 + 1) m
def g_X10_rankLayer_14_b (w : rf_w) (rec2 : Int32 → rf_m → Option (rf_m)) (rec14 : Int32 → Int32 → Int32 → rf_m → Option (rf_m)) (a1 : Int32) (a2 : Int32) (a3 : Int32) (m : rf_m) : Option (rf_m) := (if (m.1 193 11) ≤ a3 then rf_g (rf_in a1 160) (rf_g (rf_in (m.1 201 (Int32.toNatClampNeg a1)) 900) (rec2 (a1 + 1) (rf_i m 199 (Int32.toNatClampNeg (m.1 201 (Int32.toNatClampNeg a1))) a2))) else rf_g (rf_in a3 160) (rf_g (rf_in (m.1 201 (Int32.toNatClampNeg a3)) 900) (rf_g (rf_in a1 160) (rf_g (rf_in (m.1 201 (Int32.toNatClampNeg a1)) 900) ((if (m.1 200 (Int32.toNatClampNeg (m.1 201 (Int32.toNatClampNeg a1)))) ≤ (m.1 200 (Int32.toNatClampNeg (m.1 201 (Int32.toNatClampNeg a3)))) then g_X10_rankLayer_50 w rec2 rec14 a1 a2 a3 m else g_X10_rankLayer_50 w rec2 rec14 a1 (a2 + 1) a3 m))))))
def g_X10_rankLayer_14 (w : rf_w) (rec2 : Int32 → rf_m → Option (rf_m)) : Nat → Int32 → Int32 → Int32 → rf_m → Option (rf_m)
  | 0, _, _, _, _ => none
  | n + 1, a1, a2, a3, m => g_X10_rankLayer_14_b w rec2 (g_X10_rankLayer_14 w rec2 n) a1 a2 a3 m
def g_X10_rankLayer_2_b (w : rf_w) (rec2 : Int32 → rf_m → Option (rf_m)) (a1 : Int32) (m : rf_m) : Option (rf_m) := (if (m.1 193 11) ≤ a1 then some m else g_X10_rankLayer_14 w rec2 rf_fuel a1 0 0 m)
def g_X10_rankLayer_2 (w : rf_w) : Nat → Int32 → rf_m → Option (rf_m)
  | 0, _, _ => none
  | n + 1, a1, m => g_X10_rankLayer_2_b w (g_X10_rankLayer_2 w n) a1 m
def g_X10_rankLayer (w : rf_w) (m : rf_m) : Option (rf_m) := g_X10_rankLayer_2 w rf_fuel 0 m
theorem s_X10_rankLayer_50 {w : rf_w} {K : rf_K} {r : rf_m} (C : rf_Ctx 10 cX10_rankLayer 4 1 (rf_sh w) K) (hE : rf_End none K (rf_sh w) 0 0 none (rf_MM w r)) {rec2 : Int32 → rf_m → Option (rf_m)} {rec14 : Int32 → Int32 → Int32 → rf_m → Option (rf_m)} (hr2 : ∀ (a1 : Int32) (m : rf_m), rec2 a1 m = some r → rf_V 4 (rf_sh w) K 0 0 2 ([(0, .ref 193), (1, .int a1)], [], rf_MM w m)) (hr14 : ∀ (a1 : Int32) (a2 : Int32) (a3 : Int32) (m : rf_m), rec14 a1 a2 a3 m = some r → rf_V 4 (rf_sh w) K 0 0 14 ([(0, .ref 193), (1, .int a1), (2, .int a2), (3, .int a3)], [], rf_MM w m)) (a1 : Int32) (a2 : Int32) (a3 : Int32) (m : rf_m) (hg : g_X10_rankLayer_50 w rec2 rec14 a1 a2 a3 m = some r) : rf_V 4 (rf_sh w) K 0 0 50 ([(0, .ref 193), (1, .int a1), (2, .int a2), (3, .int a3)], [], rf_MM w m) := by
  unfold g_X10_rankLayer_50 at hg
  refine rf_seg C [(.iinc 3 1, 3)] (pc' := 53) (S' := ([(3, .int (a3 + 1)), (0, .ref 193), (1, .int a1), (2, .int a2)], [], rf_MM w m)) (by decide +kernel) rfl trivial ?_
  refine rf_goto C (-39) 14 (by decide +kernel) ?_
  refine rf_few [1, 2, 3, 0] rfl ?_
  exact hr14 a1 a2 (a3 + 1) m hg
theorem s_X10_rankLayer_14_b {w : rf_w} {K : rf_K} {r : rf_m} (C : rf_Ctx 10 cX10_rankLayer 4 1 (rf_sh w) K) (hE : rf_End none K (rf_sh w) 0 0 none (rf_MM w r)) {rec2 : Int32 → rf_m → Option (rf_m)} {rec14 : Int32 → Int32 → Int32 → rf_m → Option (rf_m)} (hr2 : ∀ (a1 : Int32) (m : rf_m), rec2 a1 m = some r → rf_V 4 (rf_sh w) K 0 0 2 ([(0, .ref 193), (1, .int a1)], [], rf_MM w m)) (hr14 : ∀ (a1 : Int32) (a2 : Int32) (a3 : Int32) (m : rf_m), rec14 a1 a2 a3 m = some r → rf_V 4 (rf_sh w) K 0 0 14 ([(0, .ref 193), (1, .int a1), (2, .int a2), (3, .int a3)], [], rf_MM w m)) (a1 : Int32) (a2 : Int32) (a3 : Int32) (m : rf_m) (hg : g_X10_rankLayer_14_b w rec2 rec14 a1 a2 a3 m = some r) : rf_V 4 (rf_sh w) K 0 0 14 ([(0, .ref 193), (1, .int a1), (2, .int a2), (3, .int a3)], [], rf_MM w m) := by
  unfold g_X10_rankLayer_14_b at hg
  refine rf_seg C [(.iload 3, 1), (.aload 0, 1), (.invokeinterface 10 11, 3)] (pc' := 19) (S' := ([(0, .ref 193), (1, .int a1), (2, .int a2), (3, .int a3)], [.int (m.1 193 11), .int a3], rf_MM w m)) (by decide +kernel) rfl trivial ?_
  refine rf_icmp_ge C 37 56 (by decide +kernel) (fun hc => ?_) (fun hc => ?_)
  · replace hg := (if_pos hc).symm.trans hg
    obtain ⟨q0, hg⟩ := rf_g_some hg
    obtain ⟨q1, hg⟩ := rf_g_some hg
    refine rf_seg C [(.aload 0, 1), (.invokeinterface 10 8, 3), (.aload 0, 1), (.invokeinterface 10 10, 3), (.iload 1, 1), (.iaload, 1), (.iload 2, 1), (.iastore, 1), (.iinc 1 1, 3)] (pc' := 71) (S' := ([(1, .int (a1 + 1)), (0, .ref 193), (2, .int a2), (3, .int a3)], [], rf_MM w (rf_i m 199 (Int32.toNatClampNeg (m.1 201 (Int32.toNatClampNeg a1))) a2))) (by decide +kernel) rfl (by exact ⟨(rf_in_of q0), (rf_in_of q1)⟩) ?_
    refine rf_goto C (-69) 2 (by decide +kernel) ?_
    refine rf_few [1, 0] rfl ?_
    exact hr2 (a1 + 1) (rf_i m 199 (Int32.toNatClampNeg (m.1 201 (Int32.toNatClampNeg a1))) a2) hg
  · replace hg := (if_neg hc).symm.trans hg
    obtain ⟨q2, hg⟩ := rf_g_some hg
    obtain ⟨q3, hg⟩ := rf_g_some hg
    obtain ⟨q4, hg⟩ := rf_g_some hg
    obtain ⟨q5, hg⟩ := rf_g_some hg
    refine rf_seg C [(.aload 0, 1), (.invokeinterface 10 9, 3), (.aload 0, 1), (.invokeinterface 10 10, 3), (.iload 3, 1), (.iaload, 1), (.iaload, 1), (.aload 0, 1), (.invokeinterface 10 9, 3), (.aload 0, 1), (.invokeinterface 10 10, 3), (.iload 1, 1), (.iaload, 1), (.iaload, 1)] (pc' := 44) (S' := ([(0, .ref 193), (1, .int a1), (2, .int a2), (3, .int a3)], [.int (m.1 200 (Int32.toNatClampNeg (m.1 201 (Int32.toNatClampNeg a1)))), .int (m.1 200 (Int32.toNatClampNeg (m.1 201 (Int32.toNatClampNeg a3))))], rf_MM w m)) (by decide +kernel) rfl (by exact ⟨(rf_in_of q2), (rf_in_of q3), (rf_in_of q4), (rf_in_of q5)⟩) ?_
    refine rf_icmp_ge C 6 50 (by decide +kernel) (fun hc => ?_) (fun hc => ?_)
    · replace hg := (if_pos hc).symm.trans hg
      refine rf_few [0, 1, 2, 3] rfl ?_
      exact s_X10_rankLayer_50 C hE hr2 hr14 a1 a2 a3 m hg
    · replace hg := (if_neg hc).symm.trans hg
      refine rf_seg C [(.iinc 2 1, 3)] (pc' := 50) (S' := ([(2, .int (a2 + 1)), (0, .ref 193), (1, .int a1), (3, .int a3)], [], rf_MM w m)) (by decide +kernel) rfl trivial ?_
      refine rf_few [1, 2, 0, 3] rfl ?_
      exact s_X10_rankLayer_50 C hE hr2 hr14 a1 (a2 + 1) a3 m hg
theorem s_X10_rankLayer_14 {w : rf_w} {K : rf_K} {r : rf_m} (C : rf_Ctx 10 cX10_rankLayer 4 1 (rf_sh w) K) (hE : rf_End none K (rf_sh w) 0 0 none (rf_MM w r)) {rec2 : Int32 → rf_m → Option (rf_m)} (hr2 : ∀ (a1 : Int32) (m : rf_m), rec2 a1 m = some r → rf_V 4 (rf_sh w) K 0 0 2 ([(0, .ref 193), (1, .int a1)], [], rf_MM w m)) (n : Nat) : ∀ (a1 : Int32) (a2 : Int32) (a3 : Int32) (m : rf_m), g_X10_rankLayer_14 w rec2 n a1 a2 a3 m = some r → rf_V 4 (rf_sh w) K 0 0 14 ([(0, .ref 193), (1, .int a1), (2, .int a2), (3, .int a3)], [], rf_MM w m) := by
  induction n with
  | zero => intro a1 a2 a3 m hg; cases hg
  | succ n ih => intro a1 a2 a3 m hg; exact s_X10_rankLayer_14_b C hE hr2 ih a1 a2 a3 m hg
theorem s_X10_rankLayer_2_b {w : rf_w} {K : rf_K} {r : rf_m} (C : rf_Ctx 10 cX10_rankLayer 4 1 (rf_sh w) K) (hE : rf_End none K (rf_sh w) 0 0 none (rf_MM w r)) {rec2 : Int32 → rf_m → Option (rf_m)} (hr2 : ∀ (a1 : Int32) (m : rf_m), rec2 a1 m = some r → rf_V 4 (rf_sh w) K 0 0 2 ([(0, .ref 193), (1, .int a1)], [], rf_MM w m)) (a1 : Int32) (m : rf_m) (hg : g_X10_rankLayer_2_b w rec2 a1 m = some r) : rf_V 4 (rf_sh w) K 0 0 2 ([(0, .ref 193), (1, .int a1)], [], rf_MM w m) := by
  unfold g_X10_rankLayer_2_b at hg
  refine rf_seg C [(.iload 1, 1), (.aload 0, 1), (.invokeinterface 10 11, 3)] (pc' := 7) (S' := ([(0, .ref 193), (1, .int a1)], [.int (m.1 193 11), .int a1], rf_MM w m)) (by decide +kernel) rfl trivial ?_
  refine rf_icmp_ge C 67 74 (by decide +kernel) (fun hc => ?_) (fun hc => ?_)
  · replace hg := (if_pos hc).symm.trans hg
    obtain rfl := Option.some.inj hg
    exact rf_vret C hE (by decide +kernel)
  · replace hg := (if_neg hc).symm.trans hg
    refine rf_seg C [(.iconst 0, 1), (.istore 2, 1), (.iconst 0, 1), (.istore 3, 1)] (pc' := 14) (S' := ([(3, .int 0), (2, .int 0), (0, .ref 193), (1, .int a1)], [], rf_MM w m)) (by decide +kernel) rfl trivial ?_
    refine rf_few [2, 3, 1, 0] rfl ?_
    exact s_X10_rankLayer_14 C hE hr2 rf_fuel a1 0 0 m hg
theorem s_X10_rankLayer_2 {w : rf_w} {K : rf_K} {r : rf_m} (C : rf_Ctx 10 cX10_rankLayer 4 1 (rf_sh w) K) (hE : rf_End none K (rf_sh w) 0 0 none (rf_MM w r)) (n : Nat) : ∀ (a1 : Int32) (m : rf_m), g_X10_rankLayer_2 w n a1 m = some r → rf_V 4 (rf_sh w) K 0 0 2 ([(0, .ref 193), (1, .int a1)], [], rf_MM w m) := by
  induction n with
  | zero => intro a1 m hg; cases hg
  | succ n ih => intro a1 m hg; exact s_X10_rankLayer_2_b C hE ih a1 m hg
theorem c_X10_rankLayer {w : rf_w} {m : rf_m} {r : rf_m} (hg : g_X10_rankLayer w m = some r) : rf_Con j_X10_rankLayer 1 (rf_sh w) [.ref 193] (rf_MM w m) none (rf_MM w r) := by
  refine rf_con j_X10_rankLayer 1 ⟨by decide +kernel, rfl, Nat.le_of_ble_eq_true rfl⟩ (fun K C hE => ?_)
  unfold g_X10_rankLayer at hg
  show rf_V 4 (rf_sh w) K 0 0 0 ([(0, .ref 193)], [], rf_MM w m)
  refine rf_seg C [(.iconst 0, 1), (.istore 1, 1)] (pc' := 2) (S' := ([(1, .int 0), (0, .ref 193)], [], rf_MM w m)) (by decide +kernel) rfl trivial ?_
  refine rf_few [1, 0] rfl ?_
  exact s_X10_rankLayer_2 C hE rf_fuel 0 m hg
-- J9_floorMod_7cf53
abbrev j_J9_floorMod_7cf53 : rf_J := (22, yJ9_floorMod_7cf53, cJ9_floorMod_7cf53, 3, (some .int))
theorem mw_J9_floorMod_7cf53 : rf_ms j_J9_floorMod_7cf53 2 := ⟨⟨rf_mem 89 (by decide +kernel), rf_mem 20 (by decide +kernel), rf_mem 89 (by decide +kernel)⟩, by decide +kernel, by decide⟩
def g_J9_floorMod_7cf53 (w : rf_w) (m : rf_m) (a0 : Int32) (a1 : Int32) : Option (Int32 × rf_m) := rf_g (rf_nz a1) ((if (0 : Int32) ≤ (a0 ^^^ a1) then some (a0 - a0 / a1 * a1, m) else (if (a0 - a0 / a1 * a1) = 0 then some (a0 - a0 / a1 * a1, m) else some ((a0 - a0 / a1 * a1) + a1, m))))
theorem c_J9_floorMod_7cf53 {w : rf_w} {m : rf_m} {a0 : Int32} {a1 : Int32} {r : Int32 × rf_m} (hg : g_J9_floorMod_7cf53 w m a0 a1 = some r) : rf_Con j_J9_floorMod_7cf53 1 (rf_sh w) [.int a0, .int a1] (rf_MM w m) (some (.int r.1)) (rf_MM w r.2) := by
  refine rf_con j_J9_floorMod_7cf53 1 ⟨by decide +kernel, rfl, Nat.le_of_ble_eq_true rfl⟩ (fun K C hE => ?_)
  unfold g_J9_floorMod_7cf53 at hg
  show rf_V 3 (rf_sh w) K 0 0 0 ([(0, .int a0), (1, .int a1)], [], rf_MM w m)
  obtain ⟨q0, hg⟩ := rf_g_some hg
  refine rf_seg C [(.iload 0, 1), (.iload 1, 1), (.irem, 1), (.istore 2, 1), (.iload 0, 1), (.iload 1, 1), (.ixor, 1)] (pc' := 7) (S' := ([(2, .int (a0 - a0 / a1 * a1)), (0, .int a0), (1, .int a1)], [.int (a0 ^^^ a1)], rf_MM w m)) (by decide +kernel) rfl (rf_nz_of q0) ?_
  refine rf_if_ge C 11 18 (by decide +kernel) (fun hc => ?_) (fun hc => ?_)
  · replace hg := (if_pos hc).symm.trans hg
    refine rf_seg C [(.iload 2, 1)] (pc' := 19) (S' := ([(2, .int (a0 - a0 / a1 * a1)), (0, .int a0), (1, .int a1)], [.int (a0 - a0 / a1 * a1)], rf_MM w m)) (by decide +kernel) rfl trivial ?_
    obtain rfl := Option.some.inj hg
    exact rf_iret C hE (by decide +kernel)
  · replace hg := (if_neg hc).symm.trans hg
    refine rf_seg C [(.iload 2, 1)] (pc' := 11) (S' := ([(2, .int (a0 - a0 / a1 * a1)), (0, .int a0), (1, .int a1)], [.int (a0 - a0 / a1 * a1)], rf_MM w m)) (by decide +kernel) rfl trivial ?_
    refine rf_if_eq C 7 18 (by decide +kernel) (fun hc => ?_) (fun hc => ?_)
    · replace hg := (if_pos hc).symm.trans hg
      refine rf_seg C [(.iload 2, 1)] (pc' := 19) (S' := ([(2, .int (a0 - a0 / a1 * a1)), (0, .int a0), (1, .int a1)], [.int (a0 - a0 / a1 * a1)], rf_MM w m)) (by decide +kernel) rfl trivial ?_
      obtain rfl := Option.some.inj hg
      exact rf_iret C hE (by decide +kernel)
    · replace hg := (if_neg hc).symm.trans hg
      refine rf_seg C [(.iload 2, 1), (.iload 1, 1), (.iadd, 1)] (pc' := 17) (S' := ([(2, .int (a0 - a0 / a1 * a1)), (0, .int a0), (1, .int a1)], [.int ((a0 - a0 / a1 * a1) + a1)], rf_MM w m)) (by decide +kernel) rfl trivial ?_
      obtain rfl := Option.some.inj hg
      exact rf_iret C hE (by decide +kernel)
-- X10_carry
abbrev j_X10_carry : rf_J := (10, yX10_carry, cX10_carry, 9, none)
theorem mw_X10_carry : rf_mv j_X10_carry (rf_R 10) 5 := ⟨⟨rf_mem 89 (by decide +kernel), rf_mem 89 (by decide +kernel), rf_mem 1 (by decide +kernel), rf_mem 89 (by decide +kernel)⟩, by decide +kernel, by decide⟩
def g_X10_carry_128 (w : rf_w) (a1 : Int32) (a2 : Int32) (a4 : Int32) (a5 : Int32) (a6 : Int32) (a7 : Int32) (m : rf_m) : Option (rf_m) := rf_g (rf_in a1 900) (rf_b (g_J9_floorMod_7cf53 w m ((m.1 198 (Int32.toNatClampNeg a1)) + a5) 12960000) fun y1 m1 => rf_g (rf_in a2 900) (rf_g (rf_in a7 900) (rf_g (rf_in a2 900) (rf_g (rf_in a7 900) (rf_g (rf_in a2 900) (rf_g (rf_in a7 900) (some (rf_i (rf_i (rf_i (rf_i (rf_i (rf_i m1 197 (Int32.toNatClampNeg a2) a4) 197 (Int32.toNatClampNeg a7) a4) 198 (Int32.toNatClampNeg a2) y1) 198 (Int32.toNatClampNeg a7) ((y1 + 6480000) - (y1 + 6480000) / 12960000 * 12960000)) 200 (Int32.toNatClampNeg a2) a6) 200 (Int32.toNatClampNeg a7) a6))))))))
def g_X10_carry_34 (w : rf_w) (a1 : Int32) (a2 : Int32) (a3 : Int32) (a4 : Int32) (a5 : Int32) (m : rf_m) : Option (rf_m) := rf_g (rf_in a1 900) (rf_vi (((m.1 199 (Int32.toNatClampNeg a1)) * 80) + a3) fun x1 => rf_b (g_X10_sight w m (a2 - a2 / 30 * 30) (a2 / 30)) fun y2 m2 => rf_g (rf_in a2 900) ((if (m2.1 197 (Int32.toNatClampNeg a2)) = a4 then rf_g (rf_in a2 900) ((if x1 < (m2.1 200 (Int32.toNatClampNeg a2)) then g_X10_carry_128 w a1 a2 a4 a5 x1 y2 m2 else some m2)) else (if 160 < ((m2.1 193 11) + 2) then g_X10_carry_128 w a1 a2 a4 a5 x1 y2 m2 else rf_g (rf_in (m2.1 193 11) 160) (rf_g (rf_in (((rf_i m2 201 (Int32.toNatClampNeg (m2.1 193 11)) a2).1 193 11) + 1) 160) (g_X10_carry_128 w a1 a2 a4 a5 x1 y2 (rf_i (rf_i (rf_i m2 201 (Int32.toNatClampNeg (m2.1 193 11)) a2) 201 (Int32.toNatClampNeg (((rf_i m2 201 (Int32.toNatClampNeg (m2.1 193 11)) a2).1 193 11) + 1)) y2) 193 11 (((rf_i (rf_i m2 201 (Int32.toNatClampNeg (m2.1 193 11)) a2) 201 (Int32.toNatClampNeg (((rf_i m2 201 (Int32.toNatClampNeg (m2.1 193 11)) a2).1 193 11) + 1)) y2).1 193 11) + 2))))))))
def g_X10_carry (w : rf_w) (m : rf_m) (a1 : Int32) (a2 : Int32) (a3 : Int32) (a4 : Int32) (a5 : Int32) : Option (rf_m) := rf_g (rf_in a1 900) ((if (m.1 197 (Int32.toNatClampNeg a1)) = (a4 - 1) then rf_g (rf_in a2 900) ((if (m.1 197 (Int32.toNatClampNeg a2)) < 0 then g_X10_carry_34 w a1 a2 a3 a4 a5 m else rf_g (rf_in a2 900) ((if a4 ≤ (m.1 197 (Int32.toNatClampNeg a2)) then g_X10_carry_34 w a1 a2 a3 a4 a5 m else some m)))) else some m))
theorem s_X10_carry_128 {w : rf_w} {K : rf_K} {r : rf_m} (C : rf_Ctx 10 cX10_carry 9 2 (rf_sh w) K) (hE : rf_End none K (rf_sh w) 0 0 none (rf_MM w r)) (a1 : Int32) (a2 : Int32) (a4 : Int32) (a5 : Int32) (a6 : Int32) (a7 : Int32) (m : rf_m) (hg : g_X10_carry_128 w a1 a2 a4 a5 a6 a7 m = some r) : rf_V 9 (rf_sh w) K 0 0 128 ([(0, .ref 193), (1, .int a1), (2, .int a2), (4, .int a4), (5, .int a5), (6, .int a6), (7, .int a7)], [], rf_MM w m) := by
  unfold g_X10_carry_128 at hg
  obtain ⟨q0, hg⟩ := rf_g_some hg
  refine rf_seg C [(.aload 0, 1), (.invokeinterface 10 7, 3), (.iload 1, 1), (.iaload, 1), (.iload 5, 2), (.iadd, 1), (.iconst 12960000, 2)] (pc' := 139) (S' := ([(0, .ref 193), (1, .int a1), (2, .int a2), (4, .int a4), (5, .int a5), (6, .int a6), (7, .int a7)], [.int 12960000, .int ((m.1 198 (Int32.toNatClampNeg a1)) + a5)], rf_MM w m)) (by decide +kernel) rfl (rf_in_of q0) ?_
  obtain ⟨y1, m1, hc1, hg⟩ := rf_b_some hg
  refine rf_calls C rf_fit0 j_J9_floorMod_7cf53 (As := [.int ((m.1 198 (Int32.toNatClampNeg a1)) + a5), .int 12960000]) (rest := []) mw_J9_floorMod_7cf53 (c_J9_floorMod_7cf53 hc1) (by decide) lk_10_98 rfl rfl (Nat.le_of_ble_eq_true rfl) (by decide +kernel) ?_
  show rf_V 9 (rf_sh w) K 0 0 142 ([(0, .ref 193), (1, .int a1), (2, .int a2), (4, .int a4), (5, .int a5), (6, .int a6), (7, .int a7)], [.int y1], rf_MM w m1)
  obtain ⟨q2, hg⟩ := rf_g_some hg
  obtain ⟨q3, hg⟩ := rf_g_some hg
  obtain ⟨q4, hg⟩ := rf_g_some hg
  obtain ⟨q5, hg⟩ := rf_g_some hg
  obtain ⟨q6, hg⟩ := rf_g_some hg
  obtain ⟨q7, hg⟩ := rf_g_some hg
  refine rf_seg C [(.istore 8, 2), (.aload 0, 1), (.invokeinterface 10 6, 3), (.iload 2, 1), (.iload 4, 2), (.iastore, 1), (.aload 0, 1), (.invokeinterface 10 6, 3), (.iload 7, 2), (.iload 4, 2), (.iastore, 1), (.aload 0, 1), (.invokeinterface 10 7, 3), (.iload 2, 1), (.iload 8, 2), (.iastore, 1), (.aload 0, 1), (.invokeinterface 10 7, 3), (.iload 7, 2), (.iload 8, 2), (.iconst 6480000, 2), (.iadd, 1), (.iconst 12960000, 2), (.irem, 1), (.iastore, 1), (.aload 0, 1), (.invokeinterface 10 9, 3), (.iload 2, 1), (.iload 6, 2), (.iastore, 1), (.aload 0, 1), (.invokeinterface 10 9, 3), (.iload 7, 2), (.iload 6, 2), (.iastore, 1)] (pc' := 201) (S' := ([(8, .int y1), (0, .ref 193), (1, .int a1), (2, .int a2), (4, .int a4), (5, .int a5), (6, .int a6), (7, .int a7)], [], rf_MM w (rf_i (rf_i (rf_i (rf_i (rf_i (rf_i m1 197 (Int32.toNatClampNeg a2) a4) 197 (Int32.toNatClampNeg a7) a4) 198 (Int32.toNatClampNeg a2) y1) 198 (Int32.toNatClampNeg a7) ((y1 + 6480000) - (y1 + 6480000) / 12960000 * 12960000)) 200 (Int32.toNatClampNeg a2) a6) 200 (Int32.toNatClampNeg a7) a6))) (by decide +kernel) rfl (by exact ⟨(rf_in_of q2), (rf_in_of q3), (rf_in_of q4), (rf_nz_of (by decide)), (rf_in_of q5), (rf_in_of q6), (rf_in_of q7)⟩) ?_
  obtain rfl := Option.some.inj hg
  exact rf_vret C hE (by decide +kernel)
theorem s_X10_carry_34 {w : rf_w} {K : rf_K} {r : rf_m} (C : rf_Ctx 10 cX10_carry 9 2 (rf_sh w) K) (hE : rf_End none K (rf_sh w) 0 0 none (rf_MM w r)) (a1 : Int32) (a2 : Int32) (a3 : Int32) (a4 : Int32) (a5 : Int32) (m : rf_m) (hg : g_X10_carry_34 w a1 a2 a3 a4 a5 m = some r) : rf_V 9 (rf_sh w) K 0 0 34 ([(0, .ref 193), (1, .int a1), (2, .int a2), (3, .int a3), (4, .int a4), (5, .int a5)], [], rf_MM w m) := by
  unfold g_X10_carry_34 at hg
  obtain ⟨q0, hg⟩ := rf_g_some hg
  refine rf_seg C [(.aload 0, 1), (.invokeinterface 10 8, 3), (.iload 1, 1), (.iaload, 1), (.iconst 80, 2), (.imul, 1), (.iload 3, 1), (.iadd, 1)] (pc' := 45) (S' := ([(0, .ref 193), (1, .int a1), (2, .int a2), (3, .int a3), (4, .int a4), (5, .int a5)], [.int (((m.1 199 (Int32.toNatClampNeg a1)) * 80) + a3)], rf_MM w m)) (by decide +kernel) rfl (rf_in_of q0) ?_
  obtain ⟨x1, hx1, hg⟩ := rf_vi_some hg
  refine rf_vi_top hx1 ?_
  refine rf_seg C [(.istore 6, 2), (.iload 2, 1), (.iconst 30, 2), (.irem, 1), (.iload 2, 1), (.iconst 30, 2), (.idiv, 1)] (pc' := 55) (S' := ([(6, .int x1), (0, .ref 193), (1, .int a1), (2, .int a2), (3, .int a3), (4, .int a4), (5, .int a5)], [.int (a2 / 30), .int (a2 - a2 / 30 * 30)], rf_MM w m)) (by decide +kernel) rfl (by exact ⟨(rf_nz_of (by decide)), (rf_nz_of (by decide))⟩) ?_
  obtain ⟨y2, m2, hc2, hg⟩ := rf_b_some hg
  refine rf_calls C rf_fit0 j_X10_sight (As := [.int (a2 - a2 / 30 * 30), .int (a2 / 30)]) (rest := []) mw_X10_sight (c_X10_sight hc2) (by decide) lk_10_53 rfl rfl (Nat.le_of_ble_eq_true rfl) (by decide +kernel) ?_
  show rf_V 9 (rf_sh w) K 0 0 58 ([(6, .int x1), (0, .ref 193), (1, .int a1), (2, .int a2), (3, .int a3), (4, .int a4), (5, .int a5)], [.int y2], rf_MM w m2)
  obtain ⟨q3, hg⟩ := rf_g_some hg
  refine rf_seg C [(.istore 7, 2), (.aload 0, 1), (.invokeinterface 10 6, 3), (.iload 2, 1), (.iaload, 1), (.iload 4, 2)] (pc' := 68) (S' := ([(7, .int y2), (6, .int x1), (0, .ref 193), (1, .int a1), (2, .int a2), (3, .int a3), (4, .int a4), (5, .int a5)], [.int a4, .int (m2.1 197 (Int32.toNatClampNeg a2))], rf_MM w m2)) (by decide +kernel) rfl (rf_in_of q3) ?_
  refine rf_icmp_ne C 15 83 (by decide +kernel) (fun hc => ?_) (fun hc => ?_)
  · replace hg := (if_neg hc).symm.trans hg
    refine rf_seg C [(.aload 0, 1), (.invokeinterface 10 11, 3), (.iconst 2, 1), (.iadd, 1), (.iconst 160, 3)] (pc' := 92) (S' := ([(7, .int y2), (6, .int x1), (0, .ref 193), (1, .int a1), (2, .int a2), (3, .int a3), (4, .int a4), (5, .int a5)], [.int 160, .int ((m2.1 193 11) + 2)], rf_MM w m2)) (by decide +kernel) rfl trivial ?_
    refine rf_icmp_gt C 36 128 (by decide +kernel) (fun hc => ?_) (fun hc => ?_)
    · replace hg := (if_pos hc).symm.trans hg
      refine rf_few [2, 3, 4, 6, 7, 1, 0] rfl ?_
      exact s_X10_carry_128 C hE a1 a2 a4 a5 x1 y2 m2 hg
    · replace hg := (if_neg hc).symm.trans hg
      obtain ⟨q4, hg⟩ := rf_g_some hg
      obtain ⟨q5, hg⟩ := rf_g_some hg
      refine rf_seg C [(.aload 0, 1), (.invokeinterface 10 10, 3), (.aload 0, 1), (.invokeinterface 10 11, 3), (.iload 2, 1), (.iastore, 1), (.aload 0, 1), (.invokeinterface 10 10, 3), (.aload 0, 1), (.invokeinterface 10 11, 3), (.iconst 1, 1), (.iadd, 1), (.iload 7, 2), (.iastore, 1), (.aload 0, 1), (.dup, 1), (.invokeinterface 10 11, 3), (.iconst 2, 1), (.iadd, 1), (.multianewarray 10 11, 3)] (pc' := 128) (S' := ([(7, .int y2), (6, .int x1), (0, .ref 193), (1, .int a1), (2, .int a2), (3, .int a3), (4, .int a4), (5, .int a5)], [], rf_MM w (rf_i (rf_i (rf_i m2 201 (Int32.toNatClampNeg (m2.1 193 11)) a2) 201 (Int32.toNatClampNeg (((rf_i m2 201 (Int32.toNatClampNeg (m2.1 193 11)) a2).1 193 11) + 1)) y2) 193 11 (((rf_i (rf_i m2 201 (Int32.toNatClampNeg (m2.1 193 11)) a2) 201 (Int32.toNatClampNeg (((rf_i m2 201 (Int32.toNatClampNeg (m2.1 193 11)) a2).1 193 11) + 1)) y2).1 193 11) + 2)))) (by decide +kernel) rfl (by exact ⟨(rf_in_of q4), (rf_in_of q5)⟩) ?_
      refine rf_few [2, 3, 4, 6, 7, 1, 0] rfl ?_
      exact s_X10_carry_128 C hE a1 a2 a4 a5 x1 y2 (rf_i (rf_i (rf_i m2 201 (Int32.toNatClampNeg (m2.1 193 11)) a2) 201 (Int32.toNatClampNeg (((rf_i m2 201 (Int32.toNatClampNeg (m2.1 193 11)) a2).1 193 11) + 1)) y2) 193 11 (((rf_i (rf_i m2 201 (Int32.toNatClampNeg (m2.1 193 11)) a2) 201 (Int32.toNatClampNeg (((rf_i m2 201 (Int32.toNatClampNeg (m2.1 193 11)) a2).1 193 11) + 1)) y2).1 193 11) + 2)) hg
  · replace hg := (if_pos hc).symm.trans hg
    obtain ⟨q6, hg⟩ := rf_g_some hg
    refine rf_seg C [(.iload 6, 2), (.aload 0, 1), (.invokeinterface 10 9, 3), (.iload 2, 1), (.iaload, 1)] (pc' := 79) (S' := ([(7, .int y2), (6, .int x1), (0, .ref 193), (1, .int a1), (2, .int a2), (3, .int a3), (4, .int a4), (5, .int a5)], [.int (m2.1 200 (Int32.toNatClampNeg a2)), .int x1], rf_MM w m2)) (by decide +kernel) rfl (rf_in_of q6) ?_
    refine rf_icmp_lt C 49 128 (by decide +kernel) (fun hc => ?_) (fun hc => ?_)
    · replace hg := (if_pos hc).symm.trans hg
      refine rf_few [2, 3, 4, 6, 7, 1, 0] rfl ?_
      exact s_X10_carry_128 C hE a1 a2 a4 a5 x1 y2 m2 hg
    · replace hg := (if_neg hc).symm.trans hg
      obtain rfl := Option.some.inj hg
      exact rf_vret C hE (by decide +kernel)
theorem c_X10_carry {w : rf_w} {m : rf_m} {a1 : Int32} {a2 : Int32} {a3 : Int32} {a4 : Int32} {a5 : Int32} {r : rf_m} (hg : g_X10_carry w m a1 a2 a3 a4 a5 = some r) : rf_Con j_X10_carry 2 (rf_sh w) [.ref 193, .int a1, .int a2, .int a3, .int a4, .int a5] (rf_MM w m) none (rf_MM w r) := by
  refine rf_con j_X10_carry 2 ⟨by decide +kernel, rfl, Nat.le_of_ble_eq_true rfl⟩ (fun K C hE => ?_)
  unfold g_X10_carry at hg
  show rf_V 9 (rf_sh w) K 0 0 0 ([(0, .ref 193), (1, .int a1), (2, .int a2), (3, .int a3), (4, .int a4), (5, .int a5)], [], rf_MM w m)
  obtain ⟨q0, hg⟩ := rf_g_some hg
  refine rf_seg C [(.aload 0, 1), (.invokeinterface 10 6, 3), (.iload 1, 1), (.iaload, 1), (.iload 4, 2), (.iconst 1, 1), (.isub, 1)] (pc' := 10) (S' := ([(0, .ref 193), (1, .int a1), (2, .int a2), (3, .int a3), (4, .int a4), (5, .int a5)], [.int (a4 - 1), .int (m.1 197 (Int32.toNatClampNeg a1))], rf_MM w m)) (by decide +kernel) rfl (rf_in_of q0) ?_
  refine rf_icmp_ne C 23 33 (by decide +kernel) (fun hc => ?_) (fun hc => ?_)
  · replace hg := (if_neg hc).symm.trans hg
    obtain rfl := Option.some.inj hg
    exact rf_vret C hE (by decide +kernel)
  · replace hg := (if_pos hc).symm.trans hg
    obtain ⟨q1, hg⟩ := rf_g_some hg
    refine rf_seg C [(.aload 0, 1), (.invokeinterface 10 6, 3), (.iload 2, 1), (.iaload, 1)] (pc' := 19) (S' := ([(0, .ref 193), (1, .int a1), (2, .int a2), (3, .int a3), (4, .int a4), (5, .int a5)], [.int (m.1 197 (Int32.toNatClampNeg a2))], rf_MM w m)) (by decide +kernel) rfl (rf_in_of q1) ?_
    refine rf_if_lt C 15 34 (by decide +kernel) (fun hc => ?_) (fun hc => ?_)
    · replace hg := (if_pos hc).symm.trans hg
      refine rf_few [0, 1, 2, 3, 4, 5] rfl ?_
      exact s_X10_carry_34 C hE a1 a2 a3 a4 a5 m hg
    · replace hg := (if_neg hc).symm.trans hg
      obtain ⟨q2, hg⟩ := rf_g_some hg
      refine rf_seg C [(.aload 0, 1), (.invokeinterface 10 6, 3), (.iload 2, 1), (.iaload, 1), (.iload 4, 2)] (pc' := 30) (S' := ([(0, .ref 193), (1, .int a1), (2, .int a2), (3, .int a3), (4, .int a4), (5, .int a5)], [.int a4, .int (m.1 197 (Int32.toNatClampNeg a2))], rf_MM w m)) (by decide +kernel) rfl (rf_in_of q2) ?_
      refine rf_icmp_ge C 4 34 (by decide +kernel) (fun hc => ?_) (fun hc => ?_)
      · replace hg := (if_pos hc).symm.trans hg
        refine rf_few [0, 1, 2, 3, 4, 5] rfl ?_
        exact s_X10_carry_34 C hE a1 a2 a3 a4 a5 m hg
      · replace hg := (if_neg hc).symm.trans hg
        obtain rfl := Option.some.inj hg
        exact rf_vret C hE (by decide +kernel)
-- J7_fill_53178__197
abbrev j_J7_fill_53178__197 : rf_J := (30, yJ7_fill_53178, cJ7_fill_53178, 4, none)
theorem mw_J7_fill_53178__197 : rf_ms j_J7_fill_53178__197 2 := ⟨⟨rf_mem 26 (by decide +kernel), rf_mem 26 (by decide +kernel), rf_mem 26 (by decide +kernel)⟩, by decide +kernel, by decide⟩
def g_J7_fill_53178__197_5_b (w : rf_w) (rec5 : Int32 → Int32 → Int32 → rf_m → Option (rf_m)) (a1 : Int32) (a2 : Int32) (a3 : Int32) (m : rf_m) : Option (rf_m) := (if a3 ≤ a2 then some m else rf_g (rf_in a2 900) (rec5 a1 (a2 + 1) a3 (rf_i m 197 (Int32.toNatClampNeg a2) a1)))
def g_J7_fill_53178__197_5 (w : rf_w) : Nat → Int32 → Int32 → Int32 → rf_m → Option (rf_m)
  | 0, _, _, _, _ => none
  | n + 1, a1, a2, a3, m => g_J7_fill_53178__197_5_b w (g_J7_fill_53178__197_5 w n) a1 a2 a3 m
def g_J7_fill_53178__197 (w : rf_w) (m : rf_m) (a1 : Int32) : Option (rf_m) := g_J7_fill_53178__197_5 w rf_fuel a1 0 900 m
theorem s_J7_fill_53178__197_5_b {w : rf_w} {K : rf_K} {r : rf_m} (C : rf_Ctx 30 cJ7_fill_53178 4 1 (rf_sh w) K) (hE : rf_End none K (rf_sh w) 0 0 none (rf_MM w r)) {rec5 : Int32 → Int32 → Int32 → rf_m → Option (rf_m)} (hr5 : ∀ (a1 : Int32) (a2 : Int32) (a3 : Int32) (m : rf_m), rec5 a1 a2 a3 m = some r → rf_V 4 (rf_sh w) K 0 0 5 ([(0, .ref 197), (1, .int a1), (2, .int a2), (3, .int a3)], [], rf_MM w m)) (a1 : Int32) (a2 : Int32) (a3 : Int32) (m : rf_m) (hg : g_J7_fill_53178__197_5_b w rec5 a1 a2 a3 m = some r) : rf_V 4 (rf_sh w) K 0 0 5 ([(0, .ref 197), (1, .int a1), (2, .int a2), (3, .int a3)], [], rf_MM w m) := by
  unfold g_J7_fill_53178__197_5_b at hg
  refine rf_seg C [(.iload 2, 1), (.iload 3, 1)] (pc' := 7) (S' := ([(0, .ref 197), (1, .int a1), (2, .int a2), (3, .int a3)], [.int a3, .int a2], rf_MM w m)) (by decide +kernel) rfl trivial ?_
  refine rf_icmp_ge C 13 20 (by decide +kernel) (fun hc => ?_) (fun hc => ?_)
  · replace hg := (if_pos hc).symm.trans hg
    obtain rfl := Option.some.inj hg
    exact rf_vret C hE (by decide +kernel)
  · replace hg := (if_neg hc).symm.trans hg
    obtain ⟨q0, hg⟩ := rf_g_some hg
    refine rf_seg C [(.aload 0, 1), (.iload 2, 1), (.iload 1, 1), (.iastore, 1), (.iinc 2 1, 3)] (pc' := 17) (S' := ([(2, .int (a2 + 1)), (0, .ref 197), (1, .int a1), (3, .int a3)], [], rf_MM w (rf_i m 197 (Int32.toNatClampNeg a2) a1))) (by decide +kernel) rfl (rf_in_of q0) ?_
    refine rf_goto C (-12) 5 (by decide +kernel) ?_
    refine rf_few [1, 2, 0, 3] rfl ?_
    exact hr5 a1 (a2 + 1) a3 (rf_i m 197 (Int32.toNatClampNeg a2) a1) hg
theorem s_J7_fill_53178__197_5 {w : rf_w} {K : rf_K} {r : rf_m} (C : rf_Ctx 30 cJ7_fill_53178 4 1 (rf_sh w) K) (hE : rf_End none K (rf_sh w) 0 0 none (rf_MM w r)) (n : Nat) : ∀ (a1 : Int32) (a2 : Int32) (a3 : Int32) (m : rf_m), g_J7_fill_53178__197_5 w n a1 a2 a3 m = some r → rf_V 4 (rf_sh w) K 0 0 5 ([(0, .ref 197), (1, .int a1), (2, .int a2), (3, .int a3)], [], rf_MM w m) := by
  induction n with
  | zero => intro a1 a2 a3 m hg; cases hg
  | succ n ih => intro a1 a2 a3 m hg; exact s_J7_fill_53178__197_5_b C hE ih a1 a2 a3 m hg
theorem c_J7_fill_53178__197 {w : rf_w} {m : rf_m} {a1 : Int32} {r : rf_m} (hg : g_J7_fill_53178__197 w m a1 = some r) : rf_Con j_J7_fill_53178__197 1 (rf_sh w) [.ref 197, .int a1] (rf_MM w m) none (rf_MM w r) := by
  refine rf_con j_J7_fill_53178__197 1 ⟨by decide +kernel, rfl, Nat.le_of_ble_eq_true rfl⟩ (fun K C hE => ?_)
  unfold g_J7_fill_53178__197 at hg
  show rf_V 4 (rf_sh w) K 0 0 0 ([(0, .ref 197), (1, .int a1)], [], rf_MM w m)
  refine rf_seg C [(.iconst 0, 1), (.istore 2, 1), (.aload 0, 1), (.arraylength, 1), (.istore 3, 1)] (pc' := 5) (S' := ([(3, .int 900), (2, .int 0), (0, .ref 197), (1, .int a1)], [], rf_MM w m)) (by decide +kernel) rfl trivial ?_
  refine rf_few [2, 3, 1, 0] rfl ?_
  exact s_J7_fill_53178__197_5 C hE rf_fuel a1 0 900 m hg
-- X10_meanOfStars
abbrev j_X10_meanOfStars : rf_J := (10, yX10_meanOfStars, cX10_meanOfStars, 6, (some .int))
theorem mw_X10_meanOfStars : rf_mv j_X10_meanOfStars (rf_R 10) 2 := ⟨⟨rf_mem 89 (by decide +kernel), rf_mem 89 (by decide +kernel), rf_mem 1 (by decide +kernel), rf_mem 89 (by decide +kernel)⟩, by decide +kernel, by decide⟩
def g_X10_meanOfStars_52 (w : rf_w) (rec8 : Int32 → Int32 → Int32 → Int32 → Int32 → rf_m → Option (Int32 × rf_m)) (a1 : Int32) (a2 : Int32) (a3 : Int32) (a4 : Int32) (a5 : Int32) (m : rf_m) : Option (Int32 × rf_m) := rec8 a1 a2 a3 a4 (a5 + 1) m
def g_X10_meanOfStars_8_b (w : rf_w) (rec8 : Int32 → Int32 → Int32 → Int32 → Int32 → rf_m → Option (Int32 × rf_m)) (a1 : Int32) (a2 : Int32) (a3 : Int32) (a4 : Int32) (a5 : Int32) (m : rf_m) : Option (Int32 × rf_m) := (if (m.1 193 0) ≤ a5 then (if a4 ≤ 0 then some ((-2), m) else rf_g (rf_nz a4) (some (a3 / a4, m))) else rf_g (rf_in a5 20) ((if (m.1 194 (Int32.toNatClampNeg a5)) = a1 then rf_g (rf_in a5 20) ((if (m.1 195 (Int32.toNatClampNeg a5)) = a2 then rf_g (rf_in a5 20) (rf_vi (a3 + (m.1 196 (Int32.toNatClampNeg a5))) fun x4 => g_X10_meanOfStars_52 w rec8 a1 a2 x4 (a4 + 1) a5 m) else g_X10_meanOfStars_52 w rec8 a1 a2 a3 a4 a5 m)) else g_X10_meanOfStars_52 w rec8 a1 a2 a3 a4 a5 m)))
def g_X10_meanOfStars_8 (w : rf_w) : Nat → Int32 → Int32 → Int32 → Int32 → Int32 → rf_m → Option (Int32 × rf_m)
  | 0, _, _, _, _, _, _ => none
  | n + 1, a1, a2, a3, a4, a5, m => g_X10_meanOfStars_8_b w (g_X10_meanOfStars_8 w n) a1 a2 a3 a4 a5 m
def g_X10_meanOfStars (w : rf_w) (m : rf_m) (a1 : Int32) (a2 : Int32) : Option (Int32 × rf_m) := g_X10_meanOfStars_8 w rf_fuel a1 a2 0 0 0 m
theorem s_X10_meanOfStars_52 {w : rf_w} {K : rf_K} {r : Int32 × rf_m} (C : rf_Ctx 10 cX10_meanOfStars 6 1 (rf_sh w) K) (hE : rf_End (some .int) K (rf_sh w) 0 0 (some (.int r.1)) (rf_MM w r.2)) {rec8 : Int32 → Int32 → Int32 → Int32 → Int32 → rf_m → Option (Int32 × rf_m)} (hr8 : ∀ (a1 : Int32) (a2 : Int32) (a3 : Int32) (a4 : Int32) (a5 : Int32) (m : rf_m), rec8 a1 a2 a3 a4 a5 m = some r → rf_V 6 (rf_sh w) K 0 0 8 ([(0, .ref 193), (1, .int a1), (2, .int a2), (3, .int a3), (4, .int a4), (5, .int a5)], [], rf_MM w m)) (a1 : Int32) (a2 : Int32) (a3 : Int32) (a4 : Int32) (a5 : Int32) (m : rf_m) (hg : g_X10_meanOfStars_52 w rec8 a1 a2 a3 a4 a5 m = some r) : rf_V 6 (rf_sh w) K 0 0 52 ([(0, .ref 193), (1, .int a1), (2, .int a2), (3, .int a3), (4, .int a4), (5, .int a5)], [], rf_MM w m) := by
  unfold g_X10_meanOfStars_52 at hg
  refine rf_seg C [(.iinc 5 1, 3)] (pc' := 55) (S' := ([(5, .int (a5 + 1)), (0, .ref 193), (1, .int a1), (2, .int a2), (3, .int a3), (4, .int a4)], [], rf_MM w m)) (by decide +kernel) rfl trivial ?_
  refine rf_goto C (-47) 8 (by decide +kernel) ?_
  refine rf_few [1, 2, 3, 4, 5, 0] rfl ?_
  exact hr8 a1 a2 a3 a4 (a5 + 1) m hg
theorem s_X10_meanOfStars_8_b {w : rf_w} {K : rf_K} {r : Int32 × rf_m} (C : rf_Ctx 10 cX10_meanOfStars 6 1 (rf_sh w) K) (hE : rf_End (some .int) K (rf_sh w) 0 0 (some (.int r.1)) (rf_MM w r.2)) {rec8 : Int32 → Int32 → Int32 → Int32 → Int32 → rf_m → Option (Int32 × rf_m)} (hr8 : ∀ (a1 : Int32) (a2 : Int32) (a3 : Int32) (a4 : Int32) (a5 : Int32) (m : rf_m), rec8 a1 a2 a3 a4 a5 m = some r → rf_V 6 (rf_sh w) K 0 0 8 ([(0, .ref 193), (1, .int a1), (2, .int a2), (3, .int a3), (4, .int a4), (5, .int a5)], [], rf_MM w m)) (a1 : Int32) (a2 : Int32) (a3 : Int32) (a4 : Int32) (a5 : Int32) (m : rf_m) (hg : g_X10_meanOfStars_8_b w rec8 a1 a2 a3 a4 a5 m = some r) : rf_V 6 (rf_sh w) K 0 0 8 ([(0, .ref 193), (1, .int a1), (2, .int a2), (3, .int a3), (4, .int a4), (5, .int a5)], [], rf_MM w m) := by
  unfold g_X10_meanOfStars_8_b at hg
  refine rf_seg C [(.iload 5, 2), (.aload 0, 1), (.invokeinterface 10 0, 3)] (pc' := 14) (S' := ([(0, .ref 193), (1, .int a1), (2, .int a2), (3, .int a3), (4, .int a4), (5, .int a5)], [.int (m.1 193 0), .int a5], rf_MM w m)) (by decide +kernel) rfl trivial ?_
  refine rf_icmp_ge C 44 58 (by decide +kernel) (fun hc => ?_) (fun hc => ?_)
  · replace hg := (if_pos hc).symm.trans hg
    refine rf_seg C [(.iload 4, 2)] (pc' := 60) (S' := ([(0, .ref 193), (1, .int a1), (2, .int a2), (3, .int a3), (4, .int a4), (5, .int a5)], [.int a4], rf_MM w m)) (by decide +kernel) rfl trivial ?_
    refine rf_if_le C 10 70 (by decide +kernel) (fun hc => ?_) (fun hc => ?_)
    · replace hg := (if_pos hc).symm.trans hg
      refine rf_seg C [(.iconst (-2), 2)] (pc' := 72) (S' := ([(0, .ref 193), (1, .int a1), (2, .int a2), (3, .int a3), (4, .int a4), (5, .int a5)], [.int ((-2))], rf_MM w m)) (by decide +kernel) rfl trivial ?_
      obtain rfl := Option.some.inj hg
      exact rf_iret C hE (by decide +kernel)
    · replace hg := (if_neg hc).symm.trans hg
      obtain ⟨q0, hg⟩ := rf_g_some hg
      refine rf_seg C [(.iload 3, 1), (.iload 4, 2), (.idiv, 1)] (pc' := 67) (S' := ([(0, .ref 193), (1, .int a1), (2, .int a2), (3, .int a3), (4, .int a4), (5, .int a5)], [.int (a3 / a4)], rf_MM w m)) (by decide +kernel) rfl (rf_nz_of q0) ?_
      refine rf_goto C 5 72 (by decide +kernel) ?_
      obtain rfl := Option.some.inj hg
      exact rf_iret C hE (by decide +kernel)
  · replace hg := (if_neg hc).symm.trans hg
    obtain ⟨q1, hg⟩ := rf_g_some hg
    refine rf_seg C [(.aload 0, 1), (.invokeinterface 10 3, 3), (.iload 5, 2), (.iaload, 1), (.iload 1, 1)] (pc' := 25) (S' := ([(0, .ref 193), (1, .int a1), (2, .int a2), (3, .int a3), (4, .int a4), (5, .int a5)], [.int a1, .int (m.1 194 (Int32.toNatClampNeg a5))], rf_MM w m)) (by decide +kernel) rfl (rf_in_of q1) ?_
    refine rf_icmp_ne C 27 52 (by decide +kernel) (fun hc => ?_) (fun hc => ?_)
    · replace hg := (if_neg hc).symm.trans hg
      refine rf_few [0, 1, 2, 3, 4, 5] rfl ?_
      exact s_X10_meanOfStars_52 C hE hr8 a1 a2 a3 a4 a5 m hg
    · replace hg := (if_pos hc).symm.trans hg
      obtain ⟨q2, hg⟩ := rf_g_some hg
      refine rf_seg C [(.aload 0, 1), (.invokeinterface 10 4, 3), (.iload 5, 2), (.iaload, 1), (.iload 2, 1)] (pc' := 36) (S' := ([(0, .ref 193), (1, .int a1), (2, .int a2), (3, .int a3), (4, .int a4), (5, .int a5)], [.int a2, .int (m.1 195 (Int32.toNatClampNeg a5))], rf_MM w m)) (by decide +kernel) rfl (rf_in_of q2) ?_
      refine rf_icmp_ne C 16 52 (by decide +kernel) (fun hc => ?_) (fun hc => ?_)
      · replace hg := (if_neg hc).symm.trans hg
        refine rf_few [0, 1, 2, 3, 4, 5] rfl ?_
        exact s_X10_meanOfStars_52 C hE hr8 a1 a2 a3 a4 a5 m hg
      · replace hg := (if_pos hc).symm.trans hg
        obtain ⟨q3, hg⟩ := rf_g_some hg
        refine rf_seg C [(.iload 3, 1), (.aload 0, 1), (.invokeinterface 10 5, 3), (.iload 5, 2), (.iaload, 1), (.iadd, 1)] (pc' := 48) (S' := ([(0, .ref 193), (1, .int a1), (2, .int a2), (3, .int a3), (4, .int a4), (5, .int a5)], [.int (a3 + (m.1 196 (Int32.toNatClampNeg a5)))], rf_MM w m)) (by decide +kernel) rfl (rf_in_of q3) ?_
        obtain ⟨x4, hx4, hg⟩ := rf_vi_some hg
        refine rf_vi_top hx4 ?_
        refine rf_seg C [(.istore 3, 1), (.iinc 4 1, 3)] (pc' := 52) (S' := ([(4, .int (a4 + 1)), (3, .int x4), (0, .ref 193), (1, .int a1), (2, .int a2), (5, .int a5)], [], rf_MM w m)) (by decide +kernel) rfl trivial ?_
        refine rf_few [2, 3, 4, 1, 0, 5] rfl ?_
        exact s_X10_meanOfStars_52 C hE hr8 a1 a2 x4 (a4 + 1) a5 m hg
theorem s_X10_meanOfStars_8 {w : rf_w} {K : rf_K} {r : Int32 × rf_m} (C : rf_Ctx 10 cX10_meanOfStars 6 1 (rf_sh w) K) (hE : rf_End (some .int) K (rf_sh w) 0 0 (some (.int r.1)) (rf_MM w r.2)) (n : Nat) : ∀ (a1 : Int32) (a2 : Int32) (a3 : Int32) (a4 : Int32) (a5 : Int32) (m : rf_m), g_X10_meanOfStars_8 w n a1 a2 a3 a4 a5 m = some r → rf_V 6 (rf_sh w) K 0 0 8 ([(0, .ref 193), (1, .int a1), (2, .int a2), (3, .int a3), (4, .int a4), (5, .int a5)], [], rf_MM w m) := by
  induction n with
  | zero => intro a1 a2 a3 a4 a5 m hg; cases hg
  | succ n ih => intro a1 a2 a3 a4 a5 m hg; exact s_X10_meanOfStars_8_b C hE ih a1 a2 a3 a4 a5 m hg
theorem c_X10_meanOfStars {w : rf_w} {m : rf_m} {a1 : Int32} {a2 : Int32} {r : Int32 × rf_m} (hg : g_X10_meanOfStars w m a1 a2 = some r) : rf_Con j_X10_meanOfStars 1 (rf_sh w) [.ref 193, .int a1, .int a2] (rf_MM w m) (some (.int r.1)) (rf_MM w r.2) := by
  refine rf_con j_X10_meanOfStars 1 ⟨by decide +kernel, rfl, Nat.le_of_ble_eq_true rfl⟩ (fun K C hE => ?_)
  unfold g_X10_meanOfStars at hg
  show rf_V 6 (rf_sh w) K 0 0 0 ([(0, .ref 193), (1, .int a1), (2, .int a2)], [], rf_MM w m)
  refine rf_seg C [(.iconst 0, 1), (.istore 3, 1), (.iconst 0, 1), (.istore 4, 2), (.iconst 0, 1), (.istore 5, 2)] (pc' := 8) (S' := ([(5, .int 0), (4, .int 0), (3, .int 0), (0, .ref 193), (1, .int a1), (2, .int a2)], [], rf_MM w m)) (by decide +kernel) rfl trivial ?_
  refine rf_few [3, 4, 5, 2, 1, 0] rfl ?_
  exact s_X10_meanOfStars_8 C hE rf_fuel a1 a2 0 0 0 m hg
-- X10_takeStars
abbrev j_X10_takeStars : rf_J := (10, yX10_takeStars, cX10_takeStars, 3, none)
theorem mw_X10_takeStars : rf_mv j_X10_takeStars (rf_R 10) 0 := ⟨⟨rf_mem 89 (by decide +kernel), rf_mem 89 (by decide +kernel), rf_mem 1 (by decide +kernel), rf_mem 89 (by decide +kernel)⟩, by decide +kernel, by decide⟩
def g_X10_takeStars_159 (w : rf_w) (rec75 : Int32 → rf_m → Option (rf_m)) (a1 : Int32) (m : rf_m) : Option (rf_m) := rec75 (a1 + 1) m
def g_X10_takeStars_75_b (w : rf_w) (rec75 : Int32 → rf_m → Option (rf_m)) (a1 : Int32) (m : rf_m) : Option (rf_m) := (if (m.1 193 0) ≤ a1 then some m else rf_g (rf_in a1 20) (rf_g (rf_in a1 20) (rf_b (g_X10_sight w m (m.1 195 (Int32.toNatClampNeg a1)) (m.1 194 (Int32.toNatClampNeg a1))) fun y2 m2 => rf_g (rf_in y2 900) ((if (0 : Int32) ≤ (m2.1 197 (Int32.toNatClampNeg y2)) then g_X10_takeStars_159 w rec75 a1 m2 else rf_g (rf_in y2 900) (rf_g (rf_in a1 20) (rf_g (rf_in a1 20) (rf_b (g_X10_sight w (rf_i m2 197 (Int32.toNatClampNeg y2) 0) ((rf_i m2 197 (Int32.toNatClampNeg y2) 0).1 194 (Int32.toNatClampNeg a1)) ((rf_i m2 197 (Int32.toNatClampNeg y2) 0).1 195 (Int32.toNatClampNeg a1))) fun y7 m7 => rf_g (rf_in y7 900) (rf_g (rf_in y2 900) (rf_g (rf_in a1 20) (rf_g (rf_in y2 900) (g_X10_takeStars_159 w rec75 a1 (rf_i (rf_i m7 198 (Int32.toNatClampNeg y2) (((m7.1 198 (Int32.toNatClampNeg y7)) + 6480000) - ((m7.1 198 (Int32.toNatClampNeg y7)) + 6480000) / 12960000 * 12960000)) 199 (Int32.toNatClampNeg y2) ((rf_i m7 198 (Int32.toNatClampNeg y2) (((m7.1 198 (Int32.toNatClampNeg y7)) + 6480000) - ((m7.1 198 (Int32.toNatClampNeg y7)) + 6480000) / 12960000 * 12960000)).1 194 (Int32.toNatClampNeg a1)))))))))))))))
def g_X10_takeStars_75 (w : rf_w) : Nat → Int32 → rf_m → Option (rf_m)
  | 0, _, _ => none
  | n + 1, a1, m => g_X10_takeStars_75_b w (g_X10_takeStars_75 w n) a1 m
def g_X10_takeStars_2_b (w : rf_w) (rec2 : Int32 → rf_m → Option (rf_m)) (a1 : Int32) (m : rf_m) : Option (rf_m) := (if (m.1 193 0) ≤ a1 then g_X10_takeStars_75 w rf_fuel 0 m else rf_g (rf_in a1 20) (rf_g (rf_in a1 20) (rf_b (g_X10_sight w m (m.1 194 (Int32.toNatClampNeg a1)) (m.1 195 (Int32.toNatClampNeg a1))) fun y2 m2 => rf_g (rf_in y2 900) (rf_g (rf_in a1 20) (rf_g (rf_in a1 20) (rf_b (g_X10_meanOfStars w (rf_i m2 197 (Int32.toNatClampNeg y2) 0) ((rf_i m2 197 (Int32.toNatClampNeg y2) 0).1 194 (Int32.toNatClampNeg a1)) ((rf_i m2 197 (Int32.toNatClampNeg y2) 0).1 195 (Int32.toNatClampNeg a1))) fun y6 m6 => rf_g (rf_in y2 900) (rf_g (rf_in a1 20) (rf_g (rf_in y2 900) (rec2 (a1 + 1) (rf_i (rf_i m6 198 (Int32.toNatClampNeg y2) y6) 199 (Int32.toNatClampNeg y2) ((rf_i m6 198 (Int32.toNatClampNeg y2) y6).1 194 (Int32.toNatClampNeg a1))))))))))))
def g_X10_takeStars_2 (w : rf_w) : Nat → Int32 → rf_m → Option (rf_m)
  | 0, _, _ => none
  | n + 1, a1, m => g_X10_takeStars_2_b w (g_X10_takeStars_2 w n) a1 m
def g_X10_takeStars (w : rf_w) (m : rf_m) : Option (rf_m) := g_X10_takeStars_2 w rf_fuel 0 m
theorem s_X10_takeStars_159 {w : rf_w} {K : rf_K} {r : rf_m} (C : rf_Ctx 10 cX10_takeStars 3 2 (rf_sh w) K) (hE : rf_End none K (rf_sh w) 0 0 none (rf_MM w r)) {rec75 : Int32 → rf_m → Option (rf_m)} (hr75 : ∀ (a1 : Int32) (m : rf_m), rec75 a1 m = some r → rf_V 3 (rf_sh w) K 0 0 75 ([(0, .ref 193), (1, .int a1)], [], rf_MM w m)) (a1 : Int32) (m : rf_m) (hg : g_X10_takeStars_159 w rec75 a1 m = some r) : rf_V 3 (rf_sh w) K 0 0 159 ([(0, .ref 193), (1, .int a1)], [], rf_MM w m) := by
  unfold g_X10_takeStars_159 at hg
  refine rf_seg C [(.iinc 1 1, 3)] (pc' := 162) (S' := ([(1, .int (a1 + 1)), (0, .ref 193)], [], rf_MM w m)) (by decide +kernel) rfl trivial ?_
  refine rf_goto C (-87) 75 (by decide +kernel) ?_
  refine rf_few [1, 0] rfl ?_
  exact hr75 (a1 + 1) m hg
theorem s_X10_takeStars_75_b {w : rf_w} {K : rf_K} {r : rf_m} (C : rf_Ctx 10 cX10_takeStars 3 2 (rf_sh w) K) (hE : rf_End none K (rf_sh w) 0 0 none (rf_MM w r)) {rec75 : Int32 → rf_m → Option (rf_m)} (hr75 : ∀ (a1 : Int32) (m : rf_m), rec75 a1 m = some r → rf_V 3 (rf_sh w) K 0 0 75 ([(0, .ref 193), (1, .int a1)], [], rf_MM w m)) (a1 : Int32) (m : rf_m) (hg : g_X10_takeStars_75_b w rec75 a1 m = some r) : rf_V 3 (rf_sh w) K 0 0 75 ([(0, .ref 193), (1, .int a1)], [], rf_MM w m) := by
  unfold g_X10_takeStars_75_b at hg
  refine rf_seg C [(.iload 1, 1), (.aload 0, 1), (.invokeinterface 10 0, 3)] (pc' := 80) (S' := ([(0, .ref 193), (1, .int a1)], [.int (m.1 193 0), .int a1], rf_MM w m)) (by decide +kernel) rfl trivial ?_
  refine rf_icmp_ge C 85 165 (by decide +kernel) (fun hc => ?_) (fun hc => ?_)
  · replace hg := (if_pos hc).symm.trans hg
    obtain rfl := Option.some.inj hg
    exact rf_vret C hE (by decide +kernel)
  · replace hg := (if_neg hc).symm.trans hg
    obtain ⟨q0, hg⟩ := rf_g_some hg
    obtain ⟨q1, hg⟩ := rf_g_some hg
    refine rf_seg C [(.aload 0, 1), (.invokeinterface 10 4, 3), (.iload 1, 1), (.iaload, 1), (.aload 0, 1), (.invokeinterface 10 3, 3), (.iload 1, 1), (.iaload, 1)] (pc' := 95) (S' := ([(0, .ref 193), (1, .int a1)], [.int (m.1 194 (Int32.toNatClampNeg a1)), .int (m.1 195 (Int32.toNatClampNeg a1))], rf_MM w m)) (by decide +kernel) rfl (by exact ⟨(rf_in_of q0), (rf_in_of q1)⟩) ?_
    obtain ⟨y2, m2, hc2, hg⟩ := rf_b_some hg
    refine rf_calls C rf_fit0 j_X10_sight (As := [.int (m.1 195 (Int32.toNatClampNeg a1)), .int (m.1 194 (Int32.toNatClampNeg a1))]) (rest := []) mw_X10_sight (c_X10_sight hc2) (by decide) lk_10_53 rfl rfl (Nat.le_of_ble_eq_true rfl) (by decide +kernel) ?_
    show rf_V 3 (rf_sh w) K 0 0 98 ([(0, .ref 193), (1, .int a1)], [.int y2], rf_MM w m2)
    obtain ⟨q3, hg⟩ := rf_g_some hg
    refine rf_seg C [(.istore 2, 1), (.aload 0, 1), (.invokeinterface 10 6, 3), (.iload 2, 1), (.iaload, 1)] (pc' := 105) (S' := ([(2, .int y2), (0, .ref 193), (1, .int a1)], [.int (m2.1 197 (Int32.toNatClampNeg y2))], rf_MM w m2)) (by decide +kernel) rfl (rf_in_of q3) ?_
    refine rf_if_ge C 54 159 (by decide +kernel) (fun hc => ?_) (fun hc => ?_)
    · replace hg := (if_pos hc).symm.trans hg
      refine rf_few [1, 2] rfl ?_
      exact s_X10_takeStars_159 C hE hr75 a1 m2 hg
    · replace hg := (if_neg hc).symm.trans hg
      obtain ⟨q4, hg⟩ := rf_g_some hg
      obtain ⟨q5, hg⟩ := rf_g_some hg
      obtain ⟨q6, hg⟩ := rf_g_some hg
      refine rf_seg C [(.aload 0, 1), (.invokeinterface 10 6, 3), (.iload 2, 1), (.iconst 0, 1), (.iastore, 1), (.aload 0, 1), (.invokeinterface 10 7, 3), (.iload 2, 1), (.aload 0, 1), (.invokeinterface 10 7, 3), (.aload 0, 1), (.invokeinterface 10 3, 3), (.iload 1, 1), (.iaload, 1), (.aload 0, 1), (.invokeinterface 10 4, 3), (.iload 1, 1), (.iaload, 1)] (pc' := 136) (S' := ([(2, .int y2), (0, .ref 193), (1, .int a1)], [.int ((rf_i m2 197 (Int32.toNatClampNeg y2) 0).1 195 (Int32.toNatClampNeg a1)), .int ((rf_i m2 197 (Int32.toNatClampNeg y2) 0).1 194 (Int32.toNatClampNeg a1)), .ref 198, .int y2, .ref 198], rf_MM w (rf_i m2 197 (Int32.toNatClampNeg y2) 0))) (by decide +kernel) rfl (by exact ⟨(rf_in_of q4), (rf_in_of q5), (rf_in_of q6)⟩) ?_
      obtain ⟨y7, m7, hc7, hg⟩ := rf_b_some hg
      refine rf_calls C rf_fit0 j_X10_sight (As := [.int ((rf_i m2 197 (Int32.toNatClampNeg y2) 0).1 194 (Int32.toNatClampNeg a1)), .int ((rf_i m2 197 (Int32.toNatClampNeg y2) 0).1 195 (Int32.toNatClampNeg a1))]) (rest := [.ref 198, .int y2, .ref 198]) mw_X10_sight (c_X10_sight hc7) (by decide) lk_10_53 rfl rfl (Nat.le_of_ble_eq_true rfl) (by decide +kernel) ?_
      show rf_V 3 (rf_sh w) K 0 0 139 ([(2, .int y2), (0, .ref 193), (1, .int a1)], [.int y7, .ref 198, .int y2, .ref 198], rf_MM w m7)
      obtain ⟨q8, hg⟩ := rf_g_some hg
      obtain ⟨q9, hg⟩ := rf_g_some hg
      obtain ⟨q10, hg⟩ := rf_g_some hg
      obtain ⟨q11, hg⟩ := rf_g_some hg
      refine rf_seg C [(.iaload, 1), (.iconst 6480000, 2), (.iadd, 1), (.iconst 12960000, 2), (.irem, 1), (.iastore, 1), (.aload 0, 1), (.invokeinterface 10 8, 3), (.iload 2, 1), (.aload 0, 1), (.invokeinterface 10 3, 3), (.iload 1, 1), (.iaload, 1), (.iastore, 1)] (pc' := 159) (S' := ([(2, .int y2), (0, .ref 193), (1, .int a1)], [], rf_MM w (rf_i (rf_i m7 198 (Int32.toNatClampNeg y2) (((m7.1 198 (Int32.toNatClampNeg y7)) + 6480000) - ((m7.1 198 (Int32.toNatClampNeg y7)) + 6480000) / 12960000 * 12960000)) 199 (Int32.toNatClampNeg y2) ((rf_i m7 198 (Int32.toNatClampNeg y2) (((m7.1 198 (Int32.toNatClampNeg y7)) + 6480000) - ((m7.1 198 (Int32.toNatClampNeg y7)) + 6480000) / 12960000 * 12960000)).1 194 (Int32.toNatClampNeg a1))))) (by decide +kernel) rfl (by exact ⟨(rf_in_of q8), (rf_nz_of (by decide)), (rf_in_of q9), (rf_in_of q10), (rf_in_of q11)⟩) ?_
      refine rf_few [1, 2] rfl ?_
      exact s_X10_takeStars_159 C hE hr75 a1 (rf_i (rf_i m7 198 (Int32.toNatClampNeg y2) (((m7.1 198 (Int32.toNatClampNeg y7)) + 6480000) - ((m7.1 198 (Int32.toNatClampNeg y7)) + 6480000) / 12960000 * 12960000)) 199 (Int32.toNatClampNeg y2) ((rf_i m7 198 (Int32.toNatClampNeg y2) (((m7.1 198 (Int32.toNatClampNeg y7)) + 6480000) - ((m7.1 198 (Int32.toNatClampNeg y7)) + 6480000) / 12960000 * 12960000)).1 194 (Int32.toNatClampNeg a1))) hg
theorem s_X10_takeStars_75 {w : rf_w} {K : rf_K} {r : rf_m} (C : rf_Ctx 10 cX10_takeStars 3 2 (rf_sh w) K) (hE : rf_End none K (rf_sh w) 0 0 none (rf_MM w r)) (n : Nat) : ∀ (a1 : Int32) (m : rf_m), g_X10_takeStars_75 w n a1 m = some r → rf_V 3 (rf_sh w) K 0 0 75 ([(0, .ref 193), (1, .int a1)], [], rf_MM w m) := by
  induction n with
  | zero => intro a1 m hg; cases hg
  | succ n ih => intro a1 m hg; exact s_X10_takeStars_75_b C hE ih a1 m hg
theorem s_X10_takeStars_2_b {w : rf_w} {K : rf_K} {r : rf_m} (C : rf_Ctx 10 cX10_takeStars 3 2 (rf_sh w) K) (hE : rf_End none K (rf_sh w) 0 0 none (rf_MM w r)) {rec2 : Int32 → rf_m → Option (rf_m)} (hr2 : ∀ (a1 : Int32) (m : rf_m), rec2 a1 m = some r → rf_V 3 (rf_sh w) K 0 0 2 ([(0, .ref 193), (1, .int a1)], [], rf_MM w m)) (a1 : Int32) (m : rf_m) (hg : g_X10_takeStars_2_b w rec2 a1 m = some r) : rf_V 3 (rf_sh w) K 0 0 2 ([(0, .ref 193), (1, .int a1)], [], rf_MM w m) := by
  unfold g_X10_takeStars_2_b at hg
  refine rf_seg C [(.iload 1, 1), (.aload 0, 1), (.invokeinterface 10 0, 3)] (pc' := 7) (S' := ([(0, .ref 193), (1, .int a1)], [.int (m.1 193 0), .int a1], rf_MM w m)) (by decide +kernel) rfl trivial ?_
  refine rf_icmp_ge C 66 73 (by decide +kernel) (fun hc => ?_) (fun hc => ?_)
  · replace hg := (if_pos hc).symm.trans hg
    refine rf_seg C [(.iconst 0, 1), (.istore 1, 1)] (pc' := 75) (S' := ([(1, .int 0), (0, .ref 193)], [], rf_MM w m)) (by decide +kernel) rfl trivial ?_
    refine rf_few [1, 0] rfl ?_
    exact s_X10_takeStars_75 C hE rf_fuel 0 m hg
  · replace hg := (if_neg hc).symm.trans hg
    obtain ⟨q0, hg⟩ := rf_g_some hg
    obtain ⟨q1, hg⟩ := rf_g_some hg
    refine rf_seg C [(.aload 0, 1), (.invokeinterface 10 3, 3), (.iload 1, 1), (.iaload, 1), (.aload 0, 1), (.invokeinterface 10 4, 3), (.iload 1, 1), (.iaload, 1)] (pc' := 22) (S' := ([(0, .ref 193), (1, .int a1)], [.int (m.1 195 (Int32.toNatClampNeg a1)), .int (m.1 194 (Int32.toNatClampNeg a1))], rf_MM w m)) (by decide +kernel) rfl (by exact ⟨(rf_in_of q0), (rf_in_of q1)⟩) ?_
    obtain ⟨y2, m2, hc2, hg⟩ := rf_b_some hg
    refine rf_calls C rf_fit0 j_X10_sight (As := [.int (m.1 194 (Int32.toNatClampNeg a1)), .int (m.1 195 (Int32.toNatClampNeg a1))]) (rest := []) mw_X10_sight (c_X10_sight hc2) (by decide) lk_10_53 rfl rfl (Nat.le_of_ble_eq_true rfl) (by decide +kernel) ?_
    show rf_V 3 (rf_sh w) K 0 0 25 ([(0, .ref 193), (1, .int a1)], [.int y2], rf_MM w m2)
    obtain ⟨q3, hg⟩ := rf_g_some hg
    obtain ⟨q4, hg⟩ := rf_g_some hg
    obtain ⟨q5, hg⟩ := rf_g_some hg
    refine rf_seg C [(.istore 2, 1), (.aload 0, 1), (.invokeinterface 10 6, 3), (.iload 2, 1), (.iconst 0, 1), (.iastore, 1), (.aload 0, 1), (.invokeinterface 10 7, 3), (.iload 2, 1), (.aload 0, 1), (.aload 0, 1), (.invokeinterface 10 3, 3), (.iload 1, 1), (.iaload, 1), (.aload 0, 1), (.invokeinterface 10 4, 3), (.iload 1, 1), (.iaload, 1)] (pc' := 51) (S' := ([(2, .int y2), (0, .ref 193), (1, .int a1)], [.int ((rf_i m2 197 (Int32.toNatClampNeg y2) 0).1 195 (Int32.toNatClampNeg a1)), .int ((rf_i m2 197 (Int32.toNatClampNeg y2) 0).1 194 (Int32.toNatClampNeg a1)), .ref 193, .int y2, .ref 198], rf_MM w (rf_i m2 197 (Int32.toNatClampNeg y2) 0))) (by decide +kernel) rfl (by exact ⟨(rf_in_of q3), (rf_in_of q4), (rf_in_of q5)⟩) ?_
    obtain ⟨y6, m6, hc6, hg⟩ := rf_b_some hg
    refine rf_callv C rf_fit0 j_X10_meanOfStars (ci := 10) (As := [.int ((rf_i m2 197 (Int32.toNatClampNeg y2) 0).1 194 (Int32.toNatClampNeg a1)), .int ((rf_i m2 197 (Int32.toNatClampNeg y2) 0).1 195 (Int32.toNatClampNeg a1))]) (rest := [.int y2, .ref 198]) mw_X10_meanOfStars (c_X10_meanOfStars hc6) (by decide) rfl (by decide) lk_10_93 rfl rfl (Nat.le_of_ble_eq_true rfl) (by decide +kernel) ?_
    show rf_V 3 (rf_sh w) K 0 0 54 ([(2, .int y2), (0, .ref 193), (1, .int a1)], [.int y6, .int y2, .ref 198], rf_MM w m6)
    obtain ⟨q7, hg⟩ := rf_g_some hg
    obtain ⟨q8, hg⟩ := rf_g_some hg
    obtain ⟨q9, hg⟩ := rf_g_some hg
    refine rf_seg C [(.iastore, 1), (.aload 0, 1), (.invokeinterface 10 8, 3), (.iload 2, 1), (.aload 0, 1), (.invokeinterface 10 3, 3), (.iload 1, 1), (.iaload, 1), (.iastore, 1), (.iinc 1 1, 3)] (pc' := 70) (S' := ([(1, .int (a1 + 1)), (2, .int y2), (0, .ref 193)], [], rf_MM w (rf_i (rf_i m6 198 (Int32.toNatClampNeg y2) y6) 199 (Int32.toNatClampNeg y2) ((rf_i m6 198 (Int32.toNatClampNeg y2) y6).1 194 (Int32.toNatClampNeg a1))))) (by decide +kernel) rfl (by exact ⟨(rf_in_of q7), (rf_in_of q8), (rf_in_of q9)⟩) ?_
    refine rf_goto C (-68) 2 (by decide +kernel) ?_
    refine rf_few [2, 0] rfl ?_
    exact hr2 (a1 + 1) (rf_i (rf_i m6 198 (Int32.toNatClampNeg y2) y6) 199 (Int32.toNatClampNeg y2) ((rf_i m6 198 (Int32.toNatClampNeg y2) y6).1 194 (Int32.toNatClampNeg a1))) hg
theorem s_X10_takeStars_2 {w : rf_w} {K : rf_K} {r : rf_m} (C : rf_Ctx 10 cX10_takeStars 3 2 (rf_sh w) K) (hE : rf_End none K (rf_sh w) 0 0 none (rf_MM w r)) (n : Nat) : ∀ (a1 : Int32) (m : rf_m), g_X10_takeStars_2 w n a1 m = some r → rf_V 3 (rf_sh w) K 0 0 2 ([(0, .ref 193), (1, .int a1)], [], rf_MM w m) := by
  induction n with
  | zero => intro a1 m hg; cases hg
  | succ n ih => intro a1 m hg; exact s_X10_takeStars_2_b C hE ih a1 m hg
theorem c_X10_takeStars {w : rf_w} {m : rf_m} {r : rf_m} (hg : g_X10_takeStars w m = some r) : rf_Con j_X10_takeStars 2 (rf_sh w) [.ref 193] (rf_MM w m) none (rf_MM w r) := by
  refine rf_con j_X10_takeStars 2 ⟨by decide +kernel, rfl, Nat.le_of_ble_eq_true rfl⟩ (fun K C hE => ?_)
  unfold g_X10_takeStars at hg
  show rf_V 3 (rf_sh w) K 0 0 0 ([(0, .ref 193)], [], rf_MM w m)
  refine rf_seg C [(.iconst 0, 1), (.istore 1, 1)] (pc' := 2) (S' := ([(1, .int 0), (0, .ref 193)], [], rf_MM w m)) (by decide +kernel) rfl trivial ?_
  refine rf_few [1, 0] rfl ?_
  exact s_X10_takeStars_2 C hE rf_fuel 0 m hg
-- X10_carryNorth
abbrev j_X10_carryNorth : rf_J := (10, yX10_carryNorth, cX10_carryNorth, 8, none)
theorem mw_X10_carryNorth : rf_mv j_X10_carryNorth (rf_R 10) 2 := ⟨⟨rf_mem 88 (by decide +kernel), rf_mem 88 (by decide +kernel), rf_mem 1 (by decide +kernel), rf_mem 88 (by decide +kernel)⟩, by decide +kernel, by decide⟩
def g_X10_carryNorth_192 (w : rf_w) (rec18 : Int32 → Int32 → Int32 → Int32 → rf_m → Option (rf_m)) (a1 : Int32) (a2 : Int32) (a4 : Int32) (s0 : Int32) (m : rf_m) : Option (rf_m) := rec18 a1 a2 s0 (a4 + 1) m
def g_X10_carryNorth_170 (w : rf_w) (rec18 : Int32 → Int32 → Int32 → Int32 → rf_m → Option (rf_m)) (rec50 : Int32 → Int32 → Int32 → Int32 → rf_m → Option (rf_m)) (a1 : Int32) (a2 : Int32) (a4 : Int32) (a5 : Int32) (m : rf_m) : Option (rf_m) := rec50 a1 a2 a4 (a5 + 1) m
def g_X10_carryNorth_50_b (w : rf_w) (rec18 : Int32 → Int32 → Int32 → Int32 → rf_m → Option (rf_m)) (rec50 : Int32 → Int32 → Int32 → Int32 → rf_m → Option (rf_m)) (a1 : Int32) (a2 : Int32) (a4 : Int32) (a5 : Int32) (m : rf_m) : Option (rf_m) := (if (m.1 26 6) ≤ a5 then rf_bv (g_X10_rankLayer w m) fun m0 => (if (m0.1 193 11) ≤ 0 then g_X10_carryNorth_192 w rec18 a1 a2 a4 0 m0 else g_X10_carryNorth_192 w rec18 a1 a2 a4 1 m0) else rf_g (rf_in a5 80) ((if (m.1 31 (Int32.toNatClampNeg a5)) < 0 then g_X10_carryNorth_170 w rec18 rec50 a1 a2 a4 a5 m else rf_g (rf_in a5 80) (rf_g (rf_in a5 80) (rf_b (g_X10_sight w m (m.1 28 (Int32.toNatClampNeg a5)) (m.1 29 (Int32.toNatClampNeg a5))) fun y4 m4 => rf_g (rf_in a5 80) (rf_g (rf_in a5 80) (rf_b (g_X10_sight w m4 (m4.1 28 (Int32.toNatClampNeg a5)) (m4.1 30 (Int32.toNatClampNeg a5))) fun y7 m7 => rf_g (rf_in a5 80) (rf_bv (g_X10_carry w m7 y4 y7 a5 a4 (m7.1 31 (Int32.toNatClampNeg a5))) fun m9 => rf_g (rf_in a5 80) (rf_bv (g_X10_carry w m9 y7 y4 a5 a4 (-(m9.1 31 (Int32.toNatClampNeg a5)))) fun m11 => g_X10_carryNorth_170 w rec18 rec50 a1 a2 a4 a5 m11)))))))))
def g_X10_carryNorth_50 (w : rf_w) (rec18 : Int32 → Int32 → Int32 → Int32 → rf_m → Option (rf_m)) : Nat → Int32 → Int32 → Int32 → Int32 → rf_m → Option (rf_m)
  | 0, _, _, _, _, _ => none
  | n + 1, a1, a2, a4, a5, m => g_X10_carryNorth_50_b w rec18 (g_X10_carryNorth_50 w rec18 n) a1 a2 a4 a5 m
def g_X10_carryNorth_18_b (w : rf_w) (rec18 : Int32 → Int32 → Int32 → Int32 → rf_m → Option (rf_m)) (a1 : Int32) (a2 : Int32) (a3 : Int32) (a4 : Int32) (m : rf_m) : Option (rf_m) := (if 80 < a4 then some m else (if a3 = 0 then some m else rf_b (g_X10_sight w m a1 a2) fun y0 m0 => rf_g (rf_in y0 900) ((if (0 : Int32) ≤ (m0.1 197 (Int32.toNatClampNeg y0)) then some m0 else g_X10_carryNorth_50 w rec18 rf_fuel a1 a2 a4 0 (rf_i m0 193 11 0)))))
def g_X10_carryNorth_18 (w : rf_w) : Nat → Int32 → Int32 → Int32 → Int32 → rf_m → Option (rf_m)
  | 0, _, _, _, _, _ => none
  | n + 1, a1, a2, a3, a4, m => g_X10_carryNorth_18_b w (g_X10_carryNorth_18 w n) a1 a2 a3 a4 m
def g_X10_carryNorth (w : rf_w) (m : rf_m) (a1 : Int32) (a2 : Int32) : Option (rf_m) := rf_bv (g_J7_fill_53178__197 w m ((-2))) fun m0 => rf_bv (g_X10_takeStars w m0) fun m1 => g_X10_carryNorth_18 w rf_fuel a1 a2 1 1 m1
theorem s_X10_carryNorth_192 {w : rf_w} {K : rf_K} {r : rf_m} (C : rf_Ctx 10 cX10_carryNorth 8 3 (rf_sh w) K) (hE : rf_End none K (rf_sh w) 0 0 none (rf_MM w r)) {rec18 : Int32 → Int32 → Int32 → Int32 → rf_m → Option (rf_m)} (hr18 : ∀ (a1 : Int32) (a2 : Int32) (a3 : Int32) (a4 : Int32) (m : rf_m), rec18 a1 a2 a3 a4 m = some r → rf_V 8 (rf_sh w) K 0 0 18 ([(0, .ref 193), (1, .int a1), (2, .int a2), (3, .int a3), (4, .int a4)], [], rf_MM w m)) (a1 : Int32) (a2 : Int32) (a4 : Int32) (s0 : Int32) (m : rf_m) (hg : g_X10_carryNorth_192 w rec18 a1 a2 a4 s0 m = some r) : rf_V 8 (rf_sh w) K 0 0 192 ([(0, .ref 193), (1, .int a1), (2, .int a2), (4, .int a4)], [.int s0], rf_MM w m) := by
  unfold g_X10_carryNorth_192 at hg
  refine rf_seg C [(.istore 3, 1), (.iinc 4 1, 3)] (pc' := 196) (S' := ([(4, .int (a4 + 1)), (3, .int s0), (0, .ref 193), (1, .int a1), (2, .int a2)], [], rf_MM w m)) (by decide +kernel) rfl trivial ?_
  refine rf_goto C (-178) 18 (by decide +kernel) ?_
  refine rf_few [2, 3, 4, 1, 0] rfl ?_
  exact hr18 a1 a2 s0 (a4 + 1) m hg
theorem s_X10_carryNorth_170 {w : rf_w} {K : rf_K} {r : rf_m} (C : rf_Ctx 10 cX10_carryNorth 8 3 (rf_sh w) K) (hE : rf_End none K (rf_sh w) 0 0 none (rf_MM w r)) {rec18 : Int32 → Int32 → Int32 → Int32 → rf_m → Option (rf_m)} {rec50 : Int32 → Int32 → Int32 → Int32 → rf_m → Option (rf_m)} (hr18 : ∀ (a1 : Int32) (a2 : Int32) (a3 : Int32) (a4 : Int32) (m : rf_m), rec18 a1 a2 a3 a4 m = some r → rf_V 8 (rf_sh w) K 0 0 18 ([(0, .ref 193), (1, .int a1), (2, .int a2), (3, .int a3), (4, .int a4)], [], rf_MM w m)) (hr50 : ∀ (a1 : Int32) (a2 : Int32) (a4 : Int32) (a5 : Int32) (m : rf_m), rec50 a1 a2 a4 a5 m = some r → rf_V 8 (rf_sh w) K 0 0 50 ([(0, .ref 193), (1, .int a1), (2, .int a2), (4, .int a4), (5, .int a5)], [], rf_MM w m)) (a1 : Int32) (a2 : Int32) (a4 : Int32) (a5 : Int32) (m : rf_m) (hg : g_X10_carryNorth_170 w rec18 rec50 a1 a2 a4 a5 m = some r) : rf_V 8 (rf_sh w) K 0 0 170 ([(0, .ref 193), (1, .int a1), (2, .int a2), (4, .int a4), (5, .int a5)], [], rf_MM w m) := by
  unfold g_X10_carryNorth_170 at hg
  refine rf_seg C [(.iinc 5 1, 3)] (pc' := 173) (S' := ([(5, .int (a5 + 1)), (0, .ref 193), (1, .int a1), (2, .int a2), (4, .int a4)], [], rf_MM w m)) (by decide +kernel) rfl trivial ?_
  refine rf_goto C (-123) 50 (by decide +kernel) ?_
  refine rf_few [1, 2, 3, 4, 0] rfl ?_
  exact hr50 a1 a2 a4 (a5 + 1) m hg
theorem s_X10_carryNorth_50_b {w : rf_w} {K : rf_K} {r : rf_m} (C : rf_Ctx 10 cX10_carryNorth 8 3 (rf_sh w) K) (hE : rf_End none K (rf_sh w) 0 0 none (rf_MM w r)) {rec18 : Int32 → Int32 → Int32 → Int32 → rf_m → Option (rf_m)} {rec50 : Int32 → Int32 → Int32 → Int32 → rf_m → Option (rf_m)} (hr18 : ∀ (a1 : Int32) (a2 : Int32) (a3 : Int32) (a4 : Int32) (m : rf_m), rec18 a1 a2 a3 a4 m = some r → rf_V 8 (rf_sh w) K 0 0 18 ([(0, .ref 193), (1, .int a1), (2, .int a2), (3, .int a3), (4, .int a4)], [], rf_MM w m)) (hr50 : ∀ (a1 : Int32) (a2 : Int32) (a4 : Int32) (a5 : Int32) (m : rf_m), rec50 a1 a2 a4 a5 m = some r → rf_V 8 (rf_sh w) K 0 0 50 ([(0, .ref 193), (1, .int a1), (2, .int a2), (4, .int a4), (5, .int a5)], [], rf_MM w m)) (a1 : Int32) (a2 : Int32) (a4 : Int32) (a5 : Int32) (m : rf_m) (hg : g_X10_carryNorth_50_b w rec18 rec50 a1 a2 a4 a5 m = some r) : rf_V 8 (rf_sh w) K 0 0 50 ([(0, .ref 193), (1, .int a1), (2, .int a2), (4, .int a4), (5, .int a5)], [], rf_MM w m) := by
  unfold g_X10_carryNorth_50_b at hg
  refine rf_seg C [(.iload 5, 2), (.aload 0, 1), (.invokeinterface 10 2, 3), (.invokeinterface 3 6, 3)] (pc' := 59) (S' := ([(0, .ref 193), (1, .int a1), (2, .int a2), (4, .int a4), (5, .int a5)], [.int (m.1 26 6), .int a5], rf_MM w m)) (by decide +kernel) rfl trivial ?_
  refine rf_icmp_ge C 117 176 (by decide +kernel) (fun hc => ?_) (fun hc => ?_)
  · replace hg := (if_pos hc).symm.trans hg
    refine rf_seg C [(.aload 0, 1)] (pc' := 177) (S' := ([(0, .ref 193), (1, .int a1), (2, .int a2), (4, .int a4), (5, .int a5)], [.ref 193], rf_MM w m)) (by decide +kernel) rfl trivial ?_
    obtain ⟨m0, hc0, hg⟩ := rf_bv_some hg
    refine rf_callv C rf_fit0 j_X10_rankLayer (ci := 10) (As := []) (rest := []) mw_X10_rankLayer (c_X10_rankLayer hc0) (by decide) rfl (by decide) lk_10_90 rfl rfl (Nat.le_of_ble_eq_true rfl) (by decide +kernel) ?_
    show rf_V 8 (rf_sh w) K 0 0 180 ([(0, .ref 193), (1, .int a1), (2, .int a2), (4, .int a4), (5, .int a5)], [], rf_MM w m0)
    refine rf_seg C [(.aload 0, 1), (.invokeinterface 10 11, 3)] (pc' := 184) (S' := ([(0, .ref 193), (1, .int a1), (2, .int a2), (4, .int a4), (5, .int a5)], [.int (m0.1 193 11)], rf_MM w m0)) (by decide +kernel) rfl trivial ?_
    refine rf_if_le C 7 191 (by decide +kernel) (fun hc => ?_) (fun hc => ?_)
    · replace hg := (if_pos hc).symm.trans hg
      refine rf_seg C [(.iconst 0, 1)] (pc' := 192) (S' := ([(0, .ref 193), (1, .int a1), (2, .int a2), (4, .int a4), (5, .int a5)], [.int 0], rf_MM w m0)) (by decide +kernel) rfl trivial ?_
      refine rf_few [0, 1, 2, 3] rfl ?_
      exact s_X10_carryNorth_192 C hE hr18 a1 a2 a4 0 m0 hg
    · replace hg := (if_neg hc).symm.trans hg
      refine rf_seg C [(.iconst 1, 1)] (pc' := 188) (S' := ([(0, .ref 193), (1, .int a1), (2, .int a2), (4, .int a4), (5, .int a5)], [.int 1], rf_MM w m0)) (by decide +kernel) rfl trivial ?_
      refine rf_goto C 4 192 (by decide +kernel) ?_
      refine rf_few [0, 1, 2, 3] rfl ?_
      exact s_X10_carryNorth_192 C hE hr18 a1 a2 a4 1 m0 hg
  · replace hg := (if_neg hc).symm.trans hg
    obtain ⟨q1, hg⟩ := rf_g_some hg
    refine rf_seg C [(.aload 0, 1), (.invokeinterface 10 2, 3), (.invokeinterface 3 4, 3), (.iload 5, 2), (.iaload, 1)] (pc' := 72) (S' := ([(0, .ref 193), (1, .int a1), (2, .int a2), (4, .int a4), (5, .int a5)], [.int (m.1 31 (Int32.toNatClampNeg a5))], rf_MM w m)) (by decide +kernel) rfl (rf_in_of q1) ?_
    refine rf_if_lt C 98 170 (by decide +kernel) (fun hc => ?_) (fun hc => ?_)
    · replace hg := (if_pos hc).symm.trans hg
      refine rf_few [0, 1, 2, 3, 4] rfl ?_
      exact s_X10_carryNorth_170 C hE hr18 hr50 a1 a2 a4 a5 m hg
    · replace hg := (if_neg hc).symm.trans hg
      obtain ⟨q2, hg⟩ := rf_g_some hg
      obtain ⟨q3, hg⟩ := rf_g_some hg
      refine rf_seg C [(.aload 0, 1), (.invokeinterface 10 2, 3), (.invokeinterface 3 1, 3), (.iload 5, 2), (.iaload, 1), (.aload 0, 1), (.invokeinterface 10 2, 3), (.invokeinterface 3 2, 3), (.iload 5, 2), (.iaload, 1)] (pc' := 95) (S' := ([(0, .ref 193), (1, .int a1), (2, .int a2), (4, .int a4), (5, .int a5)], [.int (m.1 29 (Int32.toNatClampNeg a5)), .int (m.1 28 (Int32.toNatClampNeg a5))], rf_MM w m)) (by decide +kernel) rfl (by exact ⟨(rf_in_of q2), (rf_in_of q3)⟩) ?_
      obtain ⟨y4, m4, hc4, hg⟩ := rf_b_some hg
      refine rf_calls C rf_fit0 j_X10_sight (As := [.int (m.1 28 (Int32.toNatClampNeg a5)), .int (m.1 29 (Int32.toNatClampNeg a5))]) (rest := []) mw_X10_sight (c_X10_sight hc4) (by decide) lk_10_53 rfl rfl (Nat.le_of_ble_eq_true rfl) (by decide +kernel) ?_
      show rf_V 8 (rf_sh w) K 0 0 98 ([(0, .ref 193), (1, .int a1), (2, .int a2), (4, .int a4), (5, .int a5)], [.int y4], rf_MM w m4)
      obtain ⟨q5, hg⟩ := rf_g_some hg
      obtain ⟨q6, hg⟩ := rf_g_some hg
      refine rf_seg C [(.istore 6, 2), (.aload 0, 1), (.invokeinterface 10 2, 3), (.invokeinterface 3 1, 3), (.iload 5, 2), (.iaload, 1), (.aload 0, 1), (.invokeinterface 10 2, 3), (.invokeinterface 3 3, 3), (.iload 5, 2), (.iaload, 1)] (pc' := 120) (S' := ([(6, .int y4), (0, .ref 193), (1, .int a1), (2, .int a2), (4, .int a4), (5, .int a5)], [.int (m4.1 30 (Int32.toNatClampNeg a5)), .int (m4.1 28 (Int32.toNatClampNeg a5))], rf_MM w m4)) (by decide +kernel) rfl (by exact ⟨(rf_in_of q5), (rf_in_of q6)⟩) ?_
      obtain ⟨y7, m7, hc7, hg⟩ := rf_b_some hg
      refine rf_calls C rf_fit0 j_X10_sight (As := [.int (m4.1 28 (Int32.toNatClampNeg a5)), .int (m4.1 30 (Int32.toNatClampNeg a5))]) (rest := []) mw_X10_sight (c_X10_sight hc7) (by decide) lk_10_53 rfl rfl (Nat.le_of_ble_eq_true rfl) (by decide +kernel) ?_
      show rf_V 8 (rf_sh w) K 0 0 123 ([(6, .int y4), (0, .ref 193), (1, .int a1), (2, .int a2), (4, .int a4), (5, .int a5)], [.int y7], rf_MM w m7)
      obtain ⟨q8, hg⟩ := rf_g_some hg
      refine rf_seg C [(.istore 7, 2), (.aload 0, 1), (.iload 6, 2), (.iload 7, 2), (.iload 5, 2), (.iload 4, 2), (.aload 0, 1), (.invokeinterface 10 2, 3), (.invokeinterface 3 4, 3), (.iload 5, 2), (.iaload, 1)] (pc' := 144) (S' := ([(7, .int y7), (6, .int y4), (0, .ref 193), (1, .int a1), (2, .int a2), (4, .int a4), (5, .int a5)], [.int (m7.1 31 (Int32.toNatClampNeg a5)), .int a4, .int a5, .int y7, .int y4, .ref 193], rf_MM w m7)) (by decide +kernel) rfl (rf_in_of q8) ?_
      obtain ⟨m9, hc9, hg⟩ := rf_bv_some hg
      refine rf_callv C rf_fit0 j_X10_carry (ci := 10) (As := [.int y4, .int y7, .int a5, .int a4, .int (m7.1 31 (Int32.toNatClampNeg a5))]) (rest := []) mw_X10_carry (c_X10_carry hc9) (by decide) rfl (by decide) lk_10_86 rfl rfl (Nat.le_of_ble_eq_true rfl) (by decide +kernel) ?_
      show rf_V 8 (rf_sh w) K 0 0 147 ([(7, .int y7), (6, .int y4), (0, .ref 193), (1, .int a1), (2, .int a2), (4, .int a4), (5, .int a5)], [], rf_MM w m9)
      obtain ⟨q10, hg⟩ := rf_g_some hg
      refine rf_seg C [(.aload 0, 1), (.iload 7, 2), (.iload 6, 2), (.iload 5, 2), (.iload 4, 2), (.aload 0, 1), (.invokeinterface 10 2, 3), (.invokeinterface 3 4, 3), (.iload 5, 2), (.iaload, 1), (.ineg, 1)] (pc' := 167) (S' := ([(7, .int y7), (6, .int y4), (0, .ref 193), (1, .int a1), (2, .int a2), (4, .int a4), (5, .int a5)], [.int (-(m9.1 31 (Int32.toNatClampNeg a5))), .int a4, .int a5, .int y4, .int y7, .ref 193], rf_MM w m9)) (by decide +kernel) rfl (rf_in_of q10) ?_
      obtain ⟨m11, hc11, hg⟩ := rf_bv_some hg
      refine rf_callv C rf_fit0 j_X10_carry (ci := 10) (As := [.int y7, .int y4, .int a5, .int a4, .int (-(m9.1 31 (Int32.toNatClampNeg a5)))]) (rest := []) mw_X10_carry (c_X10_carry hc11) (by decide) rfl (by decide) lk_10_86 rfl rfl (Nat.le_of_ble_eq_true rfl) (by decide +kernel) ?_
      show rf_V 8 (rf_sh w) K 0 0 170 ([(7, .int y7), (6, .int y4), (0, .ref 193), (1, .int a1), (2, .int a2), (4, .int a4), (5, .int a5)], [], rf_MM w m11)
      refine rf_few [2, 3, 4, 5, 6] rfl ?_
      exact s_X10_carryNorth_170 C hE hr18 hr50 a1 a2 a4 a5 m11 hg
theorem s_X10_carryNorth_50 {w : rf_w} {K : rf_K} {r : rf_m} (C : rf_Ctx 10 cX10_carryNorth 8 3 (rf_sh w) K) (hE : rf_End none K (rf_sh w) 0 0 none (rf_MM w r)) {rec18 : Int32 → Int32 → Int32 → Int32 → rf_m → Option (rf_m)} (hr18 : ∀ (a1 : Int32) (a2 : Int32) (a3 : Int32) (a4 : Int32) (m : rf_m), rec18 a1 a2 a3 a4 m = some r → rf_V 8 (rf_sh w) K 0 0 18 ([(0, .ref 193), (1, .int a1), (2, .int a2), (3, .int a3), (4, .int a4)], [], rf_MM w m)) (n : Nat) : ∀ (a1 : Int32) (a2 : Int32) (a4 : Int32) (a5 : Int32) (m : rf_m), g_X10_carryNorth_50 w rec18 n a1 a2 a4 a5 m = some r → rf_V 8 (rf_sh w) K 0 0 50 ([(0, .ref 193), (1, .int a1), (2, .int a2), (4, .int a4), (5, .int a5)], [], rf_MM w m) := by
  induction n with
  | zero => intro a1 a2 a4 a5 m hg; cases hg
  | succ n ih => intro a1 a2 a4 a5 m hg; exact s_X10_carryNorth_50_b C hE hr18 ih a1 a2 a4 a5 m hg
theorem s_X10_carryNorth_18_b {w : rf_w} {K : rf_K} {r : rf_m} (C : rf_Ctx 10 cX10_carryNorth 8 3 (rf_sh w) K) (hE : rf_End none K (rf_sh w) 0 0 none (rf_MM w r)) {rec18 : Int32 → Int32 → Int32 → Int32 → rf_m → Option (rf_m)} (hr18 : ∀ (a1 : Int32) (a2 : Int32) (a3 : Int32) (a4 : Int32) (m : rf_m), rec18 a1 a2 a3 a4 m = some r → rf_V 8 (rf_sh w) K 0 0 18 ([(0, .ref 193), (1, .int a1), (2, .int a2), (3, .int a3), (4, .int a4)], [], rf_MM w m)) (a1 : Int32) (a2 : Int32) (a3 : Int32) (a4 : Int32) (m : rf_m) (hg : g_X10_carryNorth_18_b w rec18 a1 a2 a3 a4 m = some r) : rf_V 8 (rf_sh w) K 0 0 18 ([(0, .ref 193), (1, .int a1), (2, .int a2), (3, .int a3), (4, .int a4)], [], rf_MM w m) := by
  unfold g_X10_carryNorth_18_b at hg
  refine rf_seg C [(.iload 4, 2), (.iconst 80, 2)] (pc' := 22) (S' := ([(0, .ref 193), (1, .int a1), (2, .int a2), (3, .int a3), (4, .int a4)], [.int 80, .int a4], rf_MM w m)) (by decide +kernel) rfl trivial ?_
  refine rf_icmp_gt C 177 199 (by decide +kernel) (fun hc => ?_) (fun hc => ?_)
  · replace hg := (if_pos hc).symm.trans hg
    obtain rfl := Option.some.inj hg
    exact rf_vret C hE (by decide +kernel)
  · replace hg := (if_neg hc).symm.trans hg
    refine rf_seg C [(.iload 3, 1)] (pc' := 26) (S' := ([(0, .ref 193), (1, .int a1), (2, .int a2), (3, .int a3), (4, .int a4)], [.int a3], rf_MM w m)) (by decide +kernel) rfl trivial ?_
    refine rf_if_eq C 173 199 (by decide +kernel) (fun hc => ?_) (fun hc => ?_)
    · replace hg := (if_pos hc).symm.trans hg
      obtain rfl := Option.some.inj hg
      exact rf_vret C hE (by decide +kernel)
    · replace hg := (if_neg hc).symm.trans hg
      refine rf_seg C [(.aload 0, 1), (.invokeinterface 10 6, 3), (.iload 1, 1), (.iload 2, 1)] (pc' := 35) (S' := ([(0, .ref 193), (1, .int a1), (2, .int a2), (3, .int a3), (4, .int a4)], [.int a2, .int a1, .ref 197], rf_MM w m)) (by decide +kernel) rfl trivial ?_
      obtain ⟨y0, m0, hc0, hg⟩ := rf_b_some hg
      refine rf_calls C rf_fit0 j_X10_sight (As := [.int a1, .int a2]) (rest := [.ref 197]) mw_X10_sight (c_X10_sight hc0) (by decide) lk_10_53 rfl rfl (Nat.le_of_ble_eq_true rfl) (by decide +kernel) ?_
      show rf_V 8 (rf_sh w) K 0 0 38 ([(0, .ref 193), (1, .int a1), (2, .int a2), (3, .int a3), (4, .int a4)], [.int y0, .ref 197], rf_MM w m0)
      obtain ⟨q1, hg⟩ := rf_g_some hg
      refine rf_seg C [(.iaload, 1)] (pc' := 39) (S' := ([(0, .ref 193), (1, .int a1), (2, .int a2), (3, .int a3), (4, .int a4)], [.int (m0.1 197 (Int32.toNatClampNeg y0))], rf_MM w m0)) (by decide +kernel) rfl (rf_in_of q1) ?_
      refine rf_if_ge C 160 199 (by decide +kernel) (fun hc => ?_) (fun hc => ?_)
      · replace hg := (if_pos hc).symm.trans hg
        obtain rfl := Option.some.inj hg
        exact rf_vret C hE (by decide +kernel)
      · replace hg := (if_neg hc).symm.trans hg
        refine rf_seg C [(.aload 0, 1), (.iconst 0, 1), (.multianewarray 10 11, 3), (.iconst 0, 1), (.istore 5, 2)] (pc' := 50) (S' := ([(5, .int 0), (0, .ref 193), (1, .int a1), (2, .int a2), (3, .int a3), (4, .int a4)], [], rf_MM w (rf_i m0 193 11 0))) (by decide +kernel) rfl trivial ?_
        refine rf_few [1, 2, 3, 5, 0] rfl ?_
        exact s_X10_carryNorth_50 C hE hr18 rf_fuel a1 a2 a4 0 (rf_i m0 193 11 0) hg
theorem s_X10_carryNorth_18 {w : rf_w} {K : rf_K} {r : rf_m} (C : rf_Ctx 10 cX10_carryNorth 8 3 (rf_sh w) K) (hE : rf_End none K (rf_sh w) 0 0 none (rf_MM w r)) (n : Nat) : ∀ (a1 : Int32) (a2 : Int32) (a3 : Int32) (a4 : Int32) (m : rf_m), g_X10_carryNorth_18 w n a1 a2 a3 a4 m = some r → rf_V 8 (rf_sh w) K 0 0 18 ([(0, .ref 193), (1, .int a1), (2, .int a2), (3, .int a3), (4, .int a4)], [], rf_MM w m) := by
  induction n with
  | zero => intro a1 a2 a3 a4 m hg; cases hg
  | succ n ih => intro a1 a2 a3 a4 m hg; exact s_X10_carryNorth_18_b C hE ih a1 a2 a3 a4 m hg
theorem c_X10_carryNorth {w : rf_w} {m : rf_m} {a1 : Int32} {a2 : Int32} {r : rf_m} (hg : g_X10_carryNorth w m a1 a2 = some r) : rf_Con j_X10_carryNorth 3 (rf_sh w) [.ref 193, .int a1, .int a2] (rf_MM w m) none (rf_MM w r) := by
  refine rf_con j_X10_carryNorth 3 ⟨by decide +kernel, rfl, Nat.le_of_ble_eq_true rfl⟩ (fun K C hE => ?_)
  unfold g_X10_carryNorth at hg
  show rf_V 8 (rf_sh w) K 0 0 0 ([(0, .ref 193), (1, .int a1), (2, .int a2)], [], rf_MM w m)
  refine rf_seg C [(.aload 0, 1), (.invokeinterface 10 6, 3), (.iconst (-2), 2)] (pc' := 6) (S' := ([(0, .ref 193), (1, .int a1), (2, .int a2)], [.int ((-2)), .ref 197], rf_MM w m)) (by decide +kernel) rfl trivial ?_
  obtain ⟨m0, hc0, hg⟩ := rf_bv_some hg
  refine rf_calls C rf_fit0 j_J7_fill_53178__197 (As := [.ref 197, .int ((-2))]) (rest := []) mw_J7_fill_53178__197 (c_J7_fill_53178__197 hc0) (by decide) lk_10_57 rfl rfl (Nat.le_of_ble_eq_true rfl) (by decide +kernel) ?_
  show rf_V 8 (rf_sh w) K 0 0 9 ([(0, .ref 193), (1, .int a1), (2, .int a2)], [], rf_MM w m0)
  refine rf_seg C [(.aload 0, 1)] (pc' := 10) (S' := ([(0, .ref 193), (1, .int a1), (2, .int a2)], [.ref 193], rf_MM w m0)) (by decide +kernel) rfl trivial ?_
  obtain ⟨m1, hc1, hg⟩ := rf_bv_some hg
  refine rf_callv C rf_fit0 j_X10_takeStars (ci := 10) (As := []) (rest := []) mw_X10_takeStars (c_X10_takeStars hc1) (by decide) rfl (by decide) lk_10_63 rfl rfl (Nat.le_of_ble_eq_true rfl) (by decide +kernel) ?_
  show rf_V 8 (rf_sh w) K 0 0 13 ([(0, .ref 193), (1, .int a1), (2, .int a2)], [], rf_MM w m1)
  refine rf_seg C [(.iconst 1, 1), (.istore 3, 1), (.iconst 1, 1), (.istore 4, 2)] (pc' := 18) (S' := ([(4, .int 1), (3, .int 1), (0, .ref 193), (1, .int a1), (2, .int a2)], [], rf_MM w m1)) (by decide +kernel) rfl trivial ?_
  refine rf_few [2, 3, 4, 1, 0] rfl ?_
  exact s_X10_carryNorth_18 C hE rf_fuel a1 a2 1 1 m1 hg
-- X10_addLevel
abbrev j_X10_addLevel : rf_J := (10, yX10_addLevel, cX10_addLevel, 4, (some .int))
theorem mw_X10_addLevel : rf_mv j_X10_addLevel (rf_R 10) 3 := ⟨⟨rf_mem 92 (by decide +kernel), rf_mem 92 (by decide +kernel), rf_mem 1 (by decide +kernel), rf_mem 92 (by decide +kernel)⟩, by decide +kernel, by decide⟩
def g_X10_addLevel (w : rf_w) (m : rf_m) (a1 : Int32) (a2 : Int32) (a3 : Int32) : Option (Int32 × rf_m) := rf_g (rf_in (m.1 193 1) 60) (rf_g (rf_in ((rf_i m 202 (Int32.toNatClampNeg (m.1 193 1)) a1).1 193 1) 60) (rf_g (rf_in ((rf_i (rf_i m 202 (Int32.toNatClampNeg (m.1 193 1)) a1) 203 (Int32.toNatClampNeg ((rf_i m 202 (Int32.toNatClampNeg (m.1 193 1)) a1).1 193 1)) a2).1 193 1) 60) (some (((rf_i (rf_i (rf_i (rf_i m 202 (Int32.toNatClampNeg (m.1 193 1)) a1) 203 (Int32.toNatClampNeg ((rf_i m 202 (Int32.toNatClampNeg (m.1 193 1)) a1).1 193 1)) a2) 204 (Int32.toNatClampNeg ((rf_i (rf_i m 202 (Int32.toNatClampNeg (m.1 193 1)) a1) 203 (Int32.toNatClampNeg ((rf_i m 202 (Int32.toNatClampNeg (m.1 193 1)) a1).1 193 1)) a2).1 193 1)) a3) 193 1 (((rf_i (rf_i (rf_i m 202 (Int32.toNatClampNeg (m.1 193 1)) a1) 203 (Int32.toNatClampNeg ((rf_i m 202 (Int32.toNatClampNeg (m.1 193 1)) a1).1 193 1)) a2) 204 (Int32.toNatClampNeg ((rf_i (rf_i m 202 (Int32.toNatClampNeg (m.1 193 1)) a1) 203 (Int32.toNatClampNeg ((rf_i m 202 (Int32.toNatClampNeg (m.1 193 1)) a1).1 193 1)) a2).1 193 1)) a3).1 193 1) + 1)).1 193 1) - 1, rf_i (rf_i (rf_i (rf_i m 202 (Int32.toNatClampNeg (m.1 193 1)) a1) 203 (Int32.toNatClampNeg ((rf_i m 202 (Int32.toNatClampNeg (m.1 193 1)) a1).1 193 1)) a2) 204 (Int32.toNatClampNeg ((rf_i (rf_i m 202 (Int32.toNatClampNeg (m.1 193 1)) a1) 203 (Int32.toNatClampNeg ((rf_i m 202 (Int32.toNatClampNeg (m.1 193 1)) a1).1 193 1)) a2).1 193 1)) a3) 193 1 (((rf_i (rf_i (rf_i m 202 (Int32.toNatClampNeg (m.1 193 1)) a1) 203 (Int32.toNatClampNeg ((rf_i m 202 (Int32.toNatClampNeg (m.1 193 1)) a1).1 193 1)) a2) 204 (Int32.toNatClampNeg ((rf_i (rf_i m 202 (Int32.toNatClampNeg (m.1 193 1)) a1) 203 (Int32.toNatClampNeg ((rf_i m 202 (Int32.toNatClampNeg (m.1 193 1)) a1).1 193 1)) a2).1 193 1)) a3).1 193 1) + 1)))))
theorem c_X10_addLevel {w : rf_w} {m : rf_m} {a1 : Int32} {a2 : Int32} {a3 : Int32} {r : Int32 × rf_m} (hg : g_X10_addLevel w m a1 a2 a3 = some r) : rf_Con j_X10_addLevel 1 (rf_sh w) [.ref 193, .int a1, .int a2, .int a3] (rf_MM w m) (some (.int r.1)) (rf_MM w r.2) := by
  refine rf_con j_X10_addLevel 1 ⟨by decide +kernel, rfl, Nat.le_of_ble_eq_true rfl⟩ (fun K C hE => ?_)
  unfold g_X10_addLevel at hg
  show rf_V 4 (rf_sh w) K 0 0 0 ([(0, .ref 193), (1, .int a1), (2, .int a2), (3, .int a3)], [], rf_MM w m)
  obtain ⟨q0, hg⟩ := rf_g_some hg
  obtain ⟨q1, hg⟩ := rf_g_some hg
  obtain ⟨q2, hg⟩ := rf_g_some hg
  refine rf_seg C [(.aload 0, 1), (.invokeinterface 10 12, 3), (.aload 0, 1), (.invokeinterface 10 1, 3), (.iload 1, 1), (.iastore, 1), (.aload 0, 1), (.invokeinterface 10 13, 3), (.aload 0, 1), (.invokeinterface 10 1, 3), (.iload 2, 1), (.iastore, 1), (.aload 0, 1), (.invokeinterface 10 14, 3), (.aload 0, 1), (.invokeinterface 10 1, 3), (.iload 3, 1), (.iastore, 1), (.aload 0, 1), (.dup, 1), (.invokeinterface 10 1, 3), (.iconst 1, 1), (.iadd, 1), (.multianewarray 10 1, 3), (.aload 0, 1), (.invokeinterface 10 1, 3), (.iconst 1, 1), (.isub, 1)] (pc' := 46) (S' := ([(0, .ref 193), (1, .int a1), (2, .int a2), (3, .int a3)], [.int (((rf_i (rf_i (rf_i (rf_i m 202 (Int32.toNatClampNeg (m.1 193 1)) a1) 203 (Int32.toNatClampNeg ((rf_i m 202 (Int32.toNatClampNeg (m.1 193 1)) a1).1 193 1)) a2) 204 (Int32.toNatClampNeg ((rf_i (rf_i m 202 (Int32.toNatClampNeg (m.1 193 1)) a1) 203 (Int32.toNatClampNeg ((rf_i m 202 (Int32.toNatClampNeg (m.1 193 1)) a1).1 193 1)) a2).1 193 1)) a3) 193 1 (((rf_i (rf_i (rf_i m 202 (Int32.toNatClampNeg (m.1 193 1)) a1) 203 (Int32.toNatClampNeg ((rf_i m 202 (Int32.toNatClampNeg (m.1 193 1)) a1).1 193 1)) a2) 204 (Int32.toNatClampNeg ((rf_i (rf_i m 202 (Int32.toNatClampNeg (m.1 193 1)) a1) 203 (Int32.toNatClampNeg ((rf_i m 202 (Int32.toNatClampNeg (m.1 193 1)) a1).1 193 1)) a2).1 193 1)) a3).1 193 1) + 1)).1 193 1) - 1)], rf_MM w (rf_i (rf_i (rf_i (rf_i m 202 (Int32.toNatClampNeg (m.1 193 1)) a1) 203 (Int32.toNatClampNeg ((rf_i m 202 (Int32.toNatClampNeg (m.1 193 1)) a1).1 193 1)) a2) 204 (Int32.toNatClampNeg ((rf_i (rf_i m 202 (Int32.toNatClampNeg (m.1 193 1)) a1) 203 (Int32.toNatClampNeg ((rf_i m 202 (Int32.toNatClampNeg (m.1 193 1)) a1).1 193 1)) a2).1 193 1)) a3) 193 1 (((rf_i (rf_i (rf_i m 202 (Int32.toNatClampNeg (m.1 193 1)) a1) 203 (Int32.toNatClampNeg ((rf_i m 202 (Int32.toNatClampNeg (m.1 193 1)) a1).1 193 1)) a2) 204 (Int32.toNatClampNeg ((rf_i (rf_i m 202 (Int32.toNatClampNeg (m.1 193 1)) a1) 203 (Int32.toNatClampNeg ((rf_i m 202 (Int32.toNatClampNeg (m.1 193 1)) a1).1 193 1)) a2).1 193 1)) a3).1 193 1) + 1)))) (by decide +kernel) rfl (by exact ⟨(rf_in_of q0), (rf_in_of q1), (rf_in_of q2)⟩) ?_
  obtain rfl := Option.some.inj hg
  exact rf_iret C hE (by decide +kernel)
-- X10_meanUp
abbrev j_X10_meanUp : rf_J := (10, yX10_meanUp, cX10_meanUp, 6, (some .int))
theorem mw_X10_meanUp : rf_mv j_X10_meanUp (rf_R 10) 2 := ⟨⟨rf_mem 93 (by decide +kernel), rf_mem 93 (by decide +kernel), rf_mem 1 (by decide +kernel), rf_mem 93 (by decide +kernel)⟩, by decide +kernel, by decide⟩
def g_X10_meanUp_52 (w : rf_w) (rec8 : Int32 → Int32 → Int32 → Int32 → Int32 → rf_m → Option (Int32 × rf_m)) (a1 : Int32) (a2 : Int32) (a3 : Int32) (a4 : Int32) (a5 : Int32) (m : rf_m) : Option (Int32 × rf_m) := rec8 a1 a2 a3 a4 (a5 + 1) m
def g_X10_meanUp_8_b (w : rf_w) (rec8 : Int32 → Int32 → Int32 → Int32 → Int32 → rf_m → Option (Int32 × rf_m)) (a1 : Int32) (a2 : Int32) (a3 : Int32) (a4 : Int32) (a5 : Int32) (m : rf_m) : Option (Int32 × rf_m) := (if (m.1 193 1) ≤ a5 then (if a4 ≤ 0 then some ((-2147483648), m) else rf_b (g_J9_floorDiv_7cf53 w m a3 a4) fun y0 m0 => some (y0, m0)) else rf_g (rf_in a5 60) ((if (m.1 202 (Int32.toNatClampNeg a5)) = a1 then rf_g (rf_in a5 60) ((if (m.1 203 (Int32.toNatClampNeg a5)) = a2 then rf_g (rf_in a5 60) (rf_vi (a3 + (m.1 204 (Int32.toNatClampNeg a5))) fun x4 => g_X10_meanUp_52 w rec8 a1 a2 x4 (a4 + 1) a5 m) else g_X10_meanUp_52 w rec8 a1 a2 a3 a4 a5 m)) else g_X10_meanUp_52 w rec8 a1 a2 a3 a4 a5 m)))
def g_X10_meanUp_8 (w : rf_w) : Nat → Int32 → Int32 → Int32 → Int32 → Int32 → rf_m → Option (Int32 × rf_m)
  | 0, _, _, _, _, _, _ => none
  | n + 1, a1, a2, a3, a4, a5, m => g_X10_meanUp_8_b w (g_X10_meanUp_8 w n) a1 a2 a3 a4 a5 m
def g_X10_meanUp (w : rf_w) (m : rf_m) (a1 : Int32) (a2 : Int32) : Option (Int32 × rf_m) := g_X10_meanUp_8 w rf_fuel a1 a2 0 0 0 m
theorem s_X10_meanUp_52 {w : rf_w} {K : rf_K} {r : Int32 × rf_m} (C : rf_Ctx 10 cX10_meanUp 6 2 (rf_sh w) K) (hE : rf_End (some .int) K (rf_sh w) 0 0 (some (.int r.1)) (rf_MM w r.2)) {rec8 : Int32 → Int32 → Int32 → Int32 → Int32 → rf_m → Option (Int32 × rf_m)} (hr8 : ∀ (a1 : Int32) (a2 : Int32) (a3 : Int32) (a4 : Int32) (a5 : Int32) (m : rf_m), rec8 a1 a2 a3 a4 a5 m = some r → rf_V 6 (rf_sh w) K 0 0 8 ([(0, .ref 193), (1, .int a1), (2, .int a2), (3, .int a3), (4, .int a4), (5, .int a5)], [], rf_MM w m)) (a1 : Int32) (a2 : Int32) (a3 : Int32) (a4 : Int32) (a5 : Int32) (m : rf_m) (hg : g_X10_meanUp_52 w rec8 a1 a2 a3 a4 a5 m = some r) : rf_V 6 (rf_sh w) K 0 0 52 ([(0, .ref 193), (1, .int a1), (2, .int a2), (3, .int a3), (4, .int a4), (5, .int a5)], [], rf_MM w m) := by
  unfold g_X10_meanUp_52 at hg
  refine rf_seg C [(.iinc 5 1, 3)] (pc' := 55) (S' := ([(5, .int (a5 + 1)), (0, .ref 193), (1, .int a1), (2, .int a2), (3, .int a3), (4, .int a4)], [], rf_MM w m)) (by decide +kernel) rfl trivial ?_
  refine rf_goto C (-47) 8 (by decide +kernel) ?_
  refine rf_few [1, 2, 3, 4, 5, 0] rfl ?_
  exact hr8 a1 a2 a3 a4 (a5 + 1) m hg
theorem s_X10_meanUp_8_b {w : rf_w} {K : rf_K} {r : Int32 × rf_m} (C : rf_Ctx 10 cX10_meanUp 6 2 (rf_sh w) K) (hE : rf_End (some .int) K (rf_sh w) 0 0 (some (.int r.1)) (rf_MM w r.2)) {rec8 : Int32 → Int32 → Int32 → Int32 → Int32 → rf_m → Option (Int32 × rf_m)} (hr8 : ∀ (a1 : Int32) (a2 : Int32) (a3 : Int32) (a4 : Int32) (a5 : Int32) (m : rf_m), rec8 a1 a2 a3 a4 a5 m = some r → rf_V 6 (rf_sh w) K 0 0 8 ([(0, .ref 193), (1, .int a1), (2, .int a2), (3, .int a3), (4, .int a4), (5, .int a5)], [], rf_MM w m)) (a1 : Int32) (a2 : Int32) (a3 : Int32) (a4 : Int32) (a5 : Int32) (m : rf_m) (hg : g_X10_meanUp_8_b w rec8 a1 a2 a3 a4 a5 m = some r) : rf_V 6 (rf_sh w) K 0 0 8 ([(0, .ref 193), (1, .int a1), (2, .int a2), (3, .int a3), (4, .int a4), (5, .int a5)], [], rf_MM w m) := by
  unfold g_X10_meanUp_8_b at hg
  refine rf_seg C [(.iload 5, 2), (.aload 0, 1), (.invokeinterface 10 1, 3)] (pc' := 14) (S' := ([(0, .ref 193), (1, .int a1), (2, .int a2), (3, .int a3), (4, .int a4), (5, .int a5)], [.int (m.1 193 1), .int a5], rf_MM w m)) (by decide +kernel) rfl trivial ?_
  refine rf_icmp_ge C 44 58 (by decide +kernel) (fun hc => ?_) (fun hc => ?_)
  · replace hg := (if_pos hc).symm.trans hg
    refine rf_seg C [(.iload 4, 2)] (pc' := 60) (S' := ([(0, .ref 193), (1, .int a1), (2, .int a2), (3, .int a3), (4, .int a4), (5, .int a5)], [.int a4], rf_MM w m)) (by decide +kernel) rfl trivial ?_
    refine rf_if_le C 12 72 (by decide +kernel) (fun hc => ?_) (fun hc => ?_)
    · replace hg := (if_pos hc).symm.trans hg
      refine rf_seg C [(.iconst (-2147483648), 2)] (pc' := 74) (S' := ([(0, .ref 193), (1, .int a1), (2, .int a2), (3, .int a3), (4, .int a4), (5, .int a5)], [.int ((-2147483648))], rf_MM w m)) (by decide +kernel) rfl trivial ?_
      obtain rfl := Option.some.inj hg
      exact rf_iret C hE (by decide +kernel)
    · replace hg := (if_neg hc).symm.trans hg
      refine rf_seg C [(.iload 3, 1), (.iload 4, 2)] (pc' := 66) (S' := ([(0, .ref 193), (1, .int a1), (2, .int a2), (3, .int a3), (4, .int a4), (5, .int a5)], [.int a4, .int a3], rf_MM w m)) (by decide +kernel) rfl trivial ?_
      obtain ⟨y0, m0, hc0, hg⟩ := rf_b_some hg
      refine rf_calls C rf_fit0 j_J9_floorDiv_7cf53 (As := [.int a3, .int a4]) (rest := []) mw_J9_floorDiv_7cf53 (c_J9_floorDiv_7cf53 hc0) (by decide) lk_10_106 rfl rfl (Nat.le_of_ble_eq_true rfl) (by decide +kernel) ?_
      show rf_V 6 (rf_sh w) K 0 0 69 ([(0, .ref 193), (1, .int a1), (2, .int a2), (3, .int a3), (4, .int a4), (5, .int a5)], [.int y0], rf_MM w m0)
      refine rf_goto C 5 74 (by decide +kernel) ?_
      obtain rfl := Option.some.inj hg
      exact rf_iret C hE (by decide +kernel)
  · replace hg := (if_neg hc).symm.trans hg
    obtain ⟨q1, hg⟩ := rf_g_some hg
    refine rf_seg C [(.aload 0, 1), (.invokeinterface 10 12, 3), (.iload 5, 2), (.iaload, 1), (.iload 1, 1)] (pc' := 25) (S' := ([(0, .ref 193), (1, .int a1), (2, .int a2), (3, .int a3), (4, .int a4), (5, .int a5)], [.int a1, .int (m.1 202 (Int32.toNatClampNeg a5))], rf_MM w m)) (by decide +kernel) rfl (rf_in_of q1) ?_
    refine rf_icmp_ne C 27 52 (by decide +kernel) (fun hc => ?_) (fun hc => ?_)
    · replace hg := (if_neg hc).symm.trans hg
      refine rf_few [0, 1, 2, 3, 4, 5] rfl ?_
      exact s_X10_meanUp_52 C hE hr8 a1 a2 a3 a4 a5 m hg
    · replace hg := (if_pos hc).symm.trans hg
      obtain ⟨q2, hg⟩ := rf_g_some hg
      refine rf_seg C [(.aload 0, 1), (.invokeinterface 10 13, 3), (.iload 5, 2), (.iaload, 1), (.iload 2, 1)] (pc' := 36) (S' := ([(0, .ref 193), (1, .int a1), (2, .int a2), (3, .int a3), (4, .int a4), (5, .int a5)], [.int a2, .int (m.1 203 (Int32.toNatClampNeg a5))], rf_MM w m)) (by decide +kernel) rfl (rf_in_of q2) ?_
      refine rf_icmp_ne C 16 52 (by decide +kernel) (fun hc => ?_) (fun hc => ?_)
      · replace hg := (if_neg hc).symm.trans hg
        refine rf_few [0, 1, 2, 3, 4, 5] rfl ?_
        exact s_X10_meanUp_52 C hE hr8 a1 a2 a3 a4 a5 m hg
      · replace hg := (if_pos hc).symm.trans hg
        obtain ⟨q3, hg⟩ := rf_g_some hg
        refine rf_seg C [(.iload 3, 1), (.aload 0, 1), (.invokeinterface 10 14, 3), (.iload 5, 2), (.iaload, 1), (.iadd, 1)] (pc' := 48) (S' := ([(0, .ref 193), (1, .int a1), (2, .int a2), (3, .int a3), (4, .int a4), (5, .int a5)], [.int (a3 + (m.1 204 (Int32.toNatClampNeg a5)))], rf_MM w m)) (by decide +kernel) rfl (rf_in_of q3) ?_
        obtain ⟨x4, hx4, hg⟩ := rf_vi_some hg
        refine rf_vi_top hx4 ?_
        refine rf_seg C [(.istore 3, 1), (.iinc 4 1, 3)] (pc' := 52) (S' := ([(4, .int (a4 + 1)), (3, .int x4), (0, .ref 193), (1, .int a1), (2, .int a2), (5, .int a5)], [], rf_MM w m)) (by decide +kernel) rfl trivial ?_
        refine rf_few [2, 3, 4, 1, 0, 5] rfl ?_
        exact s_X10_meanUp_52 C hE hr8 a1 a2 x4 (a4 + 1) a5 m hg
theorem s_X10_meanUp_8 {w : rf_w} {K : rf_K} {r : Int32 × rf_m} (C : rf_Ctx 10 cX10_meanUp 6 2 (rf_sh w) K) (hE : rf_End (some .int) K (rf_sh w) 0 0 (some (.int r.1)) (rf_MM w r.2)) (n : Nat) : ∀ (a1 : Int32) (a2 : Int32) (a3 : Int32) (a4 : Int32) (a5 : Int32) (m : rf_m), g_X10_meanUp_8 w n a1 a2 a3 a4 a5 m = some r → rf_V 6 (rf_sh w) K 0 0 8 ([(0, .ref 193), (1, .int a1), (2, .int a2), (3, .int a3), (4, .int a4), (5, .int a5)], [], rf_MM w m) := by
  induction n with
  | zero => intro a1 a2 a3 a4 a5 m hg; cases hg
  | succ n ih => intro a1 a2 a3 a4 a5 m hg; exact s_X10_meanUp_8_b C hE ih a1 a2 a3 a4 a5 m hg
theorem c_X10_meanUp {w : rf_w} {m : rf_m} {a1 : Int32} {a2 : Int32} {r : Int32 × rf_m} (hg : g_X10_meanUp w m a1 a2 = some r) : rf_Con j_X10_meanUp 2 (rf_sh w) [.ref 193, .int a1, .int a2] (rf_MM w m) (some (.int r.1)) (rf_MM w r.2) := by
  refine rf_con j_X10_meanUp 2 ⟨by decide +kernel, rfl, Nat.le_of_ble_eq_true rfl⟩ (fun K C hE => ?_)
  unfold g_X10_meanUp at hg
  show rf_V 6 (rf_sh w) K 0 0 0 ([(0, .ref 193), (1, .int a1), (2, .int a2)], [], rf_MM w m)
  refine rf_seg C [(.iconst 0, 1), (.istore 3, 1), (.iconst 0, 1), (.istore 4, 2), (.iconst 0, 1), (.istore 5, 2)] (pc' := 8) (S' := ([(5, .int 0), (4, .int 0), (3, .int 0), (0, .ref 193), (1, .int a1), (2, .int a2)], [], rf_MM w m)) (by decide +kernel) rfl trivial ?_
  refine rf_few [3, 4, 5, 2, 1, 0] rfl ?_
  exact s_X10_meanUp_8 C hE rf_fuel a1 a2 0 0 0 m hg
-- X10_heightFrom
abbrev j_X10_heightFrom : rf_J := (10, yX10_heightFrom, cX10_heightFrom, 5, (some .int))
theorem mw_X10_heightFrom : rf_mv j_X10_heightFrom (rf_R 10) 2 := ⟨⟨rf_mem 92 (by decide +kernel), rf_mem 92 (by decide +kernel), rf_mem 1 (by decide +kernel), rf_mem 92 (by decide +kernel)⟩, by decide +kernel, by decide⟩
def g_X10_heightFrom (w : rf_w) (m : rf_m) (a1 : Int32) (a2 : Int32) : Option (Int32 × rf_m) := rf_b (g_X10_meanUp w m a1 a2) fun y0 m0 => rf_b (g_X10_meanUp w m0 a2 a1) fun y1 m1 => (if y1 = ((-2147483648)) then some (y0, m1) else (if y0 = ((-2147483648)) then some (-y1, m1) else some ((y0 - y1) / 2, m1)))
theorem c_X10_heightFrom {w : rf_w} {m : rf_m} {a1 : Int32} {a2 : Int32} {r : Int32 × rf_m} (hg : g_X10_heightFrom w m a1 a2 = some r) : rf_Con j_X10_heightFrom 3 (rf_sh w) [.ref 193, .int a1, .int a2] (rf_MM w m) (some (.int r.1)) (rf_MM w r.2) := by
  refine rf_con j_X10_heightFrom 3 ⟨by decide +kernel, rfl, Nat.le_of_ble_eq_true rfl⟩ (fun K C hE => ?_)
  unfold g_X10_heightFrom at hg
  show rf_V 5 (rf_sh w) K 0 0 0 ([(0, .ref 193), (1, .int a1), (2, .int a2)], [], rf_MM w m)
  refine rf_seg C [(.aload 0, 1), (.iload 1, 1), (.iload 2, 1)] (pc' := 3) (S' := ([(0, .ref 193), (1, .int a1), (2, .int a2)], [.int a2, .int a1, .ref 193], rf_MM w m)) (by decide +kernel) rfl trivial ?_
  obtain ⟨y0, m0, hc0, hg⟩ := rf_b_some hg
  refine rf_callv C rf_fit0 j_X10_meanUp (ci := 10) (As := [.int a1, .int a2]) (rest := []) mw_X10_meanUp (c_X10_meanUp hc0) (by decide) rfl (by decide) lk_10_110 rfl rfl (Nat.le_of_ble_eq_true rfl) (by decide +kernel) ?_
  show rf_V 5 (rf_sh w) K 0 0 6 ([(0, .ref 193), (1, .int a1), (2, .int a2)], [.int y0], rf_MM w m0)
  refine rf_seg C [(.istore 3, 1), (.aload 0, 1), (.iload 2, 1), (.iload 1, 1)] (pc' := 10) (S' := ([(3, .int y0), (0, .ref 193), (1, .int a1), (2, .int a2)], [.int a1, .int a2, .ref 193], rf_MM w m0)) (by decide +kernel) rfl trivial ?_
  obtain ⟨y1, m1, hc1, hg⟩ := rf_b_some hg
  refine rf_callv C rf_fit0 j_X10_meanUp (ci := 10) (As := [.int a2, .int a1]) (rest := []) mw_X10_meanUp (c_X10_meanUp hc1) (by decide) rfl (by decide) lk_10_110 rfl rfl (Nat.le_of_ble_eq_true rfl) (by decide +kernel) ?_
  show rf_V 5 (rf_sh w) K 0 0 13 ([(3, .int y0), (0, .ref 193), (1, .int a1), (2, .int a2)], [.int y1], rf_MM w m1)
  refine rf_seg C [(.istore 4, 2), (.iload 4, 2), (.iconst (-2147483648), 2)] (pc' := 19) (S' := ([(4, .int y1), (3, .int y0), (0, .ref 193), (1, .int a1), (2, .int a2)], [.int ((-2147483648)), .int y1], rf_MM w m1)) (by decide +kernel) rfl trivial ?_
  refine rf_icmp_ne C 5 24 (by decide +kernel) (fun hc => ?_) (fun hc => ?_)
  · replace hg := (if_neg hc).symm.trans hg
    refine rf_seg C [(.iload 3, 1), (.iconst (-2147483648), 2)] (pc' := 27) (S' := ([(4, .int y1), (3, .int y0), (0, .ref 193), (1, .int a1), (2, .int a2)], [.int ((-2147483648)), .int y0], rf_MM w m1)) (by decide +kernel) rfl trivial ?_
    refine rf_icmp_ne C 9 36 (by decide +kernel) (fun hc => ?_) (fun hc => ?_)
    · replace hg := (if_neg hc).symm.trans hg
      refine rf_seg C [(.iload 3, 1), (.iload 4, 2), (.isub, 1), (.iconst 2, 1), (.idiv, 1)] (pc' := 42) (S' := ([(4, .int y1), (3, .int y0), (0, .ref 193), (1, .int a1), (2, .int a2)], [.int ((y0 - y1) / 2)], rf_MM w m1)) (by decide +kernel) rfl (rf_nz_of (by decide)) ?_
      obtain rfl := Option.some.inj hg
      exact rf_iret C hE (by decide +kernel)
    · replace hg := (if_pos hc).symm.trans hg
      refine rf_seg C [(.iload 4, 2), (.ineg, 1)] (pc' := 33) (S' := ([(4, .int y1), (3, .int y0), (0, .ref 193), (1, .int a1), (2, .int a2)], [.int (-y1)], rf_MM w m1)) (by decide +kernel) rfl trivial ?_
      refine rf_goto C 9 42 (by decide +kernel) ?_
      obtain rfl := Option.some.inj hg
      exact rf_iret C hE (by decide +kernel)
  · replace hg := (if_pos hc).symm.trans hg
    refine rf_seg C [(.iload 3, 1)] (pc' := 23) (S' := ([(4, .int y1), (3, .int y0), (0, .ref 193), (1, .int a1), (2, .int a2)], [.int y0], rf_MM w m1)) (by decide +kernel) rfl trivial ?_
    obtain rfl := Option.some.inj hg
    exact rf_iret C hE (by decide +kernel)
-- X10_doubtOf
abbrev j_X10_doubtOf : rf_J := (10, yX10_doubtOf, cX10_doubtOf, 5, (some .int))
theorem mw_X10_doubtOf : rf_mv j_X10_doubtOf (rf_R 10) 2 := ⟨⟨rf_mem 93 (by decide +kernel), rf_mem 94 (by decide +kernel), rf_mem 1 (by decide +kernel), rf_mem 94 (by decide +kernel)⟩, by decide +kernel, by decide⟩
def g_X10_doubtOf_42 (w : rf_w) (a3 : Int32) (s0 : Int32) (m : rf_m) : Option (Int32 × rf_m) := (if s0 = 0 then rf_b (g_abs w m a3) fun y0 m0 => some (((y0 + 99) / 100) + 10, m0) else some (0, m))
def g_X10_doubtOf_41 (w : rf_w) (a3 : Int32) (m : rf_m) : Option (Int32 × rf_m) := g_X10_doubtOf_42 w a3 0 m
def g_X10_doubtOf (w : rf_w) (m : rf_m) (a1 : Int32) (a2 : Int32) : Option (Int32 × rf_m) := rf_b (g_X10_heightFrom w m a1 a2) fun y0 m0 => (if y0 = ((-2147483648)) then some ((-1), m0) else rf_b (g_X10_meanUp w m0 a1 a2) fun y1 m1 => (if y1 = ((-2147483648)) then g_X10_doubtOf_41 w y0 m1 else rf_b (g_X10_meanUp w m1 a2 a1) fun y2 m2 => (if y2 = ((-2147483648)) then g_X10_doubtOf_41 w y0 m2 else g_X10_doubtOf_42 w y0 1 m2)))
theorem s_X10_doubtOf_42 {w : rf_w} {K : rf_K} {r : Int32 × rf_m} (C : rf_Ctx 10 cX10_doubtOf 5 4 (rf_sh w) K) (hE : rf_End (some .int) K (rf_sh w) 0 0 (some (.int r.1)) (rf_MM w r.2)) (a3 : Int32) (s0 : Int32) (m : rf_m) (hg : g_X10_doubtOf_42 w a3 s0 m = some r) : rf_V 5 (rf_sh w) K 0 0 42 ([(3, .int a3)], [.int s0], rf_MM w m) := by
  unfold g_X10_doubtOf_42 at hg
  refine rf_seg C [(.istore 4, 2), (.iload 4, 2)] (pc' := 46) (S' := ([(4, .int s0), (3, .int a3)], [.int s0], rf_MM w m)) (by decide +kernel) rfl trivial ?_
  refine rf_if_eq C 7 53 (by decide +kernel) (fun hc => ?_) (fun hc => ?_)
  · replace hg := (if_pos hc).symm.trans hg
    refine rf_seg C [(.iload 3, 1)] (pc' := 54) (S' := ([(4, .int s0), (3, .int a3)], [.int a3], rf_MM w m)) (by decide +kernel) rfl trivial ?_
    obtain ⟨y0, m0, hc0, hg⟩ := rf_b_some hg
    refine rf_calls C rf_fit0 j_abs (As := [.int a3]) (rest := []) mw_abs (c_abs hc0) (by decide) lk_10_116 rfl rfl (Nat.le_of_ble_eq_true rfl) (by decide +kernel) ?_
    show rf_V 5 (rf_sh w) K 0 0 57 ([(4, .int s0), (3, .int a3)], [.int y0], rf_MM w m0)
    refine rf_seg C [(.iconst 99, 2), (.iadd, 1), (.iconst 100, 2), (.idiv, 1), (.iconst 10, 2), (.iadd, 1)] (pc' := 66) (S' := ([(4, .int s0), (3, .int a3)], [.int (((y0 + 99) / 100) + 10)], rf_MM w m0)) (by decide +kernel) rfl (rf_nz_of (by decide)) ?_
    obtain rfl := Option.some.inj hg
    exact rf_iret C hE (by decide +kernel)
  · replace hg := (if_neg hc).symm.trans hg
    refine rf_seg C [(.iconst 0, 1)] (pc' := 50) (S' := ([(4, .int s0), (3, .int a3)], [.int 0], rf_MM w m)) (by decide +kernel) rfl trivial ?_
    refine rf_goto C 16 66 (by decide +kernel) ?_
    obtain rfl := Option.some.inj hg
    exact rf_iret C hE (by decide +kernel)
theorem s_X10_doubtOf_41 {w : rf_w} {K : rf_K} {r : Int32 × rf_m} (C : rf_Ctx 10 cX10_doubtOf 5 4 (rf_sh w) K) (hE : rf_End (some .int) K (rf_sh w) 0 0 (some (.int r.1)) (rf_MM w r.2)) (a3 : Int32) (m : rf_m) (hg : g_X10_doubtOf_41 w a3 m = some r) : rf_V 5 (rf_sh w) K 0 0 41 ([(3, .int a3)], [], rf_MM w m) := by
  unfold g_X10_doubtOf_41 at hg
  refine rf_seg C [(.iconst 0, 1)] (pc' := 42) (S' := ([(3, .int a3)], [.int 0], rf_MM w m)) (by decide +kernel) rfl trivial ?_
  refine rf_few [0] rfl ?_
  exact s_X10_doubtOf_42 C hE a3 0 m hg
theorem c_X10_doubtOf {w : rf_w} {m : rf_m} {a1 : Int32} {a2 : Int32} {r : Int32 × rf_m} (hg : g_X10_doubtOf w m a1 a2 = some r) : rf_Con j_X10_doubtOf 4 (rf_sh w) [.ref 193, .int a1, .int a2] (rf_MM w m) (some (.int r.1)) (rf_MM w r.2) := by
  refine rf_con j_X10_doubtOf 4 ⟨by decide +kernel, rfl, Nat.le_of_ble_eq_true rfl⟩ (fun K C hE => ?_)
  unfold g_X10_doubtOf at hg
  show rf_V 5 (rf_sh w) K 0 0 0 ([(0, .ref 193), (1, .int a1), (2, .int a2)], [], rf_MM w m)
  refine rf_seg C [(.aload 0, 1), (.iload 1, 1), (.iload 2, 1)] (pc' := 3) (S' := ([(0, .ref 193), (1, .int a1), (2, .int a2)], [.int a2, .int a1, .ref 193], rf_MM w m)) (by decide +kernel) rfl trivial ?_
  obtain ⟨y0, m0, hc0, hg⟩ := rf_b_some hg
  refine rf_callv C rf_fit0 j_X10_heightFrom (ci := 10) (As := [.int a1, .int a2]) (rest := []) mw_X10_heightFrom (c_X10_heightFrom hc0) (by decide) rfl (by decide) lk_10_113 rfl rfl (Nat.le_of_ble_eq_true rfl) (by decide +kernel) ?_
  show rf_V 5 (rf_sh w) K 0 0 6 ([(0, .ref 193), (1, .int a1), (2, .int a2)], [.int y0], rf_MM w m0)
  refine rf_seg C [(.istore 3, 1), (.iload 3, 1), (.iconst (-2147483648), 2)] (pc' := 10) (S' := ([(3, .int y0), (0, .ref 193), (1, .int a1), (2, .int a2)], [.int ((-2147483648)), .int y0], rf_MM w m0)) (by decide +kernel) rfl trivial ?_
  refine rf_icmp_ne C 5 15 (by decide +kernel) (fun hc => ?_) (fun hc => ?_)
  · replace hg := (if_neg hc).symm.trans hg
    refine rf_seg C [(.aload 0, 1), (.iload 1, 1), (.iload 2, 1)] (pc' := 18) (S' := ([(3, .int y0), (0, .ref 193), (1, .int a1), (2, .int a2)], [.int a2, .int a1, .ref 193], rf_MM w m0)) (by decide +kernel) rfl trivial ?_
    obtain ⟨y1, m1, hc1, hg⟩ := rf_b_some hg
    refine rf_callv C rf_fit0 j_X10_meanUp (ci := 10) (As := [.int a1, .int a2]) (rest := []) mw_X10_meanUp (c_X10_meanUp hc1) (by decide) rfl (by decide) lk_10_110 rfl rfl (Nat.le_of_ble_eq_true rfl) (by decide +kernel) ?_
    show rf_V 5 (rf_sh w) K 0 0 21 ([(3, .int y0), (0, .ref 193), (1, .int a1), (2, .int a2)], [.int y1], rf_MM w m1)
    refine rf_seg C [(.iconst (-2147483648), 2)] (pc' := 23) (S' := ([(3, .int y0), (0, .ref 193), (1, .int a1), (2, .int a2)], [.int ((-2147483648)), .int y1], rf_MM w m1)) (by decide +kernel) rfl trivial ?_
    refine rf_icmp_eq C 18 41 (by decide +kernel) (fun hc => ?_) (fun hc => ?_)
    · replace hg := (if_pos hc).symm.trans hg
      refine rf_few [0] rfl ?_
      exact s_X10_doubtOf_41 C hE y0 m1 hg
    · replace hg := (if_neg hc).symm.trans hg
      refine rf_seg C [(.aload 0, 1), (.iload 2, 1), (.iload 1, 1)] (pc' := 29) (S' := ([(3, .int y0), (0, .ref 193), (1, .int a1), (2, .int a2)], [.int a1, .int a2, .ref 193], rf_MM w m1)) (by decide +kernel) rfl trivial ?_
      obtain ⟨y2, m2, hc2, hg⟩ := rf_b_some hg
      refine rf_callv C rf_fit0 j_X10_meanUp (ci := 10) (As := [.int a2, .int a1]) (rest := []) mw_X10_meanUp (c_X10_meanUp hc2) (by decide) rfl (by decide) lk_10_110 rfl rfl (Nat.le_of_ble_eq_true rfl) (by decide +kernel) ?_
      show rf_V 5 (rf_sh w) K 0 0 32 ([(3, .int y0), (0, .ref 193), (1, .int a1), (2, .int a2)], [.int y2], rf_MM w m2)
      refine rf_seg C [(.iconst (-2147483648), 2)] (pc' := 34) (S' := ([(3, .int y0), (0, .ref 193), (1, .int a1), (2, .int a2)], [.int ((-2147483648)), .int y2], rf_MM w m2)) (by decide +kernel) rfl trivial ?_
      refine rf_icmp_eq C 7 41 (by decide +kernel) (fun hc => ?_) (fun hc => ?_)
      · replace hg := (if_pos hc).symm.trans hg
        refine rf_few [0] rfl ?_
        exact s_X10_doubtOf_41 C hE y0 m2 hg
      · replace hg := (if_neg hc).symm.trans hg
        refine rf_seg C [(.iconst 1, 1)] (pc' := 38) (S' := ([(3, .int y0), (0, .ref 193), (1, .int a1), (2, .int a2)], [.int 1], rf_MM w m2)) (by decide +kernel) rfl trivial ?_
        refine rf_goto C 4 42 (by decide +kernel) ?_
        refine rf_few [0] rfl ?_
        exact s_X10_doubtOf_42 C hE y0 1 m2 hg
  · replace hg := (if_pos hc).symm.trans hg
    refine rf_seg C [(.iconst (-1), 1)] (pc' := 14) (S' := ([(3, .int y0), (0, .ref 193), (1, .int a1), (2, .int a2)], [.int ((-1))], rf_MM w m0)) (by decide +kernel) rfl trivial ?_
    obtain rfl := Option.some.inj hg
    exact rf_iret C hE (by decide +kernel)
-- X11_isWithin
abbrev j_X11_isWithin : rf_J := (11, yX11_isWithin, cX11_isWithin, 3, (some .boolean))
theorem mw_X11_isWithin : rf_ms j_X11_isWithin 3 := ⟨⟨rf_mem 13 (by decide +kernel), rf_mem 0 (by decide +kernel), rf_mem 14 (by decide +kernel)⟩, by decide +kernel, by decide⟩
def g_X11_isWithin (w : rf_w) (m : rf_m) (a0 : Int32) (a1 : Int32) (a2 : Int32) : Option (Int32 × rf_m) := (if a0 < a1 then some (0, m) else (if a2 < a0 then some (0, m) else some (1, m)))
theorem c_X11_isWithin {w : rf_w} {m : rf_m} {a0 : Int32} {a1 : Int32} {a2 : Int32} {r : Int32 × rf_m} (hg : g_X11_isWithin w m a0 a1 a2 = some r) : rf_Con j_X11_isWithin 1 (rf_sh w) [.int a0, .int a1, .int a2] (rf_MM w m) (some (.int r.1)) (rf_MM w r.2) := by
  refine rf_con j_X11_isWithin 1 ⟨by decide +kernel, rfl, Nat.le_of_ble_eq_true rfl⟩ (fun K C hE => ?_)
  unfold g_X11_isWithin at hg
  show rf_V 3 (rf_sh w) K 0 0 0 ([(0, .int a0), (1, .int a1), (2, .int a2)], [], rf_MM w m)
  refine rf_seg C [(.iload 0, 1), (.iload 1, 1)] (pc' := 2) (S' := ([(0, .int a0), (1, .int a1), (2, .int a2)], [.int a1, .int a0], rf_MM w m)) (by decide +kernel) rfl trivial ?_
  refine rf_icmp_lt C 12 14 (by decide +kernel) (fun hc => ?_) (fun hc => ?_)
  · replace hg := (if_pos hc).symm.trans hg
    refine rf_seg C [(.iconst 0, 1)] (pc' := 15) (S' := ([(0, .int a0), (1, .int a1), (2, .int a2)], [.int 0], rf_MM w m)) (by decide +kernel) rfl trivial ?_
    obtain rfl := Option.some.inj hg
    exact rf_zret C hE (by decide) (by decide +kernel)
  · replace hg := (if_neg hc).symm.trans hg
    refine rf_seg C [(.iload 0, 1), (.iload 2, 1)] (pc' := 7) (S' := ([(0, .int a0), (1, .int a1), (2, .int a2)], [.int a2, .int a0], rf_MM w m)) (by decide +kernel) rfl trivial ?_
    refine rf_icmp_gt C 7 14 (by decide +kernel) (fun hc => ?_) (fun hc => ?_)
    · replace hg := (if_pos hc).symm.trans hg
      refine rf_seg C [(.iconst 0, 1)] (pc' := 15) (S' := ([(0, .int a0), (1, .int a1), (2, .int a2)], [.int 0], rf_MM w m)) (by decide +kernel) rfl trivial ?_
      obtain rfl := Option.some.inj hg
      exact rf_zret C hE (by decide) (by decide +kernel)
    · replace hg := (if_neg hc).symm.trans hg
      refine rf_seg C [(.iconst 1, 1)] (pc' := 11) (S' := ([(0, .int a0), (1, .int a1), (2, .int a2)], [.int 1], rf_MM w m)) (by decide +kernel) rfl trivial ?_
      refine rf_goto C 4 15 (by decide +kernel) ?_
      obtain rfl := Option.some.inj hg
      exact rf_zret C hE (by decide) (by decide +kernel)
-- X11_isCell
abbrev j_X11_isCell : rf_J := (11, yX11_isCell, cX11_isCell, 1, (some .boolean))
theorem mw_X11_isCell : rf_ms j_X11_isCell 1 := ⟨⟨rf_mem 13 (by decide +kernel), rf_mem 0 (by decide +kernel), rf_mem 13 (by decide +kernel)⟩, by decide +kernel, by decide⟩
def g_X11_isCell (w : rf_w) (m : rf_m) (a0 : Int32) : Option (Int32 × rf_m) := rf_b (g_X11_isWithin w m a0 0 1023) fun y0 m0 => rf_g (rf_01 y0) (some (y0, m0))
theorem c_X11_isCell {w : rf_w} {m : rf_m} {a0 : Int32} {r : Int32 × rf_m} (hg : g_X11_isCell w m a0 = some r) : rf_Con j_X11_isCell 2 (rf_sh w) [.int a0] (rf_MM w m) (some (.int r.1)) (rf_MM w r.2) := by
  refine rf_con j_X11_isCell 2 ⟨by decide +kernel, rfl, Nat.le_of_ble_eq_true rfl⟩ (fun K C hE => ?_)
  unfold g_X11_isCell at hg
  show rf_V 1 (rf_sh w) K 0 0 0 ([(0, .int a0)], [], rf_MM w m)
  refine rf_seg C [(.iload 0, 1), (.iconst 0, 1), (.iconst 1023, 3)] (pc' := 5) (S' := ([(0, .int a0)], [.int 1023, .int 0, .int a0], rf_MM w m)) (by decide +kernel) rfl trivial ?_
  obtain ⟨y0, m0, hc0, hg⟩ := rf_b_some hg
  refine rf_calls C rf_fit0 j_X11_isWithin (As := [.int a0, .int 0, .int 1023]) (rest := []) mw_X11_isWithin (c_X11_isWithin hc0) (by decide) lk_11_91 rfl rfl (Nat.le_of_ble_eq_true rfl) (by decide +kernel) ?_
  show rf_V 1 (rf_sh w) K 0 0 8 ([(0, .int a0)], [.int y0], rf_MM w m0)
  obtain ⟨q01, hg⟩ := rf_g_some hg
  obtain rfl := Option.some.inj hg
  exact rf_zret C hE (rf_01_of q01) (by decide +kernel)
-- X11_denied
abbrev j_X11_denied : rf_J := (11, yX11_denied, cX11_denied, 2, (some .boolean))
theorem mw_X11_denied : rf_mv j_X11_denied (rf_R 11) 1 := ⟨⟨rf_mem 14 (by decide +kernel), rf_mem 14 (by decide +kernel), rf_mem 0 (by decide +kernel), rf_mem 14 (by decide +kernel)⟩, by decide +kernel, by decide⟩
def g_X11_denied (w : rf_w) (m : rf_m) (a1 : Int32) : Option (Int32 × rf_m) := some (0, rf_i m 0 11 a1)
theorem c_X11_denied {w : rf_w} {m : rf_m} {a1 : Int32} {r : Int32 × rf_m} (hg : g_X11_denied w m a1 = some r) : rf_Con j_X11_denied 1 (rf_sh w) [.ref 0, .int a1] (rf_MM w m) (some (.int r.1)) (rf_MM w r.2) := by
  refine rf_con j_X11_denied 1 ⟨by decide +kernel, rfl, Nat.le_of_ble_eq_true rfl⟩ (fun K C hE => ?_)
  unfold g_X11_denied at hg
  show rf_V 2 (rf_sh w) K 0 0 0 ([(0, .ref 0), (1, .int a1)], [], rf_MM w m)
  refine rf_seg C [(.aload 0, 1), (.iload 1, 1), (.multianewarray 11 11, 3), (.iconst 0, 1)] (pc' := 6) (S' := ([(0, .ref 0), (1, .int a1)], [.int 0], rf_MM w (rf_i m 0 11 a1))) (by decide +kernel) rfl trivial ?_
  obtain rfl := Option.some.inj hg
  exact rf_zret C hE (by decide) (by decide +kernel)
-- X11_granted
abbrev j_X11_granted : rf_J := (11, yX11_granted, cX11_granted, 1, (some .boolean))
theorem mw_X11_granted : rf_mv j_X11_granted (rf_R 11) 0 := ⟨⟨rf_mem 14 (by decide +kernel), rf_mem 14 (by decide +kernel), rf_mem 0 (by decide +kernel), rf_mem 14 (by decide +kernel)⟩, by decide +kernel, by decide⟩
def g_X11_granted (w : rf_w) (m : rf_m) : Option (Int32 × rf_m) := some (1, rf_i m 0 11 0)
theorem c_X11_granted {w : rf_w} {m : rf_m} {r : Int32 × rf_m} (hg : g_X11_granted w m = some r) : rf_Con j_X11_granted 1 (rf_sh w) [.ref 0] (rf_MM w m) (some (.int r.1)) (rf_MM w r.2) := by
  refine rf_con j_X11_granted 1 ⟨by decide +kernel, rfl, Nat.le_of_ble_eq_true rfl⟩ (fun K C hE => ?_)
  unfold g_X11_granted at hg
  show rf_V 1 (rf_sh w) K 0 0 0 ([(0, .ref 0)], [], rf_MM w m)
  refine rf_seg C [(.aload 0, 1), (.iconst 0, 1), (.multianewarray 11 11, 3), (.iconst 1, 1)] (pc' := 6) (S' := ([(0, .ref 0)], [.int 1], rf_MM w (rf_i m 0 11 0))) (by decide +kernel) rfl trivial ?_
  obtain rfl := Option.some.inj hg
  exact rf_zret C hE (by decide) (by decide +kernel)
-- X11_cell
abbrev j_X11_cell : rf_J := (11, yX11_cell, cX11_cell, 4, (some .boolean))
theorem mw_X11_cell : rf_mv j_X11_cell (rf_R 11) 3 := ⟨⟨rf_mem 13 (by decide +kernel), rf_mem 13 (by decide +kernel), rf_mem 0 (by decide +kernel), rf_mem 13 (by decide +kernel)⟩, by decide +kernel, by decide⟩
def g_X11_cell (w : rf_w) (m : rf_m) (a1 : Int32) (a2 : Int32) (a3 : Int32) : Option (Int32 × rf_m) := rf_b (g_X11_isCell w m a1) fun y0 m0 => (if y0 = 0 then rf_b (g_X11_denied w m0 1) fun y8 m8 => rf_g (rf_01 y8) (some (y8, m8)) else rf_b (g_X11_isWithin w m0 a2 0 2000) fun y1 m1 => (if y1 = 0 then rf_b (g_X11_denied w m1 2) fun y2 m2 => rf_g (rf_01 y2) (some (y2, m2)) else rf_b (g_X11_isWithin w m1 a3 0 90) fun y3 m3 => (if y3 = 0 then rf_b (g_X11_denied w m3 2) fun y7 m7 => rf_g (rf_01 y7) (some (y7, m7)) else rf_g (rf_in a1 1024) (rf_g (rf_in a1 1024) (rf_b (g_X11_granted w (rf_i (rf_i m3 2 (Int32.toNatClampNeg a1) a2) 3 (Int32.toNatClampNeg a1) a3)) fun y6 m6 => rf_g (rf_01 y6) (some (y6, m6)))))))
theorem c_X11_cell {w : rf_w} {m : rf_m} {a1 : Int32} {a2 : Int32} {a3 : Int32} {r : Int32 × rf_m} (hg : g_X11_cell w m a1 a2 a3 = some r) : rf_Con j_X11_cell 3 (rf_sh w) [.ref 0, .int a1, .int a2, .int a3] (rf_MM w m) (some (.int r.1)) (rf_MM w r.2) := by
  refine rf_con j_X11_cell 3 ⟨by decide +kernel, rfl, Nat.le_of_ble_eq_true rfl⟩ (fun K C hE => ?_)
  unfold g_X11_cell at hg
  show rf_V 4 (rf_sh w) K 0 0 0 ([(0, .ref 0), (1, .int a1), (2, .int a2), (3, .int a3)], [], rf_MM w m)
  refine rf_seg C [(.iload 1, 1)] (pc' := 1) (S' := ([(0, .ref 0), (1, .int a1), (2, .int a2), (3, .int a3)], [.int a1], rf_MM w m)) (by decide +kernel) rfl trivial ?_
  obtain ⟨y0, m0, hc0, hg⟩ := rf_b_some hg
  refine rf_calls C rf_fit0 j_X11_isCell (As := [.int a1]) (rest := []) mw_X11_isCell (c_X11_isCell hc0) (by decide) lk_11_84 rfl rfl (Nat.le_of_ble_eq_true rfl) (by decide +kernel) ?_
  show rf_V 4 (rf_sh w) K 0 0 4 ([(0, .ref 0), (1, .int a1), (2, .int a2), (3, .int a3)], [.int y0], rf_MM w m0)
  refine rf_if_ne C 9 13 (by decide +kernel) (fun hc => ?_) (fun hc => ?_)
  · replace hg := (if_neg hc).symm.trans hg
    refine rf_seg C [(.iload 2, 1), (.iconst 0, 1), (.iconst 2000, 3)] (pc' := 18) (S' := ([(0, .ref 0), (1, .int a1), (2, .int a2), (3, .int a3)], [.int 2000, .int 0, .int a2], rf_MM w m0)) (by decide +kernel) rfl trivial ?_
    obtain ⟨y1, m1, hc1, hg⟩ := rf_b_some hg
    refine rf_calls C rf_fit0 j_X11_isWithin (As := [.int a2, .int 0, .int 2000]) (rest := []) mw_X11_isWithin (c_X11_isWithin hc1) (by decide) lk_11_91 rfl rfl (Nat.le_of_ble_eq_true rfl) (by decide +kernel) ?_
    show rf_V 4 (rf_sh w) K 0 0 21 ([(0, .ref 0), (1, .int a1), (2, .int a2), (3, .int a3)], [.int y1], rf_MM w m1)
    refine rf_if_eq C 13 34 (by decide +kernel) (fun hc => ?_) (fun hc => ?_)
    · replace hg := (if_pos hc).symm.trans hg
      refine rf_seg C [(.aload 0, 1), (.iconst 2, 1)] (pc' := 36) (S' := ([(0, .ref 0), (1, .int a1), (2, .int a2), (3, .int a3)], [.int 2, .ref 0], rf_MM w m1)) (by decide +kernel) rfl trivial ?_
      obtain ⟨y2, m2, hc2, hg⟩ := rf_b_some hg
      refine rf_callv C rf_fit0 j_X11_denied (ci := 11) (As := [.int 2]) (rest := []) mw_X11_denied (c_X11_denied hc2) (by decide) rfl (by decide) lk_11_88 rfl rfl (Nat.le_of_ble_eq_true rfl) (by decide +kernel) ?_
      show rf_V 4 (rf_sh w) K 0 0 39 ([(0, .ref 0), (1, .int a1), (2, .int a2), (3, .int a3)], [.int y2], rf_MM w m2)
      obtain ⟨q01, hg⟩ := rf_g_some hg
      obtain rfl := Option.some.inj hg
      exact rf_zret C hE (rf_01_of q01) (by decide +kernel)
    · replace hg := (if_neg hc).symm.trans hg
      refine rf_seg C [(.iload 3, 1), (.iconst 0, 1), (.iconst 90, 2)] (pc' := 28) (S' := ([(0, .ref 0), (1, .int a1), (2, .int a2), (3, .int a3)], [.int 90, .int 0, .int a3], rf_MM w m1)) (by decide +kernel) rfl trivial ?_
      obtain ⟨y3, m3, hc3, hg⟩ := rf_b_some hg
      refine rf_calls C rf_fit0 j_X11_isWithin (As := [.int a3, .int 0, .int 90]) (rest := []) mw_X11_isWithin (c_X11_isWithin hc3) (by decide) lk_11_91 rfl rfl (Nat.le_of_ble_eq_true rfl) (by decide +kernel) ?_
      show rf_V 4 (rf_sh w) K 0 0 31 ([(0, .ref 0), (1, .int a1), (2, .int a2), (3, .int a3)], [.int y3], rf_MM w m3)
      refine rf_if_ne C 9 40 (by decide +kernel) (fun hc => ?_) (fun hc => ?_)
      · replace hg := (if_neg hc).symm.trans hg
        obtain ⟨q4, hg⟩ := rf_g_some hg
        obtain ⟨q5, hg⟩ := rf_g_some hg
        refine rf_seg C [(.aload 0, 1), (.invokeinterface 11 0, 3), (.invokeinterface 5 0, 3), (.iload 1, 1), (.iload 2, 1), (.iastore, 1), (.aload 0, 1), (.invokeinterface 11 0, 3), (.invokeinterface 5 1, 3), (.iload 1, 1), (.iload 3, 1), (.iastore, 1), (.aload 0, 1)] (pc' := 61) (S' := ([(0, .ref 0), (1, .int a1), (2, .int a2), (3, .int a3)], [.ref 0], rf_MM w (rf_i (rf_i m3 2 (Int32.toNatClampNeg a1) a2) 3 (Int32.toNatClampNeg a1) a3))) (by decide +kernel) rfl (by exact ⟨(rf_in_of q4), (rf_in_of q5)⟩) ?_
        obtain ⟨y6, m6, hc6, hg⟩ := rf_b_some hg
        refine rf_callv C rf_fit0 j_X11_granted (ci := 11) (As := []) (rest := []) mw_X11_granted (c_X11_granted hc6) (by decide) rfl (by decide) lk_11_101 rfl rfl (Nat.le_of_ble_eq_true rfl) (by decide +kernel) ?_
        show rf_V 4 (rf_sh w) K 0 0 64 ([(0, .ref 0), (1, .int a1), (2, .int a2), (3, .int a3)], [.int y6], rf_MM w m6)
        obtain ⟨q01, hg⟩ := rf_g_some hg
        obtain rfl := Option.some.inj hg
        exact rf_zret C hE (rf_01_of q01) (by decide +kernel)
      · replace hg := (if_pos hc).symm.trans hg
        refine rf_seg C [(.aload 0, 1), (.iconst 2, 1)] (pc' := 36) (S' := ([(0, .ref 0), (1, .int a1), (2, .int a2), (3, .int a3)], [.int 2, .ref 0], rf_MM w m3)) (by decide +kernel) rfl trivial ?_
        obtain ⟨y7, m7, hc7, hg⟩ := rf_b_some hg
        refine rf_callv C rf_fit0 j_X11_denied (ci := 11) (As := [.int 2]) (rest := []) mw_X11_denied (c_X11_denied hc7) (by decide) rfl (by decide) lk_11_88 rfl rfl (Nat.le_of_ble_eq_true rfl) (by decide +kernel) ?_
        show rf_V 4 (rf_sh w) K 0 0 39 ([(0, .ref 0), (1, .int a1), (2, .int a2), (3, .int a3)], [.int y7], rf_MM w m7)
        obtain ⟨q01, hg⟩ := rf_g_some hg
        obtain rfl := Option.some.inj hg
        exact rf_zret C hE (rf_01_of q01) (by decide +kernel)
  · replace hg := (if_pos hc).symm.trans hg
    refine rf_seg C [(.aload 0, 1), (.iconst 1, 1)] (pc' := 9) (S' := ([(0, .ref 0), (1, .int a1), (2, .int a2), (3, .int a3)], [.int 1, .ref 0], rf_MM w m0)) (by decide +kernel) rfl trivial ?_
    obtain ⟨y8, m8, hc8, hg⟩ := rf_b_some hg
    refine rf_callv C rf_fit0 j_X11_denied (ci := 11) (As := [.int 1]) (rest := []) mw_X11_denied (c_X11_denied hc8) (by decide) rfl (by decide) lk_11_88 rfl rfl (Nat.le_of_ble_eq_true rfl) (by decide +kernel) ?_
    show rf_V 4 (rf_sh w) K 0 0 12 ([(0, .ref 0), (1, .int a1), (2, .int a2), (3, .int a3)], [.int y8], rf_MM w m8)
    obtain ⟨q01, hg⟩ := rf_g_some hg
    obtain rfl := Option.some.inj hg
    exact rf_zret C hE (rf_01_of q01) (by decide +kernel)
-- X11_answered
abbrev j_X11_answered : rf_J := (11, yX11_answered, cX11_answered, 2, (some .int))
theorem mw_X11_answered : rf_mv j_X11_answered (rf_R 11) 1 := ⟨⟨rf_mem 16 (by decide +kernel), rf_mem 16 (by decide +kernel), rf_mem 0 (by decide +kernel), rf_mem 16 (by decide +kernel)⟩, by decide +kernel, by decide⟩
def g_X11_answered (w : rf_w) (m : rf_m) (a1 : Int32) : Option (Int32 × rf_m) := some (a1, rf_i m 0 11 0)
theorem c_X11_answered {w : rf_w} {m : rf_m} {a1 : Int32} {r : Int32 × rf_m} (hg : g_X11_answered w m a1 = some r) : rf_Con j_X11_answered 1 (rf_sh w) [.ref 0, .int a1] (rf_MM w m) (some (.int r.1)) (rf_MM w r.2) := by
  refine rf_con j_X11_answered 1 ⟨by decide +kernel, rfl, Nat.le_of_ble_eq_true rfl⟩ (fun K C hE => ?_)
  unfold g_X11_answered at hg
  show rf_V 2 (rf_sh w) K 0 0 0 ([(0, .ref 0), (1, .int a1)], [], rf_MM w m)
  refine rf_seg C [(.aload 0, 1), (.iconst 0, 1), (.multianewarray 11 11, 3), (.iload 1, 1)] (pc' := 6) (S' := ([(0, .ref 0), (1, .int a1)], [.int a1], rf_MM w (rf_i m 0 11 0))) (by decide +kernel) rfl trivial ?_
  obtain rfl := Option.some.inj hg
  exact rf_iret C hE (by decide +kernel)
-- X11_refused
abbrev j_X11_refused : rf_J := (11, yX11_refused, cX11_refused, 2, (some .int))
theorem mw_X11_refused : rf_mv j_X11_refused (rf_R 11) 1 := ⟨⟨rf_mem 15 (by decide +kernel), rf_mem 15 (by decide +kernel), rf_mem 0 (by decide +kernel), rf_mem 15 (by decide +kernel)⟩, by decide +kernel, by decide⟩
def g_X11_refused (w : rf_w) (m : rf_m) (a1 : Int32) : Option (Int32 × rf_m) := some ((-1), rf_i m 0 11 a1)
theorem c_X11_refused {w : rf_w} {m : rf_m} {a1 : Int32} {r : Int32 × rf_m} (hg : g_X11_refused w m a1 = some r) : rf_Con j_X11_refused 1 (rf_sh w) [.ref 0, .int a1] (rf_MM w m) (some (.int r.1)) (rf_MM w r.2) := by
  refine rf_con j_X11_refused 1 ⟨by decide +kernel, rfl, Nat.le_of_ble_eq_true rfl⟩ (fun K C hE => ?_)
  unfold g_X11_refused at hg
  show rf_V 2 (rf_sh w) K 0 0 0 ([(0, .ref 0), (1, .int a1)], [], rf_MM w m)
  refine rf_seg C [(.aload 0, 1), (.iload 1, 1), (.multianewarray 11 11, 3), (.iconst (-1), 1)] (pc' := 6) (S' := ([(0, .ref 0), (1, .int a1)], [.int ((-1))], rf_MM w (rf_i m 0 11 a1))) (by decide +kernel) rfl trivial ?_
  obtain rfl := Option.some.inj hg
  exact rf_iret C hE (by decide +kernel)
-- X11_mark
abbrev j_X11_mark : rf_J := (11, yX11_mark, cX11_mark, 2, (some .int))
theorem mw_X11_mark : rf_mv j_X11_mark (rf_R 11) 1 := ⟨⟨rf_mem 15 (by decide +kernel), rf_mem 15 (by decide +kernel), rf_mem 0 (by decide +kernel), rf_mem 15 (by decide +kernel)⟩, by decide +kernel, by decide⟩
def g_X11_mark (w : rf_w) (m : rf_m) (a1 : Int32) : Option (Int32 × rf_m) := rf_b (g_X11_isCell w m a1) fun y0 m0 => (if y0 = 0 then rf_b (g_X11_refused w m0 1) fun y6 m6 => some (y6, m6) else rf_b (g_X5_isTaken w m0 a1) fun y1 m1 => (if y1 = 0 then (if (m1.1 1 4) < 30 then rf_b (g_X5_addMark w m1 a1) fun y2 m2 => rf_b (g_X11_answered w m2 y2) fun y3 m3 => some (y3, m3) else rf_b (g_X11_refused w m1 3) fun y4 m4 => some (y4, m4)) else rf_b (g_X11_refused w m1 5) fun y5 m5 => some (y5, m5)))
theorem c_X11_mark {w : rf_w} {m : rf_m} {a1 : Int32} {r : Int32 × rf_m} (hg : g_X11_mark w m a1 = some r) : rf_Con j_X11_mark 3 (rf_sh w) [.ref 0, .int a1] (rf_MM w m) (some (.int r.1)) (rf_MM w r.2) := by
  refine rf_con j_X11_mark 3 ⟨by decide +kernel, rfl, Nat.le_of_ble_eq_true rfl⟩ (fun K C hE => ?_)
  unfold g_X11_mark at hg
  show rf_V 2 (rf_sh w) K 0 0 0 ([(0, .ref 0), (1, .int a1)], [], rf_MM w m)
  refine rf_seg C [(.iload 1, 1)] (pc' := 1) (S' := ([(0, .ref 0), (1, .int a1)], [.int a1], rf_MM w m)) (by decide +kernel) rfl trivial ?_
  obtain ⟨y0, m0, hc0, hg⟩ := rf_b_some hg
  refine rf_calls C rf_fit0 j_X11_isCell (As := [.int a1]) (rest := []) mw_X11_isCell (c_X11_isCell hc0) (by decide) lk_11_84 rfl rfl (Nat.le_of_ble_eq_true rfl) (by decide +kernel) ?_
  show rf_V 2 (rf_sh w) K 0 0 4 ([(0, .ref 0), (1, .int a1)], [.int y0], rf_MM w m0)
  refine rf_if_ne C 9 13 (by decide +kernel) (fun hc => ?_) (fun hc => ?_)
  · replace hg := (if_neg hc).symm.trans hg
    refine rf_seg C [(.aload 0, 1), (.invokeinterface 11 0, 3), (.iload 1, 1)] (pc' := 18) (S' := ([(0, .ref 0), (1, .int a1)], [.int a1, .ref 1], rf_MM w m0)) (by decide +kernel) rfl trivial ?_
    obtain ⟨y1, m1, hc1, hg⟩ := rf_b_some hg
    refine rf_callv C rf_fit0 j_X5_isTaken (ci := 5) (As := [.int a1]) (rest := []) mw_X5_isTaken (c_X5_isTaken hc1) (by decide) rfl (by decide) lk_11_109 rfl rfl (Nat.le_of_ble_eq_true rfl) (by decide +kernel) ?_
    show rf_V 2 (rf_sh w) K 0 0 21 ([(0, .ref 0), (1, .int a1)], [.int y1], rf_MM w m1)
    refine rf_if_eq C 9 30 (by decide +kernel) (fun hc => ?_) (fun hc => ?_)
    · replace hg := (if_pos hc).symm.trans hg
      refine rf_seg C [(.aload 0, 1), (.invokeinterface 11 0, 3), (.invokeinterface 5 4, 3), (.iconst 30, 2)] (pc' := 39) (S' := ([(0, .ref 0), (1, .int a1)], [.int 30, .int (m1.1 1 4)], rf_MM w m1)) (by decide +kernel) rfl trivial ?_
      refine rf_icmp_lt C 9 48 (by decide +kernel) (fun hc => ?_) (fun hc => ?_)
      · replace hg := (if_pos hc).symm.trans hg
        refine rf_seg C [(.aload 0, 1), (.aload 0, 1), (.invokeinterface 11 0, 3), (.iload 1, 1)] (pc' := 54) (S' := ([(0, .ref 0), (1, .int a1)], [.int a1, .ref 1, .ref 0], rf_MM w m1)) (by decide +kernel) rfl trivial ?_
        obtain ⟨y2, m2, hc2, hg⟩ := rf_b_some hg
        refine rf_callv C rf_fit0 j_X5_addMark (ci := 5) (As := [.int a1]) (rest := [.ref 0]) mw_X5_addMark (c_X5_addMark hc2) (by decide) rfl (by decide) lk_11_116 rfl rfl (Nat.le_of_ble_eq_true rfl) (by decide +kernel) ?_
        show rf_V 2 (rf_sh w) K 0 0 57 ([(0, .ref 0), (1, .int a1)], [.int y2, .ref 0], rf_MM w m2)
        obtain ⟨y3, m3, hc3, hg⟩ := rf_b_some hg
        refine rf_callv C rf_fit0 j_X11_answered (ci := 11) (As := [.int y2]) (rest := []) mw_X11_answered (c_X11_answered hc3) (by decide) rfl (by decide) lk_11_119 rfl rfl (Nat.le_of_ble_eq_true rfl) (by decide +kernel) ?_
        show rf_V 2 (rf_sh w) K 0 0 60 ([(0, .ref 0), (1, .int a1)], [.int y3], rf_MM w m3)
        obtain rfl := Option.some.inj hg
        exact rf_iret C hE (by decide +kernel)
      · replace hg := (if_neg hc).symm.trans hg
        refine rf_seg C [(.aload 0, 1), (.iconst 3, 1)] (pc' := 44) (S' := ([(0, .ref 0), (1, .int a1)], [.int 3, .ref 0], rf_MM w m1)) (by decide +kernel) rfl trivial ?_
        obtain ⟨y4, m4, hc4, hg⟩ := rf_b_some hg
        refine rf_callv C rf_fit0 j_X11_refused (ci := 11) (As := [.int 3]) (rest := []) mw_X11_refused (c_X11_refused hc4) (by decide) rfl (by decide) lk_11_105 rfl rfl (Nat.le_of_ble_eq_true rfl) (by decide +kernel) ?_
        show rf_V 2 (rf_sh w) K 0 0 47 ([(0, .ref 0), (1, .int a1)], [.int y4], rf_MM w m4)
        obtain rfl := Option.some.inj hg
        exact rf_iret C hE (by decide +kernel)
    · replace hg := (if_neg hc).symm.trans hg
      refine rf_seg C [(.aload 0, 1), (.iconst 5, 1)] (pc' := 26) (S' := ([(0, .ref 0), (1, .int a1)], [.int 5, .ref 0], rf_MM w m1)) (by decide +kernel) rfl trivial ?_
      obtain ⟨y5, m5, hc5, hg⟩ := rf_b_some hg
      refine rf_callv C rf_fit0 j_X11_refused (ci := 11) (As := [.int 5]) (rest := []) mw_X11_refused (c_X11_refused hc5) (by decide) rfl (by decide) lk_11_105 rfl rfl (Nat.le_of_ble_eq_true rfl) (by decide +kernel) ?_
      show rf_V 2 (rf_sh w) K 0 0 29 ([(0, .ref 0), (1, .int a1)], [.int y5], rf_MM w m5)
      obtain rfl := Option.some.inj hg
      exact rf_iret C hE (by decide +kernel)
  · replace hg := (if_pos hc).symm.trans hg
    refine rf_seg C [(.aload 0, 1), (.iconst 1, 1)] (pc' := 9) (S' := ([(0, .ref 0), (1, .int a1)], [.int 1, .ref 0], rf_MM w m0)) (by decide +kernel) rfl trivial ?_
    obtain ⟨y6, m6, hc6, hg⟩ := rf_b_some hg
    refine rf_callv C rf_fit0 j_X11_refused (ci := 11) (As := [.int 1]) (rest := []) mw_X11_refused (c_X11_refused hc6) (by decide) rfl (by decide) lk_11_105 rfl rfl (Nat.le_of_ble_eq_true rfl) (by decide +kernel) ?_
    show rf_V 2 (rf_sh w) K 0 0 12 ([(0, .ref 0), (1, .int a1)], [.int y6], rf_MM w m6)
    obtain rfl := Option.some.inj hg
    exact rf_iret C hE (by decide +kernel)
-- X11_tower
abbrev j_X11_tower : rf_J := (11, yX11_tower, cX11_tower, 3, (some .boolean))
theorem mw_X11_tower : rf_mv j_X11_tower (rf_R 11) 2 := ⟨⟨rf_mem 16 (by decide +kernel), rf_mem 16 (by decide +kernel), rf_mem 0 (by decide +kernel), rf_mem 16 (by decide +kernel)⟩, by decide +kernel, by decide⟩
def g_X11_tower (w : rf_w) (m : rf_m) (a1 : Int32) (a2 : Int32) : Option (Int32 × rf_m) := rf_b (g_X5_isMark w m a1) fun y0 m0 => (if y0 = 0 then rf_b (g_X11_denied w m0 1) fun y5 m5 => rf_g (rf_01 y5) (some (y5, m5)) else rf_b (g_X11_isWithin w m0 a2 0 99) fun y1 m1 => (if y1 = 0 then rf_b (g_X11_denied w m1 2) fun y4 m4 => rf_g (rf_01 y4) (some (y4, m4)) else rf_bv (g_X5_raise w m1 a1 (m1.1 0 10) a2) fun m2 => rf_b (g_X11_granted w m2) fun y3 m3 => rf_g (rf_01 y3) (some (y3, m3))))
theorem c_X11_tower {w : rf_w} {m : rf_m} {a1 : Int32} {a2 : Int32} {r : Int32 × rf_m} (hg : g_X11_tower w m a1 a2 = some r) : rf_Con j_X11_tower 2 (rf_sh w) [.ref 0, .int a1, .int a2] (rf_MM w m) (some (.int r.1)) (rf_MM w r.2) := by
  refine rf_con j_X11_tower 2 ⟨by decide +kernel, rfl, Nat.le_of_ble_eq_true rfl⟩ (fun K C hE => ?_)
  unfold g_X11_tower at hg
  show rf_V 3 (rf_sh w) K 0 0 0 ([(0, .ref 0), (1, .int a1), (2, .int a2)], [], rf_MM w m)
  refine rf_seg C [(.aload 0, 1), (.invokeinterface 11 0, 3), (.iload 1, 1)] (pc' := 5) (S' := ([(0, .ref 0), (1, .int a1), (2, .int a2)], [.int a1, .ref 1], rf_MM w m)) (by decide +kernel) rfl trivial ?_
  obtain ⟨y0, m0, hc0, hg⟩ := rf_b_some hg
  refine rf_callv C rf_fit0 j_X5_isMark (ci := 5) (As := [.int a1]) (rest := []) mw_X5_isMark (c_X5_isMark hc0) (by decide) rfl (by decide) lk_11_122 rfl rfl (Nat.le_of_ble_eq_true rfl) (by decide +kernel) ?_
  show rf_V 3 (rf_sh w) K 0 0 8 ([(0, .ref 0), (1, .int a1), (2, .int a2)], [.int y0], rf_MM w m0)
  refine rf_if_ne C 9 17 (by decide +kernel) (fun hc => ?_) (fun hc => ?_)
  · replace hg := (if_neg hc).symm.trans hg
    refine rf_seg C [(.iload 2, 1), (.iconst 0, 1), (.iconst 99, 2)] (pc' := 21) (S' := ([(0, .ref 0), (1, .int a1), (2, .int a2)], [.int 99, .int 0, .int a2], rf_MM w m0)) (by decide +kernel) rfl trivial ?_
    obtain ⟨y1, m1, hc1, hg⟩ := rf_b_some hg
    refine rf_calls C rf_fit0 j_X11_isWithin (As := [.int a2, .int 0, .int 99]) (rest := []) mw_X11_isWithin (c_X11_isWithin hc1) (by decide) lk_11_91 rfl rfl (Nat.le_of_ble_eq_true rfl) (by decide +kernel) ?_
    show rf_V 3 (rf_sh w) K 0 0 24 ([(0, .ref 0), (1, .int a1), (2, .int a2)], [.int y1], rf_MM w m1)
    refine rf_if_ne C 9 33 (by decide +kernel) (fun hc => ?_) (fun hc => ?_)
    · replace hg := (if_neg hc).symm.trans hg
      refine rf_seg C [(.aload 0, 1), (.invokeinterface 11 0, 3), (.iload 1, 1), (.aload 0, 1), (.invokeinterface 11 10, 3), (.iload 2, 1)] (pc' := 43) (S' := ([(0, .ref 0), (1, .int a1), (2, .int a2)], [.int a2, .int (m1.1 0 10), .int a1, .ref 1], rf_MM w m1)) (by decide +kernel) rfl trivial ?_
      obtain ⟨m2, hc2, hg⟩ := rf_bv_some hg
      refine rf_callv C rf_fit0 j_X5_raise (ci := 5) (As := [.int a1, .int (m1.1 0 10), .int a2]) (rest := []) mw_X5_raise (c_X5_raise hc2) (by decide) rfl (by decide) lk_11_128 rfl rfl (Nat.le_of_ble_eq_true rfl) (by decide +kernel) ?_
      show rf_V 3 (rf_sh w) K 0 0 46 ([(0, .ref 0), (1, .int a1), (2, .int a2)], [], rf_MM w m2)
      refine rf_seg C [(.aload 0, 1)] (pc' := 47) (S' := ([(0, .ref 0), (1, .int a1), (2, .int a2)], [.ref 0], rf_MM w m2)) (by decide +kernel) rfl trivial ?_
      obtain ⟨y3, m3, hc3, hg⟩ := rf_b_some hg
      refine rf_callv C rf_fit0 j_X11_granted (ci := 11) (As := []) (rest := []) mw_X11_granted (c_X11_granted hc3) (by decide) rfl (by decide) lk_11_101 rfl rfl (Nat.le_of_ble_eq_true rfl) (by decide +kernel) ?_
      show rf_V 3 (rf_sh w) K 0 0 50 ([(0, .ref 0), (1, .int a1), (2, .int a2)], [.int y3], rf_MM w m3)
      obtain ⟨q01, hg⟩ := rf_g_some hg
      obtain rfl := Option.some.inj hg
      exact rf_zret C hE (rf_01_of q01) (by decide +kernel)
    · replace hg := (if_pos hc).symm.trans hg
      refine rf_seg C [(.aload 0, 1), (.iconst 2, 1)] (pc' := 29) (S' := ([(0, .ref 0), (1, .int a1), (2, .int a2)], [.int 2, .ref 0], rf_MM w m1)) (by decide +kernel) rfl trivial ?_
      obtain ⟨y4, m4, hc4, hg⟩ := rf_b_some hg
      refine rf_callv C rf_fit0 j_X11_denied (ci := 11) (As := [.int 2]) (rest := []) mw_X11_denied (c_X11_denied hc4) (by decide) rfl (by decide) lk_11_88 rfl rfl (Nat.le_of_ble_eq_true rfl) (by decide +kernel) ?_
      show rf_V 3 (rf_sh w) K 0 0 32 ([(0, .ref 0), (1, .int a1), (2, .int a2)], [.int y4], rf_MM w m4)
      obtain ⟨q01, hg⟩ := rf_g_some hg
      obtain rfl := Option.some.inj hg
      exact rf_zret C hE (rf_01_of q01) (by decide +kernel)
  · replace hg := (if_pos hc).symm.trans hg
    refine rf_seg C [(.aload 0, 1), (.iconst 1, 1)] (pc' := 13) (S' := ([(0, .ref 0), (1, .int a1), (2, .int a2)], [.int 1, .ref 0], rf_MM w m0)) (by decide +kernel) rfl trivial ?_
    obtain ⟨y5, m5, hc5, hg⟩ := rf_b_some hg
    refine rf_callv C rf_fit0 j_X11_denied (ci := 11) (As := [.int 1]) (rest := []) mw_X11_denied (c_X11_denied hc5) (by decide) rfl (by decide) lk_11_88 rfl rfl (Nat.le_of_ble_eq_true rfl) (by decide +kernel) ?_
    show rf_V 3 (rf_sh w) K 0 0 16 ([(0, .ref 0), (1, .int a1), (2, .int a2)], [.int y5], rf_MM w m5)
    obtain ⟨q01, hg⟩ := rf_g_some hg
    obtain rfl := Option.some.inj hg
    exact rf_zret C hE (rf_01_of q01) (by decide +kernel)
-- X11_lamp
abbrev j_X11_lamp : rf_J := (11, yX11_lamp, cX11_lamp, 3, (some .boolean))
theorem mw_X11_lamp : rf_mv j_X11_lamp (rf_R 11) 2 := ⟨⟨rf_mem 17 (by decide +kernel), rf_mem 17 (by decide +kernel), rf_mem 0 (by decide +kernel), rf_mem 17 (by decide +kernel)⟩, by decide +kernel, by decide⟩
def g_X11_lamp (w : rf_w) (m : rf_m) (a1 : Int32) (a2 : Int32) : Option (Int32 × rf_m) := rf_b (g_X5_isMark w m a1) fun y0 m0 => (if y0 = 0 then rf_b (g_X11_denied w m0 1) fun y3 m3 => rf_g (rf_01 y3) (some (y3, m3)) else rf_g (rf_in a1 30) (rf_b (g_X11_granted w (rf_i m0 5 (Int32.toNatClampNeg a1) (vp_nar .boolean a2))) fun y2 m2 => rf_g (rf_01 y2) (some (y2, m2))))
theorem c_X11_lamp {w : rf_w} {m : rf_m} {a1 : Int32} {a2 : Int32} {r : Int32 × rf_m} (hg : g_X11_lamp w m a1 a2 = some r) : rf_Con j_X11_lamp 2 (rf_sh w) [.ref 0, .int a1, .int a2] (rf_MM w m) (some (.int r.1)) (rf_MM w r.2) := by
  refine rf_con j_X11_lamp 2 ⟨by decide +kernel, rfl, Nat.le_of_ble_eq_true rfl⟩ (fun K C hE => ?_)
  unfold g_X11_lamp at hg
  show rf_V 3 (rf_sh w) K 0 0 0 ([(0, .ref 0), (1, .int a1), (2, .int a2)], [], rf_MM w m)
  refine rf_seg C [(.aload 0, 1), (.invokeinterface 11 0, 3), (.iload 1, 1)] (pc' := 5) (S' := ([(0, .ref 0), (1, .int a1), (2, .int a2)], [.int a1, .ref 1], rf_MM w m)) (by decide +kernel) rfl trivial ?_
  obtain ⟨y0, m0, hc0, hg⟩ := rf_b_some hg
  refine rf_callv C rf_fit0 j_X5_isMark (ci := 5) (As := [.int a1]) (rest := []) mw_X5_isMark (c_X5_isMark hc0) (by decide) rfl (by decide) lk_11_122 rfl rfl (Nat.le_of_ble_eq_true rfl) (by decide +kernel) ?_
  show rf_V 3 (rf_sh w) K 0 0 8 ([(0, .ref 0), (1, .int a1), (2, .int a2)], [.int y0], rf_MM w m0)
  refine rf_if_ne C 9 17 (by decide +kernel) (fun hc => ?_) (fun hc => ?_)
  · replace hg := (if_neg hc).symm.trans hg
    obtain ⟨q1, hg⟩ := rf_g_some hg
    refine rf_seg C [(.aload 0, 1), (.invokeinterface 11 0, 3), (.invokeinterface 5 3, 3), (.iload 1, 1), (.iload 2, 1), (.bastore, 1), (.aload 0, 1)] (pc' := 28) (S' := ([(0, .ref 0), (1, .int a1), (2, .int a2)], [.ref 0], rf_MM w (rf_i m0 5 (Int32.toNatClampNeg a1) (vp_nar .boolean a2)))) (by decide +kernel) rfl (rf_in_of q1) ?_
    obtain ⟨y2, m2, hc2, hg⟩ := rf_b_some hg
    refine rf_callv C rf_fit0 j_X11_granted (ci := 11) (As := []) (rest := []) mw_X11_granted (c_X11_granted hc2) (by decide) rfl (by decide) lk_11_101 rfl rfl (Nat.le_of_ble_eq_true rfl) (by decide +kernel) ?_
    show rf_V 3 (rf_sh w) K 0 0 31 ([(0, .ref 0), (1, .int a1), (2, .int a2)], [.int y2], rf_MM w m2)
    obtain ⟨q01, hg⟩ := rf_g_some hg
    obtain rfl := Option.some.inj hg
    exact rf_zret C hE (rf_01_of q01) (by decide +kernel)
  · replace hg := (if_pos hc).symm.trans hg
    refine rf_seg C [(.aload 0, 1), (.iconst 1, 1)] (pc' := 13) (S' := ([(0, .ref 0), (1, .int a1), (2, .int a2)], [.int 1, .ref 0], rf_MM w m0)) (by decide +kernel) rfl trivial ?_
    obtain ⟨y3, m3, hc3, hg⟩ := rf_b_some hg
    refine rf_callv C rf_fit0 j_X11_denied (ci := 11) (As := [.int 1]) (rest := []) mw_X11_denied (c_X11_denied hc3) (by decide) rfl (by decide) lk_11_88 rfl rfl (Nat.le_of_ble_eq_true rfl) (by decide +kernel) ?_
    show rf_V 3 (rf_sh w) K 0 0 16 ([(0, .ref 0), (1, .int a1), (2, .int a2)], [.int y3], rf_MM w m3)
    obtain ⟨q01, hg⟩ := rf_g_some hg
    obtain rfl := Option.some.inj hg
    exact rf_zret C hE (rf_01_of q01) (by decide +kernel)
-- X11_isDay
abbrev j_X11_isDay : rf_J := (11, yX11_isDay, cX11_isDay, 1, (some .boolean))
theorem mw_X11_isDay : rf_ms j_X11_isDay 1 := ⟨⟨rf_mem 18 (by decide +kernel), rf_mem 0 (by decide +kernel), rf_mem 18 (by decide +kernel)⟩, by decide +kernel, by decide⟩
def g_X11_isDay (w : rf_w) (m : rf_m) (a0 : Int32) : Option (Int32 × rf_m) := rf_b (g_X11_isWithin w m a0 0 9999) fun y0 m0 => rf_g (rf_01 y0) (some (y0, m0))
theorem c_X11_isDay {w : rf_w} {m : rf_m} {a0 : Int32} {r : Int32 × rf_m} (hg : g_X11_isDay w m a0 = some r) : rf_Con j_X11_isDay 2 (rf_sh w) [.int a0] (rf_MM w m) (some (.int r.1)) (rf_MM w r.2) := by
  refine rf_con j_X11_isDay 2 ⟨by decide +kernel, rfl, Nat.le_of_ble_eq_true rfl⟩ (fun K C hE => ?_)
  unfold g_X11_isDay at hg
  show rf_V 1 (rf_sh w) K 0 0 0 ([(0, .int a0)], [], rf_MM w m)
  refine rf_seg C [(.iload 0, 1), (.iconst 0, 1), (.iconst 9999, 3)] (pc' := 5) (S' := ([(0, .int a0)], [.int 9999, .int 0, .int a0], rf_MM w m)) (by decide +kernel) rfl trivial ?_
  obtain ⟨y0, m0, hc0, hg⟩ := rf_b_some hg
  refine rf_calls C rf_fit0 j_X11_isWithin (As := [.int a0, .int 0, .int 9999]) (rest := []) mw_X11_isWithin (c_X11_isWithin hc0) (by decide) lk_11_91 rfl rfl (Nat.le_of_ble_eq_true rfl) (by decide +kernel) ?_
  show rf_V 1 (rf_sh w) K 0 0 8 ([(0, .int a0)], [.int y0], rf_MM w m0)
  obtain ⟨q01, hg⟩ := rf_g_some hg
  obtain rfl := Option.some.inj hg
  exact rf_zret C hE (rf_01_of q01) (by decide +kernel)
-- X11_isHour
abbrev j_X11_isHour : rf_J := (11, yX11_isHour, cX11_isHour, 1, (some .boolean))
theorem mw_X11_isHour : rf_ms j_X11_isHour 1 := ⟨⟨rf_mem 18 (by decide +kernel), rf_mem 0 (by decide +kernel), rf_mem 18 (by decide +kernel)⟩, by decide +kernel, by decide⟩
def g_X11_isHour (w : rf_w) (m : rf_m) (a0 : Int32) : Option (Int32 × rf_m) := rf_b (g_X11_isWithin w m a0 0 23) fun y0 m0 => rf_g (rf_01 y0) (some (y0, m0))
theorem c_X11_isHour {w : rf_w} {m : rf_m} {a0 : Int32} {r : Int32 × rf_m} (hg : g_X11_isHour w m a0 = some r) : rf_Con j_X11_isHour 2 (rf_sh w) [.int a0] (rf_MM w m) (some (.int r.1)) (rf_MM w r.2) := by
  refine rf_con j_X11_isHour 2 ⟨by decide +kernel, rfl, Nat.le_of_ble_eq_true rfl⟩ (fun K C hE => ?_)
  unfold g_X11_isHour at hg
  show rf_V 1 (rf_sh w) K 0 0 0 ([(0, .int a0)], [], rf_MM w m)
  refine rf_seg C [(.iload 0, 1), (.iconst 0, 1), (.iconst 23, 2)] (pc' := 4) (S' := ([(0, .int a0)], [.int 23, .int 0, .int a0], rf_MM w m)) (by decide +kernel) rfl trivial ?_
  obtain ⟨y0, m0, hc0, hg⟩ := rf_b_some hg
  refine rf_calls C rf_fit0 j_X11_isWithin (As := [.int a0, .int 0, .int 23]) (rest := []) mw_X11_isWithin (c_X11_isWithin hc0) (by decide) lk_11_91 rfl rfl (Nat.le_of_ble_eq_true rfl) (by decide +kernel) ?_
  show rf_V 1 (rf_sh w) K 0 0 7 ([(0, .int a0)], [.int y0], rf_MM w m0)
  obtain ⟨q01, hg⟩ := rf_g_some hg
  obtain rfl := Option.some.inj hg
  exact rf_zret C hE (rf_01_of q01) (by decide +kernel)
-- X11_haze
abbrev j_X11_haze : rf_J := (11, yX11_haze, cX11_haze, 4, (some .boolean))
theorem mw_X11_haze : rf_mv j_X11_haze (rf_R 11) 3 := ⟨⟨rf_mem 18 (by decide +kernel), rf_mem 18 (by decide +kernel), rf_mem 0 (by decide +kernel), rf_mem 18 (by decide +kernel)⟩, by decide +kernel, by decide⟩
def g_X11_haze (w : rf_w) (m : rf_m) (a1 : Int32) (a2 : Int32) (a3 : Int32) : Option (Int32 × rf_m) := rf_b (g_X11_isDay w m a1) fun y0 m0 => (if y0 = 0 then rf_b (g_X11_denied w m0 2) fun y1 m1 => rf_g (rf_01 y1) (some (y1, m1)) else rf_b (g_X11_isHour w m0 a2) fun y2 m2 => (if y2 = 0 then rf_b (g_X11_denied w m2 2) fun y3 m3 => rf_g (rf_01 y3) (some (y3, m3)) else rf_b (g_X11_isWithin w m2 a3 0 32) fun y4 m4 => (if y4 = 0 then rf_b (g_X11_denied w m4 2) fun y8 m8 => rf_g (rf_01 y8) (some (y8, m8)) else rf_b (g_X5_setReach w m4 a1 a2 a3) fun y5 m5 => (if y5 = 0 then rf_b (g_X11_denied w m5 3) fun y6 m6 => rf_g (rf_01 y6) (some (y6, m6)) else rf_b (g_X11_granted w m5) fun y7 m7 => rf_g (rf_01 y7) (some (y7, m7))))))
theorem c_X11_haze {w : rf_w} {m : rf_m} {a1 : Int32} {a2 : Int32} {a3 : Int32} {r : Int32 × rf_m} (hg : g_X11_haze w m a1 a2 a3 = some r) : rf_Con j_X11_haze 3 (rf_sh w) [.ref 0, .int a1, .int a2, .int a3] (rf_MM w m) (some (.int r.1)) (rf_MM w r.2) := by
  refine rf_con j_X11_haze 3 ⟨by decide +kernel, rfl, Nat.le_of_ble_eq_true rfl⟩ (fun K C hE => ?_)
  unfold g_X11_haze at hg
  show rf_V 4 (rf_sh w) K 0 0 0 ([(0, .ref 0), (1, .int a1), (2, .int a2), (3, .int a3)], [], rf_MM w m)
  refine rf_seg C [(.iload 1, 1)] (pc' := 1) (S' := ([(0, .ref 0), (1, .int a1), (2, .int a2), (3, .int a3)], [.int a1], rf_MM w m)) (by decide +kernel) rfl trivial ?_
  obtain ⟨y0, m0, hc0, hg⟩ := rf_b_some hg
  refine rf_calls C rf_fit0 j_X11_isDay (As := [.int a1]) (rest := []) mw_X11_isDay (c_X11_isDay hc0) (by decide) lk_11_136 rfl rfl (Nat.le_of_ble_eq_true rfl) (by decide +kernel) ?_
  show rf_V 4 (rf_sh w) K 0 0 4 ([(0, .ref 0), (1, .int a1), (2, .int a2), (3, .int a3)], [.int y0], rf_MM w m0)
  refine rf_if_eq C 20 24 (by decide +kernel) (fun hc => ?_) (fun hc => ?_)
  · replace hg := (if_pos hc).symm.trans hg
    refine rf_seg C [(.aload 0, 1), (.iconst 2, 1)] (pc' := 26) (S' := ([(0, .ref 0), (1, .int a1), (2, .int a2), (3, .int a3)], [.int 2, .ref 0], rf_MM w m0)) (by decide +kernel) rfl trivial ?_
    obtain ⟨y1, m1, hc1, hg⟩ := rf_b_some hg
    refine rf_callv C rf_fit0 j_X11_denied (ci := 11) (As := [.int 2]) (rest := []) mw_X11_denied (c_X11_denied hc1) (by decide) rfl (by decide) lk_11_88 rfl rfl (Nat.le_of_ble_eq_true rfl) (by decide +kernel) ?_
    show rf_V 4 (rf_sh w) K 0 0 29 ([(0, .ref 0), (1, .int a1), (2, .int a2), (3, .int a3)], [.int y1], rf_MM w m1)
    obtain ⟨q01, hg⟩ := rf_g_some hg
    obtain rfl := Option.some.inj hg
    exact rf_zret C hE (rf_01_of q01) (by decide +kernel)
  · replace hg := (if_neg hc).symm.trans hg
    refine rf_seg C [(.iload 2, 1)] (pc' := 8) (S' := ([(0, .ref 0), (1, .int a1), (2, .int a2), (3, .int a3)], [.int a2], rf_MM w m0)) (by decide +kernel) rfl trivial ?_
    obtain ⟨y2, m2, hc2, hg⟩ := rf_b_some hg
    refine rf_calls C rf_fit0 j_X11_isHour (As := [.int a2]) (rest := []) mw_X11_isHour (c_X11_isHour hc2) (by decide) lk_11_139 rfl rfl (Nat.le_of_ble_eq_true rfl) (by decide +kernel) ?_
    show rf_V 4 (rf_sh w) K 0 0 11 ([(0, .ref 0), (1, .int a1), (2, .int a2), (3, .int a3)], [.int y2], rf_MM w m2)
    refine rf_if_eq C 13 24 (by decide +kernel) (fun hc => ?_) (fun hc => ?_)
    · replace hg := (if_pos hc).symm.trans hg
      refine rf_seg C [(.aload 0, 1), (.iconst 2, 1)] (pc' := 26) (S' := ([(0, .ref 0), (1, .int a1), (2, .int a2), (3, .int a3)], [.int 2, .ref 0], rf_MM w m2)) (by decide +kernel) rfl trivial ?_
      obtain ⟨y3, m3, hc3, hg⟩ := rf_b_some hg
      refine rf_callv C rf_fit0 j_X11_denied (ci := 11) (As := [.int 2]) (rest := []) mw_X11_denied (c_X11_denied hc3) (by decide) rfl (by decide) lk_11_88 rfl rfl (Nat.le_of_ble_eq_true rfl) (by decide +kernel) ?_
      show rf_V 4 (rf_sh w) K 0 0 29 ([(0, .ref 0), (1, .int a1), (2, .int a2), (3, .int a3)], [.int y3], rf_MM w m3)
      obtain ⟨q01, hg⟩ := rf_g_some hg
      obtain rfl := Option.some.inj hg
      exact rf_zret C hE (rf_01_of q01) (by decide +kernel)
    · replace hg := (if_neg hc).symm.trans hg
      refine rf_seg C [(.iload 3, 1), (.iconst 0, 1), (.iconst 32, 2)] (pc' := 18) (S' := ([(0, .ref 0), (1, .int a1), (2, .int a2), (3, .int a3)], [.int 32, .int 0, .int a3], rf_MM w m2)) (by decide +kernel) rfl trivial ?_
      obtain ⟨y4, m4, hc4, hg⟩ := rf_b_some hg
      refine rf_calls C rf_fit0 j_X11_isWithin (As := [.int a3, .int 0, .int 32]) (rest := []) mw_X11_isWithin (c_X11_isWithin hc4) (by decide) lk_11_91 rfl rfl (Nat.le_of_ble_eq_true rfl) (by decide +kernel) ?_
      show rf_V 4 (rf_sh w) K 0 0 21 ([(0, .ref 0), (1, .int a1), (2, .int a2), (3, .int a3)], [.int y4], rf_MM w m4)
      refine rf_if_ne C 9 30 (by decide +kernel) (fun hc => ?_) (fun hc => ?_)
      · replace hg := (if_neg hc).symm.trans hg
        refine rf_seg C [(.aload 0, 1), (.invokeinterface 11 0, 3), (.iload 1, 1), (.iload 2, 1), (.iload 3, 1)] (pc' := 37) (S' := ([(0, .ref 0), (1, .int a1), (2, .int a2), (3, .int a3)], [.int a3, .int a2, .int a1, .ref 1], rf_MM w m4)) (by decide +kernel) rfl trivial ?_
        obtain ⟨y5, m5, hc5, hg⟩ := rf_b_some hg
        refine rf_callv C rf_fit0 j_X5_setReach (ci := 5) (As := [.int a1, .int a2, .int a3]) (rest := []) mw_X5_setReach (c_X5_setReach hc5) (by decide) rfl (by decide) lk_11_142 rfl rfl (Nat.le_of_ble_eq_true rfl) (by decide +kernel) ?_
        show rf_V 4 (rf_sh w) K 0 0 40 ([(0, .ref 0), (1, .int a1), (2, .int a2), (3, .int a3)], [.int y5], rf_MM w m5)
        refine rf_if_eq C 10 50 (by decide +kernel) (fun hc => ?_) (fun hc => ?_)
        · replace hg := (if_pos hc).symm.trans hg
          refine rf_seg C [(.aload 0, 1), (.iconst 3, 1)] (pc' := 52) (S' := ([(0, .ref 0), (1, .int a1), (2, .int a2), (3, .int a3)], [.int 3, .ref 0], rf_MM w m5)) (by decide +kernel) rfl trivial ?_
          obtain ⟨y6, m6, hc6, hg⟩ := rf_b_some hg
          refine rf_callv C rf_fit0 j_X11_denied (ci := 11) (As := [.int 3]) (rest := []) mw_X11_denied (c_X11_denied hc6) (by decide) rfl (by decide) lk_11_88 rfl rfl (Nat.le_of_ble_eq_true rfl) (by decide +kernel) ?_
          show rf_V 4 (rf_sh w) K 0 0 55 ([(0, .ref 0), (1, .int a1), (2, .int a2), (3, .int a3)], [.int y6], rf_MM w m6)
          obtain ⟨q01, hg⟩ := rf_g_some hg
          obtain rfl := Option.some.inj hg
          exact rf_zret C hE (rf_01_of q01) (by decide +kernel)
        · replace hg := (if_neg hc).symm.trans hg
          refine rf_seg C [(.aload 0, 1)] (pc' := 44) (S' := ([(0, .ref 0), (1, .int a1), (2, .int a2), (3, .int a3)], [.ref 0], rf_MM w m5)) (by decide +kernel) rfl trivial ?_
          obtain ⟨y7, m7, hc7, hg⟩ := rf_b_some hg
          refine rf_callv C rf_fit0 j_X11_granted (ci := 11) (As := []) (rest := []) mw_X11_granted (c_X11_granted hc7) (by decide) rfl (by decide) lk_11_101 rfl rfl (Nat.le_of_ble_eq_true rfl) (by decide +kernel) ?_
          show rf_V 4 (rf_sh w) K 0 0 47 ([(0, .ref 0), (1, .int a1), (2, .int a2), (3, .int a3)], [.int y7], rf_MM w m7)
          refine rf_goto C 8 55 (by decide +kernel) ?_
          obtain ⟨q01, hg⟩ := rf_g_some hg
          obtain rfl := Option.some.inj hg
          exact rf_zret C hE (rf_01_of q01) (by decide +kernel)
      · replace hg := (if_pos hc).symm.trans hg
        refine rf_seg C [(.aload 0, 1), (.iconst 2, 1)] (pc' := 26) (S' := ([(0, .ref 0), (1, .int a1), (2, .int a2), (3, .int a3)], [.int 2, .ref 0], rf_MM w m4)) (by decide +kernel) rfl trivial ?_
        obtain ⟨y8, m8, hc8, hg⟩ := rf_b_some hg
        refine rf_callv C rf_fit0 j_X11_denied (ci := 11) (As := [.int 2]) (rest := []) mw_X11_denied (c_X11_denied hc8) (by decide) rfl (by decide) lk_11_88 rfl rfl (Nat.le_of_ble_eq_true rfl) (by decide +kernel) ?_
        show rf_V 4 (rf_sh w) K 0 0 29 ([(0, .ref 0), (1, .int a1), (2, .int a2), (3, .int a3)], [.int y8], rf_MM w m8)
        obtain ⟨q01, hg⟩ := rf_g_some hg
        obtain rfl := Option.some.inj hg
        exact rf_zret C hE (rf_01_of q01) (by decide +kernel)
-- X11_see
abbrev j_X11_see : rf_J := (11, yX11_see, cX11_see, 5, (some .int))
theorem mw_X11_see : rf_mv j_X11_see (rf_R 11) 4 := ⟨⟨rf_mem 19 (by decide +kernel), rf_mem 19 (by decide +kernel), rf_mem 0 (by decide +kernel), rf_mem 19 (by decide +kernel)⟩, by decide +kernel, by decide⟩
def g_X11_see (w : rf_w) (m : rf_m) (a1 : Int32) (a2 : Int32) (a3 : Int32) (a4 : Int32) : Option (Int32 × rf_m) := rf_b (g_X5_isPair w m a1 a2) fun y0 m0 => (if y0 = 0 then some ((-1), m0) else rf_b (g_X11_isDay w m0 a3) fun y1 m1 => (if y1 = 0 then some ((-1), m1) else rf_b (g_X11_isHour w m1 a4) fun y2 m2 => (if y2 = 0 then some ((-1), m2) else rf_b (g_X5_lookOver w m2 a1 a2 a3 a4) fun y3 m3 => some (y3, m3))))
theorem c_X11_see {w : rf_w} {m : rf_m} {a1 : Int32} {a2 : Int32} {a3 : Int32} {a4 : Int32} {r : Int32 × rf_m} (hg : g_X11_see w m a1 a2 a3 a4 = some r) : rf_Con j_X11_see 4 (rf_sh w) [.ref 0, .int a1, .int a2, .int a3, .int a4] (rf_MM w m) (some (.int r.1)) (rf_MM w r.2) := by
  refine rf_con j_X11_see 4 ⟨by decide +kernel, rfl, Nat.le_of_ble_eq_true rfl⟩ (fun K C hE => ?_)
  unfold g_X11_see at hg
  show rf_V 5 (rf_sh w) K 0 0 0 ([(0, .ref 0), (1, .int a1), (2, .int a2), (3, .int a3), (4, .int a4)], [], rf_MM w m)
  refine rf_seg C [(.aload 0, 1), (.invokeinterface 11 0, 3), (.iload 1, 1), (.iload 2, 1)] (pc' := 6) (S' := ([(0, .ref 0), (1, .int a1), (2, .int a2), (3, .int a3), (4, .int a4)], [.int a2, .int a1, .ref 1], rf_MM w m)) (by decide +kernel) rfl trivial ?_
  obtain ⟨y0, m0, hc0, hg⟩ := rf_b_some hg
  refine rf_callv C rf_fit0 j_X5_isPair (ci := 5) (As := [.int a1, .int a2]) (rest := []) mw_X5_isPair (c_X5_isPair hc0) (by decide) rfl (by decide) lk_11_145 rfl rfl (Nat.le_of_ble_eq_true rfl) (by decide +kernel) ?_
  show rf_V 5 (rf_sh w) K 0 0 9 ([(0, .ref 0), (1, .int a1), (2, .int a2), (3, .int a3), (4, .int a4)], [.int y0], rf_MM w m0)
  refine rf_if_eq C 18 27 (by decide +kernel) (fun hc => ?_) (fun hc => ?_)
  · replace hg := (if_pos hc).symm.trans hg
    refine rf_seg C [(.iconst (-1), 1)] (pc' := 28) (S' := ([(0, .ref 0), (1, .int a1), (2, .int a2), (3, .int a3), (4, .int a4)], [.int ((-1))], rf_MM w m0)) (by decide +kernel) rfl trivial ?_
    obtain rfl := Option.some.inj hg
    exact rf_iret C hE (by decide +kernel)
  · replace hg := (if_neg hc).symm.trans hg
    refine rf_seg C [(.iload 3, 1)] (pc' := 13) (S' := ([(0, .ref 0), (1, .int a1), (2, .int a2), (3, .int a3), (4, .int a4)], [.int a3], rf_MM w m0)) (by decide +kernel) rfl trivial ?_
    obtain ⟨y1, m1, hc1, hg⟩ := rf_b_some hg
    refine rf_calls C rf_fit0 j_X11_isDay (As := [.int a3]) (rest := []) mw_X11_isDay (c_X11_isDay hc1) (by decide) lk_11_136 rfl rfl (Nat.le_of_ble_eq_true rfl) (by decide +kernel) ?_
    show rf_V 5 (rf_sh w) K 0 0 16 ([(0, .ref 0), (1, .int a1), (2, .int a2), (3, .int a3), (4, .int a4)], [.int y1], rf_MM w m1)
    refine rf_if_eq C 11 27 (by decide +kernel) (fun hc => ?_) (fun hc => ?_)
    · replace hg := (if_pos hc).symm.trans hg
      refine rf_seg C [(.iconst (-1), 1)] (pc' := 28) (S' := ([(0, .ref 0), (1, .int a1), (2, .int a2), (3, .int a3), (4, .int a4)], [.int ((-1))], rf_MM w m1)) (by decide +kernel) rfl trivial ?_
      obtain rfl := Option.some.inj hg
      exact rf_iret C hE (by decide +kernel)
    · replace hg := (if_neg hc).symm.trans hg
      refine rf_seg C [(.iload 4, 2)] (pc' := 21) (S' := ([(0, .ref 0), (1, .int a1), (2, .int a2), (3, .int a3), (4, .int a4)], [.int a4], rf_MM w m1)) (by decide +kernel) rfl trivial ?_
      obtain ⟨y2, m2, hc2, hg⟩ := rf_b_some hg
      refine rf_calls C rf_fit0 j_X11_isHour (As := [.int a4]) (rest := []) mw_X11_isHour (c_X11_isHour hc2) (by decide) lk_11_139 rfl rfl (Nat.le_of_ble_eq_true rfl) (by decide +kernel) ?_
      show rf_V 5 (rf_sh w) K 0 0 24 ([(0, .ref 0), (1, .int a1), (2, .int a2), (3, .int a3), (4, .int a4)], [.int y2], rf_MM w m2)
      refine rf_if_ne C 5 29 (by decide +kernel) (fun hc => ?_) (fun hc => ?_)
      · replace hg := (if_neg hc).symm.trans hg
        refine rf_seg C [(.aload 0, 1), (.invokeinterface 11 0, 3), (.iload 1, 1), (.iload 2, 1), (.iload 3, 1), (.iload 4, 2)] (pc' := 38) (S' := ([(0, .ref 0), (1, .int a1), (2, .int a2), (3, .int a3), (4, .int a4)], [.int a4, .int a3, .int a2, .int a1, .ref 1], rf_MM w m2)) (by decide +kernel) rfl trivial ?_
        obtain ⟨y3, m3, hc3, hg⟩ := rf_b_some hg
        refine rf_callv C rf_fit0 j_X5_lookOver (ci := 5) (As := [.int a1, .int a2, .int a3, .int a4]) (rest := []) mw_X5_lookOver (c_X5_lookOver hc3) (by decide) rfl (by decide) lk_11_149 rfl rfl (Nat.le_of_ble_eq_true rfl) (by decide +kernel) ?_
        show rf_V 5 (rf_sh w) K 0 0 41 ([(0, .ref 0), (1, .int a1), (2, .int a2), (3, .int a3), (4, .int a4)], [.int y3], rf_MM w m3)
        obtain rfl := Option.some.inj hg
        exact rf_iret C hE (by decide +kernel)
      · replace hg := (if_pos hc).symm.trans hg
        refine rf_seg C [(.iconst (-1), 1)] (pc' := 28) (S' := ([(0, .ref 0), (1, .int a1), (2, .int a2), (3, .int a3), (4, .int a4)], [.int ((-1))], rf_MM w m2)) (by decide +kernel) rfl trivial ?_
        obtain rfl := Option.some.inj hg
        exact rf_iret C hE (by decide +kernel)
-- X11_party
abbrev j_X11_party : rf_J := (11, yX11_party, cX11_party, 2, (some .int))
theorem mw_X11_party : rf_mv j_X11_party (rf_R 11) 1 := ⟨⟨rf_mem 21 (by decide +kernel), rf_mem 21 (by decide +kernel), rf_mem 0 (by decide +kernel), rf_mem 21 (by decide +kernel)⟩, by decide +kernel, by decide⟩
def g_X11_party (w : rf_w) (m : rf_m) (a1 : Int32) : Option (Int32 × rf_m) := (if (m.1 26 5) < 8 then rf_b (g_X3_addParty w m a1) fun y0 m0 => rf_b (g_X11_answered w m0 y0) fun y1 m1 => some (y1, m1) else rf_b (g_X11_refused w m 3) fun y2 m2 => some (y2, m2))
theorem c_X11_party {w : rf_w} {m : rf_m} {a1 : Int32} {r : Int32 × rf_m} (hg : g_X11_party w m a1 = some r) : rf_Con j_X11_party 2 (rf_sh w) [.ref 0, .int a1] (rf_MM w m) (some (.int r.1)) (rf_MM w r.2) := by
  refine rf_con j_X11_party 2 ⟨by decide +kernel, rfl, Nat.le_of_ble_eq_true rfl⟩ (fun K C hE => ?_)
  unfold g_X11_party at hg
  show rf_V 2 (rf_sh w) K 0 0 0 ([(0, .ref 0), (1, .int a1)], [], rf_MM w m)
  refine rf_seg C [(.aload 0, 1), (.invokeinterface 11 2, 3), (.invokeinterface 3 5, 3), (.iconst 8, 2)] (pc' := 9) (S' := ([(0, .ref 0), (1, .int a1)], [.int 8, .int (m.1 26 5)], rf_MM w m)) (by decide +kernel) rfl trivial ?_
  refine rf_icmp_lt C 11 20 (by decide +kernel) (fun hc => ?_) (fun hc => ?_)
  · replace hg := (if_pos hc).symm.trans hg
    refine rf_seg C [(.aload 0, 1), (.aload 0, 1), (.invokeinterface 11 2, 3), (.iload 1, 1)] (pc' := 26) (S' := ([(0, .ref 0), (1, .int a1)], [.int a1, .ref 26, .ref 0], rf_MM w m)) (by decide +kernel) rfl trivial ?_
    obtain ⟨y0, m0, hc0, hg⟩ := rf_b_some hg
    refine rf_callv C rf_fit0 j_X3_addParty (ci := 3) (As := [.int a1]) (rest := [.ref 0]) mw_X3_addParty (c_X3_addParty hc0) (by decide) rfl (by decide) lk_11_156 rfl rfl (Nat.le_of_ble_eq_true rfl) (by decide +kernel) ?_
    show rf_V 2 (rf_sh w) K 0 0 29 ([(0, .ref 0), (1, .int a1)], [.int y0, .ref 0], rf_MM w m0)
    obtain ⟨y1, m1, hc1, hg⟩ := rf_b_some hg
    refine rf_callv C rf_fit0 j_X11_answered (ci := 11) (As := [.int y0]) (rest := []) mw_X11_answered (c_X11_answered hc1) (by decide) rfl (by decide) lk_11_119 rfl rfl (Nat.le_of_ble_eq_true rfl) (by decide +kernel) ?_
    show rf_V 2 (rf_sh w) K 0 0 32 ([(0, .ref 0), (1, .int a1)], [.int y1], rf_MM w m1)
    obtain rfl := Option.some.inj hg
    exact rf_iret C hE (by decide +kernel)
  · replace hg := (if_neg hc).symm.trans hg
    refine rf_seg C [(.aload 0, 1), (.iconst 3, 1)] (pc' := 14) (S' := ([(0, .ref 0), (1, .int a1)], [.int 3, .ref 0], rf_MM w m)) (by decide +kernel) rfl trivial ?_
    obtain ⟨y2, m2, hc2, hg⟩ := rf_b_some hg
    refine rf_callv C rf_fit0 j_X11_refused (ci := 11) (As := [.int 3]) (rest := []) mw_X11_refused (c_X11_refused hc2) (by decide) rfl (by decide) lk_11_105 rfl rfl (Nat.le_of_ble_eq_true rfl) (by decide +kernel) ?_
    show rf_V 2 (rf_sh w) K 0 0 17 ([(0, .ref 0), (1, .int a1)], [.int y2], rf_MM w m2)
    refine rf_goto C 15 32 (by decide +kernel) ?_
    obtain rfl := Option.some.inj hg
    exact rf_iret C hE (by decide +kernel)
-- X11_angle
abbrev j_X11_angle : rf_J := (11, yX11_angle, cX11_angle, 4, (some .int))
theorem mw_X11_angle : rf_mv j_X11_angle (rf_R 11) 3 := ⟨⟨rf_mem 22 (by decide +kernel), rf_mem 22 (by decide +kernel), rf_mem 0 (by decide +kernel), rf_mem 22 (by decide +kernel)⟩, by decide +kernel, by decide⟩
def g_X11_angle (w : rf_w) (m : rf_m) (a1 : Int32) (a2 : Int32) (a3 : Int32) : Option (Int32 × rf_m) := rf_b (g_X5_isMark w m a1) fun y0 m0 => (if y0 = 0 then rf_b (g_X11_refused w m0 1) fun y1 m1 => some (y1, m1) else rf_b (g_X5_isMark w m0 a2) fun y2 m2 => (if y2 = 0 then rf_b (g_X11_refused w m2 1) fun y3 m3 => some (y3, m3) else rf_b (g_X5_isMark w m2 a3) fun y4 m4 => (if y4 = 0 then rf_b (g_X11_refused w m4 1) fun y11 m11 => some (y11, m11) else (if a1 = a2 then rf_b (g_X11_refused w m4 5) fun y5 m5 => some (y5, m5) else (if a1 = a3 then rf_b (g_X11_refused w m4 5) fun y6 m6 => some (y6, m6) else (if a2 = a3 then rf_b (g_X11_refused w m4 5) fun y10 m10 => some (y10, m10) else (if (m4.1 26 6) < 80 then rf_b (g_X3_addAngle w m4 a1 a2 a3) fun y7 m7 => rf_b (g_X11_answered w m7 y7) fun y8 m8 => some (y8, m8) else rf_b (g_X11_refused w m4 3) fun y9 m9 => some (y9, m9))))))))
theorem c_X11_angle {w : rf_w} {m : rf_m} {a1 : Int32} {a2 : Int32} {a3 : Int32} {r : Int32 × rf_m} (hg : g_X11_angle w m a1 a2 a3 = some r) : rf_Con j_X11_angle 3 (rf_sh w) [.ref 0, .int a1, .int a2, .int a3] (rf_MM w m) (some (.int r.1)) (rf_MM w r.2) := by
  refine rf_con j_X11_angle 3 ⟨by decide +kernel, rfl, Nat.le_of_ble_eq_true rfl⟩ (fun K C hE => ?_)
  unfold g_X11_angle at hg
  show rf_V 4 (rf_sh w) K 0 0 0 ([(0, .ref 0), (1, .int a1), (2, .int a2), (3, .int a3)], [], rf_MM w m)
  refine rf_seg C [(.aload 0, 1), (.invokeinterface 11 0, 3), (.iload 1, 1)] (pc' := 5) (S' := ([(0, .ref 0), (1, .int a1), (2, .int a2), (3, .int a3)], [.int a1, .ref 1], rf_MM w m)) (by decide +kernel) rfl trivial ?_
  obtain ⟨y0, m0, hc0, hg⟩ := rf_b_some hg
  refine rf_callv C rf_fit0 j_X5_isMark (ci := 5) (As := [.int a1]) (rest := []) mw_X5_isMark (c_X5_isMark hc0) (by decide) rfl (by decide) lk_11_122 rfl rfl (Nat.le_of_ble_eq_true rfl) (by decide +kernel) ?_
  show rf_V 4 (rf_sh w) K 0 0 8 ([(0, .ref 0), (1, .int a1), (2, .int a2), (3, .int a3)], [.int y0], rf_MM w m0)
  refine rf_if_eq C 25 33 (by decide +kernel) (fun hc => ?_) (fun hc => ?_)
  · replace hg := (if_pos hc).symm.trans hg
    refine rf_seg C [(.aload 0, 1), (.iconst 1, 1)] (pc' := 35) (S' := ([(0, .ref 0), (1, .int a1), (2, .int a2), (3, .int a3)], [.int 1, .ref 0], rf_MM w m0)) (by decide +kernel) rfl trivial ?_
    obtain ⟨y1, m1, hc1, hg⟩ := rf_b_some hg
    refine rf_callv C rf_fit0 j_X11_refused (ci := 11) (As := [.int 1]) (rest := []) mw_X11_refused (c_X11_refused hc1) (by decide) rfl (by decide) lk_11_105 rfl rfl (Nat.le_of_ble_eq_true rfl) (by decide +kernel) ?_
    show rf_V 4 (rf_sh w) K 0 0 38 ([(0, .ref 0), (1, .int a1), (2, .int a2), (3, .int a3)], [.int y1], rf_MM w m1)
    obtain rfl := Option.some.inj hg
    exact rf_iret C hE (by decide +kernel)
  · replace hg := (if_neg hc).symm.trans hg
    refine rf_seg C [(.aload 0, 1), (.invokeinterface 11 0, 3), (.iload 2, 1)] (pc' := 16) (S' := ([(0, .ref 0), (1, .int a1), (2, .int a2), (3, .int a3)], [.int a2, .ref 1], rf_MM w m0)) (by decide +kernel) rfl trivial ?_
    obtain ⟨y2, m2, hc2, hg⟩ := rf_b_some hg
    refine rf_callv C rf_fit0 j_X5_isMark (ci := 5) (As := [.int a2]) (rest := []) mw_X5_isMark (c_X5_isMark hc2) (by decide) rfl (by decide) lk_11_122 rfl rfl (Nat.le_of_ble_eq_true rfl) (by decide +kernel) ?_
    show rf_V 4 (rf_sh w) K 0 0 19 ([(0, .ref 0), (1, .int a1), (2, .int a2), (3, .int a3)], [.int y2], rf_MM w m2)
    refine rf_if_eq C 14 33 (by decide +kernel) (fun hc => ?_) (fun hc => ?_)
    · replace hg := (if_pos hc).symm.trans hg
      refine rf_seg C [(.aload 0, 1), (.iconst 1, 1)] (pc' := 35) (S' := ([(0, .ref 0), (1, .int a1), (2, .int a2), (3, .int a3)], [.int 1, .ref 0], rf_MM w m2)) (by decide +kernel) rfl trivial ?_
      obtain ⟨y3, m3, hc3, hg⟩ := rf_b_some hg
      refine rf_callv C rf_fit0 j_X11_refused (ci := 11) (As := [.int 1]) (rest := []) mw_X11_refused (c_X11_refused hc3) (by decide) rfl (by decide) lk_11_105 rfl rfl (Nat.le_of_ble_eq_true rfl) (by decide +kernel) ?_
      show rf_V 4 (rf_sh w) K 0 0 38 ([(0, .ref 0), (1, .int a1), (2, .int a2), (3, .int a3)], [.int y3], rf_MM w m3)
      obtain rfl := Option.some.inj hg
      exact rf_iret C hE (by decide +kernel)
    · replace hg := (if_neg hc).symm.trans hg
      refine rf_seg C [(.aload 0, 1), (.invokeinterface 11 0, 3), (.iload 3, 1)] (pc' := 27) (S' := ([(0, .ref 0), (1, .int a1), (2, .int a2), (3, .int a3)], [.int a3, .ref 1], rf_MM w m2)) (by decide +kernel) rfl trivial ?_
      obtain ⟨y4, m4, hc4, hg⟩ := rf_b_some hg
      refine rf_callv C rf_fit0 j_X5_isMark (ci := 5) (As := [.int a3]) (rest := []) mw_X5_isMark (c_X5_isMark hc4) (by decide) rfl (by decide) lk_11_122 rfl rfl (Nat.le_of_ble_eq_true rfl) (by decide +kernel) ?_
      show rf_V 4 (rf_sh w) K 0 0 30 ([(0, .ref 0), (1, .int a1), (2, .int a2), (3, .int a3)], [.int y4], rf_MM w m4)
      refine rf_if_ne C 9 39 (by decide +kernel) (fun hc => ?_) (fun hc => ?_)
      · replace hg := (if_neg hc).symm.trans hg
        refine rf_seg C [(.iload 1, 1), (.iload 2, 1)] (pc' := 41) (S' := ([(0, .ref 0), (1, .int a1), (2, .int a2), (3, .int a3)], [.int a2, .int a1], rf_MM w m4)) (by decide +kernel) rfl trivial ?_
        refine rf_icmp_eq C 13 54 (by decide +kernel) (fun hc => ?_) (fun hc => ?_)
        · replace hg := (if_pos hc).symm.trans hg
          refine rf_seg C [(.aload 0, 1), (.iconst 5, 1)] (pc' := 56) (S' := ([(0, .ref 0), (1, .int a1), (2, .int a2), (3, .int a3)], [.int 5, .ref 0], rf_MM w m4)) (by decide +kernel) rfl trivial ?_
          obtain ⟨y5, m5, hc5, hg⟩ := rf_b_some hg
          refine rf_callv C rf_fit0 j_X11_refused (ci := 11) (As := [.int 5]) (rest := []) mw_X11_refused (c_X11_refused hc5) (by decide) rfl (by decide) lk_11_105 rfl rfl (Nat.le_of_ble_eq_true rfl) (by decide +kernel) ?_
          show rf_V 4 (rf_sh w) K 0 0 59 ([(0, .ref 0), (1, .int a1), (2, .int a2), (3, .int a3)], [.int y5], rf_MM w m5)
          obtain rfl := Option.some.inj hg
          exact rf_iret C hE (by decide +kernel)
        · replace hg := (if_neg hc).symm.trans hg
          refine rf_seg C [(.iload 1, 1), (.iload 3, 1)] (pc' := 46) (S' := ([(0, .ref 0), (1, .int a1), (2, .int a2), (3, .int a3)], [.int a3, .int a1], rf_MM w m4)) (by decide +kernel) rfl trivial ?_
          refine rf_icmp_eq C 8 54 (by decide +kernel) (fun hc => ?_) (fun hc => ?_)
          · replace hg := (if_pos hc).symm.trans hg
            refine rf_seg C [(.aload 0, 1), (.iconst 5, 1)] (pc' := 56) (S' := ([(0, .ref 0), (1, .int a1), (2, .int a2), (3, .int a3)], [.int 5, .ref 0], rf_MM w m4)) (by decide +kernel) rfl trivial ?_
            obtain ⟨y6, m6, hc6, hg⟩ := rf_b_some hg
            refine rf_callv C rf_fit0 j_X11_refused (ci := 11) (As := [.int 5]) (rest := []) mw_X11_refused (c_X11_refused hc6) (by decide) rfl (by decide) lk_11_105 rfl rfl (Nat.le_of_ble_eq_true rfl) (by decide +kernel) ?_
            show rf_V 4 (rf_sh w) K 0 0 59 ([(0, .ref 0), (1, .int a1), (2, .int a2), (3, .int a3)], [.int y6], rf_MM w m6)
            obtain rfl := Option.some.inj hg
            exact rf_iret C hE (by decide +kernel)
          · replace hg := (if_neg hc).symm.trans hg
            refine rf_seg C [(.iload 2, 1), (.iload 3, 1)] (pc' := 51) (S' := ([(0, .ref 0), (1, .int a1), (2, .int a2), (3, .int a3)], [.int a3, .int a2], rf_MM w m4)) (by decide +kernel) rfl trivial ?_
            refine rf_icmp_ne C 9 60 (by decide +kernel) (fun hc => ?_) (fun hc => ?_)
            · replace hg := (if_neg hc).symm.trans hg
              refine rf_seg C [(.aload 0, 1), (.invokeinterface 11 2, 3), (.invokeinterface 3 6, 3), (.iconst 80, 2)] (pc' := 69) (S' := ([(0, .ref 0), (1, .int a1), (2, .int a2), (3, .int a3)], [.int 80, .int (m4.1 26 6)], rf_MM w m4)) (by decide +kernel) rfl trivial ?_
              refine rf_icmp_lt C 9 78 (by decide +kernel) (fun hc => ?_) (fun hc => ?_)
              · replace hg := (if_pos hc).symm.trans hg
                refine rf_seg C [(.aload 0, 1), (.aload 0, 1), (.invokeinterface 11 2, 3), (.iload 1, 1), (.iload 2, 1), (.iload 3, 1)] (pc' := 86) (S' := ([(0, .ref 0), (1, .int a1), (2, .int a2), (3, .int a3)], [.int a3, .int a2, .int a1, .ref 26, .ref 0], rf_MM w m4)) (by decide +kernel) rfl trivial ?_
                obtain ⟨y7, m7, hc7, hg⟩ := rf_b_some hg
                refine rf_callv C rf_fit0 j_X3_addAngle (ci := 3) (As := [.int a1, .int a2, .int a3]) (rest := [.ref 0]) mw_X3_addAngle (c_X3_addAngle hc7) (by decide) rfl (by decide) lk_11_163 rfl rfl (Nat.le_of_ble_eq_true rfl) (by decide +kernel) ?_
                show rf_V 4 (rf_sh w) K 0 0 89 ([(0, .ref 0), (1, .int a1), (2, .int a2), (3, .int a3)], [.int y7, .ref 0], rf_MM w m7)
                obtain ⟨y8, m8, hc8, hg⟩ := rf_b_some hg
                refine rf_callv C rf_fit0 j_X11_answered (ci := 11) (As := [.int y7]) (rest := []) mw_X11_answered (c_X11_answered hc8) (by decide) rfl (by decide) lk_11_119 rfl rfl (Nat.le_of_ble_eq_true rfl) (by decide +kernel) ?_
                show rf_V 4 (rf_sh w) K 0 0 92 ([(0, .ref 0), (1, .int a1), (2, .int a2), (3, .int a3)], [.int y8], rf_MM w m8)
                obtain rfl := Option.some.inj hg
                exact rf_iret C hE (by decide +kernel)
              · replace hg := (if_neg hc).symm.trans hg
                refine rf_seg C [(.aload 0, 1), (.iconst 3, 1)] (pc' := 74) (S' := ([(0, .ref 0), (1, .int a1), (2, .int a2), (3, .int a3)], [.int 3, .ref 0], rf_MM w m4)) (by decide +kernel) rfl trivial ?_
                obtain ⟨y9, m9, hc9, hg⟩ := rf_b_some hg
                refine rf_callv C rf_fit0 j_X11_refused (ci := 11) (As := [.int 3]) (rest := []) mw_X11_refused (c_X11_refused hc9) (by decide) rfl (by decide) lk_11_105 rfl rfl (Nat.le_of_ble_eq_true rfl) (by decide +kernel) ?_
                show rf_V 4 (rf_sh w) K 0 0 77 ([(0, .ref 0), (1, .int a1), (2, .int a2), (3, .int a3)], [.int y9], rf_MM w m9)
                obtain rfl := Option.some.inj hg
                exact rf_iret C hE (by decide +kernel)
            · replace hg := (if_pos hc).symm.trans hg
              refine rf_seg C [(.aload 0, 1), (.iconst 5, 1)] (pc' := 56) (S' := ([(0, .ref 0), (1, .int a1), (2, .int a2), (3, .int a3)], [.int 5, .ref 0], rf_MM w m4)) (by decide +kernel) rfl trivial ?_
              obtain ⟨y10, m10, hc10, hg⟩ := rf_b_some hg
              refine rf_callv C rf_fit0 j_X11_refused (ci := 11) (As := [.int 5]) (rest := []) mw_X11_refused (c_X11_refused hc10) (by decide) rfl (by decide) lk_11_105 rfl rfl (Nat.le_of_ble_eq_true rfl) (by decide +kernel) ?_
              show rf_V 4 (rf_sh w) K 0 0 59 ([(0, .ref 0), (1, .int a1), (2, .int a2), (3, .int a3)], [.int y10], rf_MM w m10)
              obtain rfl := Option.some.inj hg
              exact rf_iret C hE (by decide +kernel)
      · replace hg := (if_pos hc).symm.trans hg
        refine rf_seg C [(.aload 0, 1), (.iconst 1, 1)] (pc' := 35) (S' := ([(0, .ref 0), (1, .int a1), (2, .int a2), (3, .int a3)], [.int 1, .ref 0], rf_MM w m4)) (by decide +kernel) rfl trivial ?_
        obtain ⟨y11, m11, hc11, hg⟩ := rf_b_some hg
        refine rf_callv C rf_fit0 j_X11_refused (ci := 11) (As := [.int 1]) (rest := []) mw_X11_refused (c_X11_refused hc11) (by decide) rfl (by decide) lk_11_105 rfl rfl (Nat.le_of_ble_eq_true rfl) (by decide +kernel) ?_
        show rf_V 4 (rf_sh w) K 0 0 38 ([(0, .ref 0), (1, .int a1), (2, .int a2), (3, .int a3)], [.int y11], rf_MM w m11)
        obtain rfl := Option.some.inj hg
        exact rf_iret C hE (by decide +kernel)
-- X11_wholeOf
abbrev j_X11_wholeOf : rf_J := (11, yX11_wholeOf, cX11_wholeOf, 4, (some .int))
theorem mw_X11_wholeOf : rf_ms j_X11_wholeOf 1 := ⟨⟨rf_mem 23 (by decide +kernel), rf_mem 0 (by decide +kernel), rf_mem 23 (by decide +kernel)⟩, by decide +kernel, by decide⟩
def g_X11_wholeOf (w : rf_w) (m : rf_m) (a0 : Int32) : Option (Int32 × rf_m) := rf_vi (((Int32.toUInt32 a0 >>> (Int32.toUInt32 23 &&& Int32.toUInt32 31)).toInt32) &&& 255) fun x0 => (if x0 = 255 then (if (a0 &&& 8388607) = 0 then some ((-1), m) else some ((-2), m)) else (if 127 ≤ x0 then (if a0 < 0 then some ((-1), m) else (if x0 ≤ 150 then rf_vi ((Int32.toUInt32 ((a0 &&& 8388607) ||| 8388608) >>> (Int32.toUInt32 (150 - x0) &&& Int32.toUInt32 31)).toInt32) fun x1 => (if 12960000 ≤ x1 then some ((-1), m) else some (x1, m)) else some ((-1), m))) else some (0, m)))
theorem c_X11_wholeOf {w : rf_w} {m : rf_m} {a0 : Int32} {r : Int32 × rf_m} (hg : g_X11_wholeOf w m a0 = some r) : rf_Con j_X11_wholeOf 1 (rf_sh w) [.int a0] (rf_MM w m) (some (.int r.1)) (rf_MM w r.2) := by
  refine rf_con j_X11_wholeOf 1 ⟨by decide +kernel, rfl, Nat.le_of_ble_eq_true rfl⟩ (fun K C hE => ?_)
  unfold g_X11_wholeOf at hg
  show rf_V 4 (rf_sh w) K 0 0 0 ([(0, .int a0)], [], rf_MM w m)
  refine rf_seg C [(.iload 0, 1), (.iconst 23, 2), (.iushr, 1), (.iconst 255, 3), (.iand, 1)] (pc' := 8) (S' := ([(0, .int a0)], [.int (((Int32.toUInt32 a0 >>> (Int32.toUInt32 23 &&& Int32.toUInt32 31)).toInt32) &&& 255)], rf_MM w m)) (by decide +kernel) rfl trivial ?_
  obtain ⟨x0, hx0, hg⟩ := rf_vi_some hg
  refine rf_vi_top hx0 ?_
  refine rf_seg C [(.istore 1, 1), (.iload 0, 1), (.iconst 8388607, 3), (.iand, 1), (.istore 2, 1), (.iload 1, 1), (.iconst 255, 3)] (pc' := 19) (S' := ([(2, .int (a0 &&& 8388607)), (1, .int x0), (0, .int a0)], [.int 255, .int x0], rf_MM w m)) (by decide +kernel) rfl trivial ?_
  refine rf_icmp_ne C 14 33 (by decide +kernel) (fun hc => ?_) (fun hc => ?_)
  · replace hg := (if_neg hc).symm.trans hg
    refine rf_seg C [(.iload 1, 1), (.iconst 127, 2)] (pc' := 36) (S' := ([(2, .int (a0 &&& 8388607)), (1, .int x0), (0, .int a0)], [.int 127, .int x0], rf_MM w m)) (by decide +kernel) rfl trivial ?_
    refine rf_icmp_ge C 5 41 (by decide +kernel) (fun hc => ?_) (fun hc => ?_)
    · replace hg := (if_pos hc).symm.trans hg
      refine rf_seg C [(.iload 0, 1)] (pc' := 42) (S' := ([(2, .int (a0 &&& 8388607)), (1, .int x0), (0, .int a0)], [.int a0], rf_MM w m)) (by decide +kernel) rfl trivial ?_
      refine rf_if_lt C 10 52 (by decide +kernel) (fun hc => ?_) (fun hc => ?_)
      · replace hg := (if_pos hc).symm.trans hg
        refine rf_seg C [(.iconst (-1), 1)] (pc' := 53) (S' := ([(2, .int (a0 &&& 8388607)), (1, .int x0), (0, .int a0)], [.int ((-1))], rf_MM w m)) (by decide +kernel) rfl trivial ?_
        obtain rfl := Option.some.inj hg
        exact rf_iret C hE (by decide +kernel)
      · replace hg := (if_neg hc).symm.trans hg
        refine rf_seg C [(.iload 1, 1), (.iconst 150, 3)] (pc' := 49) (S' := ([(2, .int (a0 &&& 8388607)), (1, .int x0), (0, .int a0)], [.int 150, .int x0], rf_MM w m)) (by decide +kernel) rfl trivial ?_
        refine rf_icmp_le C 5 54 (by decide +kernel) (fun hc => ?_) (fun hc => ?_)
        · replace hg := (if_pos hc).symm.trans hg
          refine rf_seg C [(.iload 2, 1), (.iconst 8388608, 3), (.ior, 1), (.iconst 150, 3), (.iload 1, 1), (.isub, 1), (.iushr, 1)] (pc' := 65) (S' := ([(2, .int (a0 &&& 8388607)), (1, .int x0), (0, .int a0)], [.int ((Int32.toUInt32 ((a0 &&& 8388607) ||| 8388608) >>> (Int32.toUInt32 (150 - x0) &&& Int32.toUInt32 31)).toInt32)], rf_MM w m)) (by decide +kernel) rfl trivial ?_
          obtain ⟨x1, hx1, hg⟩ := rf_vi_some hg
          refine rf_vi_top hx1 ?_
          refine rf_seg C [(.istore 3, 1), (.iload 3, 1), (.iconst 12960000, 3)] (pc' := 70) (S' := ([(3, .int x1), (2, .int (a0 &&& 8388607)), (1, .int x0), (0, .int a0)], [.int 12960000, .int x1], rf_MM w m)) (by decide +kernel) rfl trivial ?_
          refine rf_icmp_ge C 7 77 (by decide +kernel) (fun hc => ?_) (fun hc => ?_)
          · replace hg := (if_pos hc).symm.trans hg
            refine rf_seg C [(.iconst (-1), 1)] (pc' := 78) (S' := ([(3, .int x1), (2, .int (a0 &&& 8388607)), (1, .int x0), (0, .int a0)], [.int ((-1))], rf_MM w m)) (by decide +kernel) rfl trivial ?_
            obtain rfl := Option.some.inj hg
            exact rf_iret C hE (by decide +kernel)
          · replace hg := (if_neg hc).symm.trans hg
            refine rf_seg C [(.iload 3, 1)] (pc' := 74) (S' := ([(3, .int x1), (2, .int (a0 &&& 8388607)), (1, .int x0), (0, .int a0)], [.int x1], rf_MM w m)) (by decide +kernel) rfl trivial ?_
            refine rf_goto C 4 78 (by decide +kernel) ?_
            obtain rfl := Option.some.inj hg
            exact rf_iret C hE (by decide +kernel)
        · replace hg := (if_neg hc).symm.trans hg
          refine rf_seg C [(.iconst (-1), 1)] (pc' := 53) (S' := ([(2, .int (a0 &&& 8388607)), (1, .int x0), (0, .int a0)], [.int ((-1))], rf_MM w m)) (by decide +kernel) rfl trivial ?_
          obtain rfl := Option.some.inj hg
          exact rf_iret C hE (by decide +kernel)
    · replace hg := (if_neg hc).symm.trans hg
      refine rf_seg C [(.iconst 0, 1)] (pc' := 40) (S' := ([(2, .int (a0 &&& 8388607)), (1, .int x0), (0, .int a0)], [.int 0], rf_MM w m)) (by decide +kernel) rfl trivial ?_
      obtain rfl := Option.some.inj hg
      exact rf_iret C hE (by decide +kernel)
  · replace hg := (if_pos hc).symm.trans hg
    refine rf_seg C [(.iload 2, 1)] (pc' := 23) (S' := ([(2, .int (a0 &&& 8388607)), (1, .int x0), (0, .int a0)], [.int (a0 &&& 8388607)], rf_MM w m)) (by decide +kernel) rfl trivial ?_
    refine rf_if_eq C 8 31 (by decide +kernel) (fun hc => ?_) (fun hc => ?_)
    · replace hg := (if_pos hc).symm.trans hg
      refine rf_seg C [(.iconst (-1), 1)] (pc' := 32) (S' := ([(2, .int (a0 &&& 8388607)), (1, .int x0), (0, .int a0)], [.int ((-1))], rf_MM w m)) (by decide +kernel) rfl trivial ?_
      obtain rfl := Option.some.inj hg
      exact rf_iret C hE (by decide +kernel)
    · replace hg := (if_neg hc).symm.trans hg
      refine rf_seg C [(.iconst (-2), 2)] (pc' := 28) (S' := ([(2, .int (a0 &&& 8388607)), (1, .int x0), (0, .int a0)], [.int ((-2))], rf_MM w m)) (by decide +kernel) rfl trivial ?_
      refine rf_goto C 4 32 (by decide +kernel) ?_
      obtain rfl := Option.some.inj hg
      exact rf_iret C hE (by decide +kernel)
-- X11_read
abbrev j_X11_read : rf_J := (11, yX11_read, cX11_read, 7, (some .int))
theorem mw_X11_read : rf_mv j_X11_read (rf_R 11) 4 := ⟨⟨rf_mem 23 (by decide +kernel), rf_mem 23 (by decide +kernel), rf_mem 0 (by decide +kernel), rf_mem 23 (by decide +kernel)⟩, by decide +kernel, by decide⟩
def g_X11_read (w : rf_w) (m : rf_m) (a1 : Int32) (a2 : Int32) (a3 : Int32) (a4 : Int32) : Option (Int32 × rf_m) := rf_b (g_X3_isAngle w m a1) fun y0 m0 => (if y0 = 0 then rf_b (g_X11_refused w m0 1) fun y1 m1 => some (y1, m1) else rf_b (g_X3_isParty w m0 a4) fun y2 m2 => (if y2 = 0 then rf_b (g_X11_refused w m2 1) fun y12 m12 => some (y12, m12) else rf_b (g_X11_wholeOf w m2 a2) fun y3 m3 => rf_b (g_X11_isHour w m3 a3) fun y4 m4 => (if y4 = 0 then rf_b (g_X11_refused w m4 2) fun y5 m5 => some (y5, m5) else (if y3 = ((-1)) then rf_b (g_X11_refused w m4 2) fun y11 m11 => some (y11, m11) else rf_b (g_X3_hasRoomFor w m4 a1) fun y6 m6 => (if y6 = 0 then rf_b (g_X11_refused w m6 3) fun y10 m10 => some (y10, m10) else rf_b (g_X3_addReading w m6 a1 y3) fun y7 m7 => rf_bv (g_X3_sign w m7 y7 a3 a4 (m7.1 0 10)) fun m8 => rf_b (g_X11_answered w m8 y7) fun y9 m9 => some (y9, m9))))))
theorem c_X11_read {w : rf_w} {m : rf_m} {a1 : Int32} {a2 : Int32} {a3 : Int32} {a4 : Int32} {r : Int32 × rf_m} (hg : g_X11_read w m a1 a2 a3 a4 = some r) : rf_Con j_X11_read 3 (rf_sh w) [.ref 0, .int a1, .int a2, .int a3, .int a4] (rf_MM w m) (some (.int r.1)) (rf_MM w r.2) := by
  refine rf_con j_X11_read 3 ⟨by decide +kernel, rfl, Nat.le_of_ble_eq_true rfl⟩ (fun K C hE => ?_)
  unfold g_X11_read at hg
  show rf_V 7 (rf_sh w) K 0 0 0 ([(0, .ref 0), (1, .int a1), (2, .int a2), (3, .int a3), (4, .int a4)], [], rf_MM w m)
  refine rf_seg C [(.aload 0, 1), (.invokeinterface 11 2, 3), (.iload 1, 1)] (pc' := 5) (S' := ([(0, .ref 0), (1, .int a1), (2, .int a2), (3, .int a3), (4, .int a4)], [.int a1, .ref 26], rf_MM w m)) (by decide +kernel) rfl trivial ?_
  obtain ⟨y0, m0, hc0, hg⟩ := rf_b_some hg
  refine rf_callv C rf_fit0 j_X3_isAngle (ci := 3) (As := [.int a1]) (rest := []) mw_X3_isAngle (c_X3_isAngle hc0) (by decide) rfl (by decide) lk_11_167 rfl rfl (Nat.le_of_ble_eq_true rfl) (by decide +kernel) ?_
  show rf_V 7 (rf_sh w) K 0 0 8 ([(0, .ref 0), (1, .int a1), (2, .int a2), (3, .int a3), (4, .int a4)], [.int y0], rf_MM w m0)
  refine rf_if_eq C 15 23 (by decide +kernel) (fun hc => ?_) (fun hc => ?_)
  · replace hg := (if_pos hc).symm.trans hg
    refine rf_seg C [(.aload 0, 1), (.iconst 1, 1)] (pc' := 25) (S' := ([(0, .ref 0), (1, .int a1), (2, .int a2), (3, .int a3), (4, .int a4)], [.int 1, .ref 0], rf_MM w m0)) (by decide +kernel) rfl trivial ?_
    obtain ⟨y1, m1, hc1, hg⟩ := rf_b_some hg
    refine rf_callv C rf_fit0 j_X11_refused (ci := 11) (As := [.int 1]) (rest := []) mw_X11_refused (c_X11_refused hc1) (by decide) rfl (by decide) lk_11_105 rfl rfl (Nat.le_of_ble_eq_true rfl) (by decide +kernel) ?_
    show rf_V 7 (rf_sh w) K 0 0 28 ([(0, .ref 0), (1, .int a1), (2, .int a2), (3, .int a3), (4, .int a4)], [.int y1], rf_MM w m1)
    obtain rfl := Option.some.inj hg
    exact rf_iret C hE (by decide +kernel)
  · replace hg := (if_neg hc).symm.trans hg
    refine rf_seg C [(.aload 0, 1), (.invokeinterface 11 2, 3), (.iload 4, 2)] (pc' := 17) (S' := ([(0, .ref 0), (1, .int a1), (2, .int a2), (3, .int a3), (4, .int a4)], [.int a4, .ref 26], rf_MM w m0)) (by decide +kernel) rfl trivial ?_
    obtain ⟨y2, m2, hc2, hg⟩ := rf_b_some hg
    refine rf_callv C rf_fit0 j_X3_isParty (ci := 3) (As := [.int a4]) (rest := []) mw_X3_isParty (c_X3_isParty hc2) (by decide) rfl (by decide) lk_11_170 rfl rfl (Nat.le_of_ble_eq_true rfl) (by decide +kernel) ?_
    show rf_V 7 (rf_sh w) K 0 0 20 ([(0, .ref 0), (1, .int a1), (2, .int a2), (3, .int a3), (4, .int a4)], [.int y2], rf_MM w m2)
    refine rf_if_ne C 9 29 (by decide +kernel) (fun hc => ?_) (fun hc => ?_)
    · replace hg := (if_neg hc).symm.trans hg
      refine rf_seg C [(.iload 2, 1)] (pc' := 30) (S' := ([(0, .ref 0), (1, .int a1), (2, .int a2), (3, .int a3), (4, .int a4)], [.int a2], rf_MM w m2)) (by decide +kernel) rfl trivial ?_
      obtain ⟨y3, m3, hc3, hg⟩ := rf_b_some hg
      refine rf_calls C rf_fit0 j_X11_wholeOf (As := [.int a2]) (rest := []) mw_X11_wholeOf (c_X11_wholeOf hc3) (by decide) lk_11_173 rfl rfl (Nat.le_of_ble_eq_true rfl) (by decide +kernel) ?_
      show rf_V 7 (rf_sh w) K 0 0 33 ([(0, .ref 0), (1, .int a1), (2, .int a2), (3, .int a3), (4, .int a4)], [.int y3], rf_MM w m3)
      refine rf_seg C [(.istore 5, 2), (.iload 3, 1)] (pc' := 36) (S' := ([(5, .int y3), (0, .ref 0), (1, .int a1), (2, .int a2), (3, .int a3), (4, .int a4)], [.int a3], rf_MM w m3)) (by decide +kernel) rfl trivial ?_
      obtain ⟨y4, m4, hc4, hg⟩ := rf_b_some hg
      refine rf_calls C rf_fit0 j_X11_isHour (As := [.int a3]) (rest := []) mw_X11_isHour (c_X11_isHour hc4) (by decide) lk_11_139 rfl rfl (Nat.le_of_ble_eq_true rfl) (by decide +kernel) ?_
      show rf_V 7 (rf_sh w) K 0 0 39 ([(5, .int y3), (0, .ref 0), (1, .int a1), (2, .int a2), (3, .int a3), (4, .int a4)], [.int y4], rf_MM w m4)
      refine rf_if_eq C 9 48 (by decide +kernel) (fun hc => ?_) (fun hc => ?_)
      · replace hg := (if_pos hc).symm.trans hg
        refine rf_seg C [(.aload 0, 1), (.iconst 2, 1)] (pc' := 50) (S' := ([(5, .int y3), (0, .ref 0), (1, .int a1), (2, .int a2), (3, .int a3), (4, .int a4)], [.int 2, .ref 0], rf_MM w m4)) (by decide +kernel) rfl trivial ?_
        obtain ⟨y5, m5, hc5, hg⟩ := rf_b_some hg
        refine rf_callv C rf_fit0 j_X11_refused (ci := 11) (As := [.int 2]) (rest := []) mw_X11_refused (c_X11_refused hc5) (by decide) rfl (by decide) lk_11_105 rfl rfl (Nat.le_of_ble_eq_true rfl) (by decide +kernel) ?_
        show rf_V 7 (rf_sh w) K 0 0 53 ([(5, .int y3), (0, .ref 0), (1, .int a1), (2, .int a2), (3, .int a3), (4, .int a4)], [.int y5], rf_MM w m5)
        obtain rfl := Option.some.inj hg
        exact rf_iret C hE (by decide +kernel)
      · replace hg := (if_neg hc).symm.trans hg
        refine rf_seg C [(.iload 5, 2), (.iconst (-1), 1)] (pc' := 45) (S' := ([(5, .int y3), (0, .ref 0), (1, .int a1), (2, .int a2), (3, .int a3), (4, .int a4)], [.int ((-1)), .int y3], rf_MM w m4)) (by decide +kernel) rfl trivial ?_
        refine rf_icmp_ne C 9 54 (by decide +kernel) (fun hc => ?_) (fun hc => ?_)
        · replace hg := (if_neg hc).symm.trans hg
          refine rf_seg C [(.aload 0, 1), (.invokeinterface 11 2, 3), (.iload 1, 1)] (pc' := 59) (S' := ([(5, .int y3), (0, .ref 0), (1, .int a1), (2, .int a2), (3, .int a3), (4, .int a4)], [.int a1, .ref 26], rf_MM w m4)) (by decide +kernel) rfl trivial ?_
          obtain ⟨y6, m6, hc6, hg⟩ := rf_b_some hg
          refine rf_callv C rf_fit0 j_X3_hasRoomFor (ci := 3) (As := [.int a1]) (rest := []) mw_X3_hasRoomFor (c_X3_hasRoomFor hc6) (by decide) rfl (by decide) lk_11_176 rfl rfl (Nat.le_of_ble_eq_true rfl) (by decide +kernel) ?_
          show rf_V 7 (rf_sh w) K 0 0 62 ([(5, .int y3), (0, .ref 0), (1, .int a1), (2, .int a2), (3, .int a3), (4, .int a4)], [.int y6], rf_MM w m6)
          refine rf_if_ne C 9 71 (by decide +kernel) (fun hc => ?_) (fun hc => ?_)
          · replace hg := (if_neg hc).symm.trans hg
            refine rf_seg C [(.aload 0, 1), (.invokeinterface 11 2, 3), (.iload 1, 1), (.iload 5, 2)] (pc' := 78) (S' := ([(5, .int y3), (0, .ref 0), (1, .int a1), (2, .int a2), (3, .int a3), (4, .int a4)], [.int y3, .int a1, .ref 26], rf_MM w m6)) (by decide +kernel) rfl trivial ?_
            obtain ⟨y7, m7, hc7, hg⟩ := rf_b_some hg
            refine rf_callv C rf_fit0 j_X3_addReading (ci := 3) (As := [.int a1, .int y3]) (rest := []) mw_X3_addReading (c_X3_addReading hc7) (by decide) rfl (by decide) lk_11_179 rfl rfl (Nat.le_of_ble_eq_true rfl) (by decide +kernel) ?_
            show rf_V 7 (rf_sh w) K 0 0 81 ([(5, .int y3), (0, .ref 0), (1, .int a1), (2, .int a2), (3, .int a3), (4, .int a4)], [.int y7], rf_MM w m7)
            refine rf_seg C [(.istore 6, 2), (.aload 0, 1), (.invokeinterface 11 2, 3), (.iload 6, 2), (.iload 3, 1), (.iload 4, 2), (.aload 0, 1), (.invokeinterface 11 10, 3)] (pc' := 96) (S' := ([(6, .int y7), (5, .int y3), (0, .ref 0), (1, .int a1), (2, .int a2), (3, .int a3), (4, .int a4)], [.int (m7.1 0 10), .int a4, .int a3, .int y7, .ref 26], rf_MM w m7)) (by decide +kernel) rfl trivial ?_
            obtain ⟨m8, hc8, hg⟩ := rf_bv_some hg
            refine rf_callv C rf_fit0 j_X3_sign (ci := 3) (As := [.int y7, .int a3, .int a4, .int (m7.1 0 10)]) (rest := []) mw_X3_sign (c_X3_sign hc8) (by decide) rfl (by decide) lk_11_183 rfl rfl (Nat.le_of_ble_eq_true rfl) (by decide +kernel) ?_
            show rf_V 7 (rf_sh w) K 0 0 99 ([(6, .int y7), (5, .int y3), (0, .ref 0), (1, .int a1), (2, .int a2), (3, .int a3), (4, .int a4)], [], rf_MM w m8)
            refine rf_seg C [(.aload 0, 1), (.iload 6, 2)] (pc' := 102) (S' := ([(6, .int y7), (5, .int y3), (0, .ref 0), (1, .int a1), (2, .int a2), (3, .int a3), (4, .int a4)], [.int y7, .ref 0], rf_MM w m8)) (by decide +kernel) rfl trivial ?_
            obtain ⟨y9, m9, hc9, hg⟩ := rf_b_some hg
            refine rf_callv C rf_fit0 j_X11_answered (ci := 11) (As := [.int y7]) (rest := []) mw_X11_answered (c_X11_answered hc9) (by decide) rfl (by decide) lk_11_119 rfl rfl (Nat.le_of_ble_eq_true rfl) (by decide +kernel) ?_
            show rf_V 7 (rf_sh w) K 0 0 105 ([(6, .int y7), (5, .int y3), (0, .ref 0), (1, .int a1), (2, .int a2), (3, .int a3), (4, .int a4)], [.int y9], rf_MM w m9)
            obtain rfl := Option.some.inj hg
            exact rf_iret C hE (by decide +kernel)
          · replace hg := (if_pos hc).symm.trans hg
            refine rf_seg C [(.aload 0, 1), (.iconst 3, 1)] (pc' := 67) (S' := ([(5, .int y3), (0, .ref 0), (1, .int a1), (2, .int a2), (3, .int a3), (4, .int a4)], [.int 3, .ref 0], rf_MM w m6)) (by decide +kernel) rfl trivial ?_
            obtain ⟨y10, m10, hc10, hg⟩ := rf_b_some hg
            refine rf_callv C rf_fit0 j_X11_refused (ci := 11) (As := [.int 3]) (rest := []) mw_X11_refused (c_X11_refused hc10) (by decide) rfl (by decide) lk_11_105 rfl rfl (Nat.le_of_ble_eq_true rfl) (by decide +kernel) ?_
            show rf_V 7 (rf_sh w) K 0 0 70 ([(5, .int y3), (0, .ref 0), (1, .int a1), (2, .int a2), (3, .int a3), (4, .int a4)], [.int y10], rf_MM w m10)
            obtain rfl := Option.some.inj hg
            exact rf_iret C hE (by decide +kernel)
        · replace hg := (if_pos hc).symm.trans hg
          refine rf_seg C [(.aload 0, 1), (.iconst 2, 1)] (pc' := 50) (S' := ([(5, .int y3), (0, .ref 0), (1, .int a1), (2, .int a2), (3, .int a3), (4, .int a4)], [.int 2, .ref 0], rf_MM w m4)) (by decide +kernel) rfl trivial ?_
          obtain ⟨y11, m11, hc11, hg⟩ := rf_b_some hg
          refine rf_callv C rf_fit0 j_X11_refused (ci := 11) (As := [.int 2]) (rest := []) mw_X11_refused (c_X11_refused hc11) (by decide) rfl (by decide) lk_11_105 rfl rfl (Nat.le_of_ble_eq_true rfl) (by decide +kernel) ?_
          show rf_V 7 (rf_sh w) K 0 0 53 ([(5, .int y3), (0, .ref 0), (1, .int a1), (2, .int a2), (3, .int a3), (4, .int a4)], [.int y11], rf_MM w m11)
          obtain rfl := Option.some.inj hg
          exact rf_iret C hE (by decide +kernel)
    · replace hg := (if_pos hc).symm.trans hg
      refine rf_seg C [(.aload 0, 1), (.iconst 1, 1)] (pc' := 25) (S' := ([(0, .ref 0), (1, .int a1), (2, .int a2), (3, .int a3), (4, .int a4)], [.int 1, .ref 0], rf_MM w m2)) (by decide +kernel) rfl trivial ?_
      obtain ⟨y12, m12, hc12, hg⟩ := rf_b_some hg
      refine rf_callv C rf_fit0 j_X11_refused (ci := 11) (As := [.int 1]) (rest := []) mw_X11_refused (c_X11_refused hc12) (by decide) rfl (by decide) lk_11_105 rfl rfl (Nat.le_of_ble_eq_true rfl) (by decide +kernel) ?_
      show rf_V 7 (rf_sh w) K 0 0 28 ([(0, .ref 0), (1, .int a1), (2, .int a2), (3, .int a3), (4, .int a4)], [.int y12], rf_MM w m12)
      obtain rfl := Option.some.inj hg
      exact rf_iret C hE (by decide +kernel)
