/-! methods as functions, and their contracts (written by wip/tool/gen.py) -/
-- X8_next
abbrev j_X8_next : rf_J := (8, yX8_next, cX8_next, 1, none)
theorem mw_X8_next : rf_mv j_X8_next (rf_R 8) 0 := ⟨⟨rf_mem 37 (by decide +kernel), rf_mem 37 (by decide +kernel), rf_mem 2 (by decide +kernel), rf_mem 37 (by decide +kernel)⟩, by decide +kernel, by decide⟩
def g_X8_next_46 (w : rf_w) (m : rf_m) : Option (rf_m) := (if ((rf_i m 14 9 (m.1 14 8)).1 14 8) < ((rf_i m 14 9 (m.1 14 8)).1 14 7) then rf_g (rf_in ((rf_i m 14 9 (m.1 14 8)).1 14 8) 300) (rf_b (g_X8_isLetter w (rf_i m 14 9 (m.1 14 8)) ((rf_i m 14 9 (m.1 14 8)).1 15 (Int32.toNatClampNeg ((rf_i m 14 9 (m.1 14 8)).1 14 8)))) fun y1 m1 => (if y1 = 0 then rf_g (rf_in (m1.1 14 8) 300) (rf_b (g_X8_isDigit w m1 (m1.1 15 (Int32.toNatClampNeg (m1.1 14 8)))) fun y3 m3 => (if y3 = 0 then rf_g (rf_in ((rf_i m3 14 9 ((m3.1 14 8) + 1)).1 14 8) 300) (rf_b (g_J0_indexOf_0f7a4 w (rf_i m3 14 9 ((m3.1 14 8) + 1)) 1000000 ((Int32.toUInt32 ((rf_i m3 14 9 ((m3.1 14 8) + 1)).1 15 (Int32.toNatClampNeg ((rf_i m3 14 9 ((m3.1 14 8) + 1)).1 14 8))) % 65536).toInt32)) fun y5 m5 => (if y5 < 0 then some (rf_i m5 14 10 1) else rf_g (rf_in (m5.1 14 8) 300) (some (rf_i m5 14 10 (m5.1 15 (Int32.toNatClampNeg (m5.1 14 8))))))) else rf_bv (g_X8_takeWhole w m3) fun m7 => some m7)) else rf_bv (g_X8_takeWord w m1) fun m8 => some m8)) else some (rf_i (rf_i m 14 9 (m.1 14 8)) 14 10 0))
def g_X8_next_8_b (w : rf_w) (rec8 : rf_m → Option (rf_m)) (m : rf_m) : Option (rf_m) := (if (m.1 14 7) ≤ (m.1 14 8) then g_X8_next_46 w m else rf_g (rf_in (m.1 14 8) 300) ((if (m.1 15 (Int32.toNatClampNeg (m.1 14 8))) = 32 then rec8 (rf_i m 14 8 ((m.1 14 8) + 1)) else g_X8_next_46 w m)))
def g_X8_next_8 (w : rf_w) : Nat → rf_m → Option (rf_m)
  | 0, _ => none
  | n + 1, m => g_X8_next_8_b w (g_X8_next_8 w n) m
def g_X8_next (w : rf_w) (m : rf_m) : Option (rf_m) := g_X8_next_8 w rf_fuel (rf_i m 14 8 (m.1 14 9))
theorem s_X8_next_46 {w : rf_w} {K : rf_K} {r : rf_m} (C : rf_Ctx 8 cX8_next 1 5 (rf_sh w) K) (hE : rf_End none K (rf_sh w) 0 0 none (rf_MM w r)) (m : rf_m) (hg : g_X8_next_46 w m = some r) : rf_V 1 (rf_sh w) K 0 0 46 ([(0, .ref 14)], [], rf_MM w m) := by
  unfold g_X8_next_46 at hg
  refine rf_seg C [(.aload 0, 1), (.aload 0, 1), (.invokeinterface 8 8, 3), (.multianewarray 8 9, 3), (.aload 0, 1), (.invokeinterface 8 8, 3), (.aload 0, 1), (.invokeinterface 8 7, 3)] (pc' := 62) (S' := ([(0, .ref 14)], [.int ((rf_i m 14 9 (m.1 14 8)).1 14 7), .int ((rf_i m 14 9 (m.1 14 8)).1 14 8)], rf_MM w (rf_i m 14 9 (m.1 14 8)))) (by decide +kernel) rfl trivial ?_
  refine rf_icmp_lt C 11 73 (by decide +kernel) (fun hc => ?_) (fun hc => ?_)
  · replace hg := (if_pos hc).symm.trans hg
    obtain ⟨q0, hg⟩ := rf_g_some hg
    refine rf_seg C [(.aload 0, 1), (.invokeinterface 8 0, 3), (.aload 0, 1), (.invokeinterface 8 8, 3), (.iaload, 1)] (pc' := 82) (S' := ([(0, .ref 14)], [.int ((rf_i m 14 9 (m.1 14 8)).1 15 (Int32.toNatClampNeg ((rf_i m 14 9 (m.1 14 8)).1 14 8)))], rf_MM w (rf_i m 14 9 (m.1 14 8)))) (by decide +kernel) rfl (rf_in_of q0) ?_
    obtain ⟨y1, m1, hc1, hg⟩ := rf_b_some hg
    refine rf_calls C rf_fit0 j_X8_isLetter (As := [.int ((rf_i m 14 9 (m.1 14 8)).1 15 (Int32.toNatClampNeg ((rf_i m 14 9 (m.1 14 8)).1 14 8)))]) (rest := []) mw_X8_isLetter (c_X8_isLetter hc1) (by decide) lk_8_150 rfl rfl (Nat.le_of_ble_eq_true rfl) (by decide +kernel) ?_
    show rf_V 1 (rf_sh w) K 0 0 85 ([(0, .ref 14)], [.int y1], rf_MM w m1)
    refine rf_if_eq C 10 95 (by decide +kernel) (fun hc => ?_) (fun hc => ?_)
    · replace hg := (if_pos hc).symm.trans hg
      obtain ⟨q2, hg⟩ := rf_g_some hg
      refine rf_seg C [(.aload 0, 1), (.invokeinterface 8 0, 3), (.aload 0, 1), (.invokeinterface 8 8, 3), (.iaload, 1)] (pc' := 104) (S' := ([(0, .ref 14)], [.int (m1.1 15 (Int32.toNatClampNeg (m1.1 14 8)))], rf_MM w m1)) (by decide +kernel) rfl (rf_in_of q2) ?_
      obtain ⟨y3, m3, hc3, hg⟩ := rf_b_some hg
      refine rf_calls C rf_fit0 j_X8_isDigit (As := [.int (m1.1 15 (Int32.toNatClampNeg (m1.1 14 8)))]) (rest := []) mw_X8_isDigit (c_X8_isDigit hc3) (by decide) lk_8_157 rfl rfl (Nat.le_of_ble_eq_true rfl) (by decide +kernel) ?_
      show rf_V 1 (rf_sh w) K 0 0 107 ([(0, .ref 14)], [.int y3], rf_MM w m3)
      refine rf_if_eq C 10 117 (by decide +kernel) (fun hc => ?_) (fun hc => ?_)
      · replace hg := (if_pos hc).symm.trans hg
        refine rf_seg C [(.aload 0, 1), (.aload 0, 1), (.invokeinterface 8 8, 3), (.iconst 1, 1), (.iadd, 1), (.multianewarray 8 9, 3), (.aload 0, 1)] (pc' := 128) (S' := ([(0, .ref 14)], [.ref 14], rf_MM w (rf_i m3 14 9 ((m3.1 14 8) + 1)))) (by decide +kernel) rfl trivial ?_
        refine rf_s_ldc C 1000000 (idx := 163) (by decide +kernel) (by decide +kernel) ?_
        show rf_V 1 (rf_sh w) K 0 0 130 ([(0, .ref 14)], [.ref 1000000, .ref 14], rf_MM w (rf_i m3 14 9 ((m3.1 14 8) + 1)))
        obtain ⟨q4, hg⟩ := rf_g_some hg
        refine rf_seg C [(.aload 0, 1), (.invokeinterface 8 0, 3), (.aload 0, 1), (.invokeinterface 8 8, 3), (.iaload, 1), (.i2c, 1)] (pc' := 140) (S' := ([(0, .ref 14)], [.int ((Int32.toUInt32 ((rf_i m3 14 9 ((m3.1 14 8) + 1)).1 15 (Int32.toNatClampNeg ((rf_i m3 14 9 ((m3.1 14 8) + 1)).1 14 8))) % 65536).toInt32), .ref 1000000, .ref 14], rf_MM w (rf_i m3 14 9 ((m3.1 14 8) + 1)))) (by decide +kernel) rfl (rf_in_of q4) ?_
        obtain ⟨y5, m5, hc5, hg⟩ := rf_b_some hg
        refine rf_callz C rf_fit0 j_J0_indexOf_0f7a4 (As := [.int ((Int32.toUInt32 ((rf_i m3 14 9 ((m3.1 14 8) + 1)).1 15 (Int32.toNatClampNeg ((rf_i m3 14 9 ((m3.1 14 8) + 1)).1 14 8))) % 65536).toInt32)]) (rest := [.ref 14]) mw_J0_indexOf_0f7a4 (c_J0_indexOf_0f7a4 hc5) (by decide) (by decide) lk_8_165 rfl rfl (Nat.le_of_ble_eq_true rfl) (by decide +kernel) ?_
        show rf_V 1 (rf_sh w) K 0 0 143 ([(0, .ref 14)], [.int y5, .ref 14], rf_MM w m5)
        refine rf_if_lt C 15 158 (by decide +kernel) (fun hc => ?_) (fun hc => ?_)
        · replace hg := (if_pos hc).symm.trans hg
          refine rf_seg C [(.iconst 1, 1), (.multianewarray 8 10, 3)] (pc' := 162) (S' := ([(0, .ref 14)], [], rf_MM w (rf_i m5 14 10 1))) (by decide +kernel) rfl trivial ?_
          obtain rfl := Option.some.inj hg
          exact rf_vret C hE (by decide +kernel)
        · replace hg := (if_neg hc).symm.trans hg
          obtain ⟨q6, hg⟩ := rf_g_some hg
          refine rf_seg C [(.aload 0, 1), (.invokeinterface 8 0, 3), (.aload 0, 1), (.invokeinterface 8 8, 3), (.iaload, 1)] (pc' := 155) (S' := ([(0, .ref 14)], [.int (m5.1 15 (Int32.toNatClampNeg (m5.1 14 8))), .ref 14], rf_MM w m5)) (by decide +kernel) rfl (rf_in_of q6) ?_
          refine rf_goto C 4 159 (by decide +kernel) ?_
          refine rf_seg C [(.multianewarray 8 10, 3)] (pc' := 162) (S' := ([(0, .ref 14)], [], rf_MM w (rf_i m5 14 10 (m5.1 15 (Int32.toNatClampNeg (m5.1 14 8)))))) (by decide +kernel) rfl trivial ?_
          obtain rfl := Option.some.inj hg
          exact rf_vret C hE (by decide +kernel)
      · replace hg := (if_neg hc).symm.trans hg
        refine rf_seg C [(.aload 0, 1)] (pc' := 111) (S' := ([(0, .ref 14)], [.ref 14], rf_MM w m3)) (by decide +kernel) rfl trivial ?_
        obtain ⟨m7, hc7, hg⟩ := rf_bv_some hg
        refine rf_callv C rf_fit0 j_X8_takeWhole (ci := 8) (As := []) (rest := []) mw_X8_takeWhole (c_X8_takeWhole hc7) (by decide) rfl (by decide) lk_8_160 rfl rfl (Nat.le_of_ble_eq_true rfl) (by decide +kernel) ?_
        show rf_V 1 (rf_sh w) K 0 0 114 ([(0, .ref 14)], [], rf_MM w m7)
        refine rf_goto C 48 162 (by decide +kernel) ?_
        obtain rfl := Option.some.inj hg
        exact rf_vret C hE (by decide +kernel)
    · replace hg := (if_neg hc).symm.trans hg
      refine rf_seg C [(.aload 0, 1)] (pc' := 89) (S' := ([(0, .ref 14)], [.ref 14], rf_MM w m1)) (by decide +kernel) rfl trivial ?_
      obtain ⟨m8, hc8, hg⟩ := rf_bv_some hg
      refine rf_callv C rf_fit0 j_X8_takeWord (ci := 8) (As := []) (rest := []) mw_X8_takeWord (c_X8_takeWord hc8) (by decide) rfl (by decide) lk_8_154 rfl rfl (Nat.le_of_ble_eq_true rfl) (by decide +kernel) ?_
      show rf_V 1 (rf_sh w) K 0 0 92 ([(0, .ref 14)], [], rf_MM w m8)
      refine rf_goto C 70 162 (by decide +kernel) ?_
      obtain rfl := Option.some.inj hg
      exact rf_vret C hE (by decide +kernel)
  · replace hg := (if_neg hc).symm.trans hg
    refine rf_seg C [(.aload 0, 1), (.iconst 0, 1), (.multianewarray 8 10, 3)] (pc' := 70) (S' := ([(0, .ref 14)], [], rf_MM w (rf_i (rf_i m 14 9 (m.1 14 8)) 14 10 0))) (by decide +kernel) rfl trivial ?_
    refine rf_goto C 92 162 (by decide +kernel) ?_
    obtain rfl := Option.some.inj hg
    exact rf_vret C hE (by decide +kernel)
theorem s_X8_next_8_b {w : rf_w} {K : rf_K} {r : rf_m} (C : rf_Ctx 8 cX8_next 1 5 (rf_sh w) K) (hE : rf_End none K (rf_sh w) 0 0 none (rf_MM w r)) {rec8 : rf_m → Option (rf_m)} (hr8 : ∀ (m : rf_m), rec8 m = some r → rf_V 1 (rf_sh w) K 0 0 8 ([(0, .ref 14)], [], rf_MM w m)) (m : rf_m) (hg : g_X8_next_8_b w rec8 m = some r) : rf_V 1 (rf_sh w) K 0 0 8 ([(0, .ref 14)], [], rf_MM w m) := by
  unfold g_X8_next_8_b at hg
  refine rf_seg C [(.aload 0, 1), (.invokeinterface 8 8, 3), (.aload 0, 1), (.invokeinterface 8 7, 3)] (pc' := 16) (S' := ([(0, .ref 14)], [.int (m.1 14 7), .int (m.1 14 8)], rf_MM w m)) (by decide +kernel) rfl trivial ?_
  refine rf_icmp_ge C 30 46 (by decide +kernel) (fun hc => ?_) (fun hc => ?_)
  · replace hg := (if_pos hc).symm.trans hg
    refine rf_few [0] rfl ?_
    exact s_X8_next_46 C hE m hg
  · replace hg := (if_neg hc).symm.trans hg
    obtain ⟨q0, hg⟩ := rf_g_some hg
    refine rf_seg C [(.aload 0, 1), (.invokeinterface 8 0, 3), (.aload 0, 1), (.invokeinterface 8 8, 3), (.iaload, 1), (.iconst 32, 2)] (pc' := 30) (S' := ([(0, .ref 14)], [.int 32, .int (m.1 15 (Int32.toNatClampNeg (m.1 14 8)))], rf_MM w m)) (by decide +kernel) rfl (rf_in_of q0) ?_
    refine rf_icmp_ne C 16 46 (by decide +kernel) (fun hc => ?_) (fun hc => ?_)
    · replace hg := (if_neg hc).symm.trans hg
      refine rf_few [0] rfl ?_
      exact s_X8_next_46 C hE m hg
    · replace hg := (if_pos hc).symm.trans hg
      refine rf_seg C [(.aload 0, 1), (.dup, 1), (.invokeinterface 8 8, 3), (.iconst 1, 1), (.iadd, 1), (.multianewarray 8 8, 3)] (pc' := 43) (S' := ([(0, .ref 14)], [], rf_MM w (rf_i m 14 8 ((m.1 14 8) + 1)))) (by decide +kernel) rfl trivial ?_
      refine rf_goto C (-35) 8 (by decide +kernel) ?_
      refine rf_few [0] rfl ?_
      exact hr8 (rf_i m 14 8 ((m.1 14 8) + 1)) hg
theorem s_X8_next_8 {w : rf_w} {K : rf_K} {r : rf_m} (C : rf_Ctx 8 cX8_next 1 5 (rf_sh w) K) (hE : rf_End none K (rf_sh w) 0 0 none (rf_MM w r)) (n : Nat) : ∀ (m : rf_m), g_X8_next_8 w n m = some r → rf_V 1 (rf_sh w) K 0 0 8 ([(0, .ref 14)], [], rf_MM w m) := by
  induction n with
  | zero => intro m hg; cases hg
  | succ n ih => intro m hg; exact s_X8_next_8_b C hE ih m hg
theorem c_X8_next {w : rf_w} {m : rf_m} {r : rf_m} (hg : g_X8_next w m = some r) : rf_Con j_X8_next 5 (rf_sh w) [.ref 14] (rf_MM w m) none (rf_MM w r) := by
  refine rf_con j_X8_next 5 ⟨by decide +kernel, rfl, Nat.le_of_ble_eq_true rfl⟩ (fun K C hE => ?_)
  unfold g_X8_next at hg
  show rf_V 1 (rf_sh w) K 0 0 0 ([(0, .ref 14)], [], rf_MM w m)
  refine rf_seg C [(.aload 0, 1), (.aload 0, 1), (.invokeinterface 8 9, 3), (.multianewarray 8 8, 3)] (pc' := 8) (S' := ([(0, .ref 14)], [], rf_MM w (rf_i m 14 8 (m.1 14 9)))) (by decide +kernel) rfl trivial ?_
  refine rf_few [0] rfl ?_
  exact s_X8_next_8 C hE rf_fuel (rf_i m 14 8 (m.1 14 9)) hg
-- J1_charAt_3b067
abbrev j_J1_charAt_3b067 : rf_J := (25, yJ1_charAt_3b067, cJ1_charAt_3b067, 2, (some .char))
theorem mw_J1_charAt_3b067 : rf_ms j_J1_charAt_3b067 2 := ⟨⟨rf_mem 42 (by decide +kernel), rf_mem 39 (by decide +kernel), rf_mem 42 (by decide +kernel)⟩, by decide +kernel, by decide⟩
def g_J1_charAt_3b067 (w : rf_w) (m : rf_m) (a0 : Nat) (a1 : Int32) : Option (Int32 × rf_m) := rf_g (rf_isS a0) (rf_bv (g_J0_checkIndex w m a1 (Int32.ofNat (rf_sB a0).length)) fun m1 => rf_g (rf_in a1 (rf_sB a0).length) (rf_g (rf_nb .char ((Int32.toUInt32 (((rf_sB a0).getD (Int32.toNatClampNeg a1) 0) &&& 255) % 65536).toInt32)) (some ((Int32.toUInt32 (((rf_sB a0).getD (Int32.toNatClampNeg a1) 0) &&& 255) % 65536).toInt32, m1))))
theorem c_J1_charAt_3b067 {w : rf_w} {m : rf_m} {a0 : Nat} {a1 : Int32} {r : Int32 × rf_m} (hg : g_J1_charAt_3b067 w m a0 a1 = some r) : rf_Con j_J1_charAt_3b067 3 (rf_sh w) [.ref (a0 + 1000000), .int a1] (rf_MM w m) (some (.int r.1)) (rf_MM w r.2) := by
  refine rf_con j_J1_charAt_3b067 3 ⟨by decide +kernel, rfl, Nat.le_of_ble_eq_true rfl⟩ (fun K C hE => ?_)
  unfold g_J1_charAt_3b067 at hg
  show rf_V 2 (rf_sh w) K 0 0 0 ([(0, .ref (a0 + 1000000)), (1, .int a1)], [], rf_MM w m)
  obtain ⟨q0, hg⟩ := rf_g_some hg
  refine rf_seg C [(.iload 1, 1), (.aload 0, 1)] (pc' := 2) (S' := ([(0, .ref (a0 + 1000000)), (1, .int a1)], [.ref (a0 + 1000000), .int a1], rf_MM w m)) (by decide +kernel) rfl trivial ?_
  refine rf_s_len C q0 (by decide +kernel) ?_
  show rf_V 2 (rf_sh w) K 0 0 3 ([(0, .ref (a0 + 1000000)), (1, .int a1)], [.int (Int32.ofNat (rf_sB a0).length), .int a1], rf_MM w m)
  obtain ⟨m1, hc1, hg⟩ := rf_bv_some hg
  refine rf_calls C rf_fit0 j_J0_checkIndex (As := [.int a1, .int (Int32.ofNat (rf_sB a0).length)]) (rest := []) mw_J0_checkIndex (c_J0_checkIndex hc1) (by decide) lk_25_9 rfl rfl (Nat.le_of_ble_eq_true rfl) (by decide +kernel) ?_
  show rf_V 2 (rf_sh w) K 0 0 6 ([(0, .ref (a0 + 1000000)), (1, .int a1)], [], rf_MM w m1)
  refine rf_seg C [(.aload 0, 1), (.iload 1, 1)] (pc' := 8) (S' := ([(0, .ref (a0 + 1000000)), (1, .int a1)], [.int a1, .ref (a0 + 1000000)], rf_MM w m1)) (by decide +kernel) rfl trivial ?_
  obtain ⟨q2, hg⟩ := rf_g_some hg
  refine rf_s_bald C q0 (rf_in_of q2) (by decide +kernel) ?_
  show rf_V 2 (rf_sh w) K 0 0 9 ([(0, .ref (a0 + 1000000)), (1, .int a1)], [.int ((rf_sB a0).getD (Int32.toNatClampNeg a1) 0)], rf_MM w m1)
  refine rf_seg C [(.iconst 255, 3), (.iand, 1), (.i2c, 1)] (pc' := 14) (S' := ([(0, .ref (a0 + 1000000)), (1, .int a1)], [.int ((Int32.toUInt32 (((rf_sB a0).getD (Int32.toNatClampNeg a1) 0) &&& 255) % 65536).toInt32)], rf_MM w m1)) (by decide +kernel) rfl trivial ?_
  obtain ⟨q01, hg⟩ := rf_g_some hg
  obtain rfl := Option.some.inj hg
  exact rf_nret C .char hE q01 (by decide +kernel)
-- J0_charAt_5068e
abbrev j_J0_charAt_5068e : rf_J := (24, yJ0_charAt_5068e, cJ0_charAt_5068e, 2, (some .char))
theorem mw_J0_charAt_5068e : rf_mv j_J0_charAt_5068e (rf_own 24) 1 := ⟨⟨rf_mem 42 (by decide +kernel), rf_mem 42 (by decide +kernel), rf_mem 38 (by decide +kernel), rf_mem 42 (by decide +kernel)⟩, by decide +kernel, by decide⟩
def g_J0_charAt_5068e (w : rf_w) (m : rf_m) (a0 : Nat) (a1 : Int32) : Option (Int32 × rf_m) := rf_g (rf_isS a0) (rf_b (g_J0_isLatin1_aae02 w m a0) fun y1 m1 => (if y1 = 0 then none else rf_b (g_J1_charAt_3b067 w m1 a0 a1) fun y2 m2 => rf_g (rf_nb .char y2) (some (y2, m2))))
theorem c_J0_charAt_5068e {w : rf_w} {m : rf_m} {a0 : Nat} {a1 : Int32} {r : Int32 × rf_m} (hg : g_J0_charAt_5068e w m a0 a1 = some r) : rf_Con j_J0_charAt_5068e 4 (rf_sh w) [.ref a0, .int a1] (rf_MM w m) (some (.int r.1)) (rf_MM w r.2) := by
  refine rf_con j_J0_charAt_5068e 4 ⟨by decide +kernel, rfl, Nat.le_of_ble_eq_true rfl⟩ (fun K C hE => ?_)
  unfold g_J0_charAt_5068e at hg
  show rf_V 2 (rf_sh w) K 0 0 0 ([(0, .ref a0), (1, .int a1)], [], rf_MM w m)
  obtain ⟨q0, hg⟩ := rf_g_some hg
  refine rf_seg C [(.aload 0, 1)] (pc' := 1) (S' := ([(0, .ref a0), (1, .int a1)], [.ref a0], rf_MM w m)) (by decide +kernel) rfl trivial ?_
  obtain ⟨y1, m1, hc1, hg⟩ := rf_b_some hg
  refine rf_callz C rf_fit0 j_J0_isLatin1_aae02 (As := []) (rest := []) mw_J0_isLatin1_aae02 (c_J0_isLatin1_aae02 hc1) (by decide) q0 lk_24_492 rfl rfl (Nat.le_of_ble_eq_true rfl) (by decide +kernel) ?_
  show rf_V 2 (rf_sh w) K 0 0 4 ([(0, .ref a0), (1, .int a1)], [.int y1], rf_MM w m1)
  refine rf_if_eq C 12 16 (by decide +kernel) (fun hc => ?_) (fun hc => ?_)
  · replace hg := (if_pos hc).symm.trans hg
    refine rf_seg C [(.aload 0, 1)] (pc' := 17) (S' := ([(0, .ref a0), (1, .int a1)], [.ref a0], rf_MM w m1)) (by decide +kernel) rfl trivial ?_
    refine rf_s_val C (idx := 9) q0 (rf_mem 38 (by decide +kernel)) (by decide +kernel) ?_
    show rf_V 2 (rf_sh w) K 0 0 20 ([(0, .ref a0), (1, .int a1)], [.ref (a0 + 1000000)], rf_MM w m1)
    refine rf_seg C [(.iload 1, 1)] (pc' := 21) (S' := ([(0, .ref a0), (1, .int a1)], [.int a1, .ref (a0 + 1000000)], rf_MM w m1)) (by decide +kernel) rfl trivial ?_
    exact absurd hg (by simp)
  · replace hg := (if_neg hc).symm.trans hg
    refine rf_seg C [(.aload 0, 1)] (pc' := 8) (S' := ([(0, .ref a0), (1, .int a1)], [.ref a0], rf_MM w m1)) (by decide +kernel) rfl trivial ?_
    refine rf_s_val C (idx := 9) q0 (rf_mem 38 (by decide +kernel)) (by decide +kernel) ?_
    show rf_V 2 (rf_sh w) K 0 0 11 ([(0, .ref a0), (1, .int a1)], [.ref (a0 + 1000000)], rf_MM w m1)
    refine rf_seg C [(.iload 1, 1)] (pc' := 12) (S' := ([(0, .ref a0), (1, .int a1)], [.int a1, .ref (a0 + 1000000)], rf_MM w m1)) (by decide +kernel) rfl trivial ?_
    obtain ⟨y2, m2, hc2, hg⟩ := rf_b_some hg
    refine rf_calls C rf_fit0 j_J1_charAt_3b067 (As := [.ref (a0 + 1000000), .int a1]) (rest := []) mw_J1_charAt_3b067 (c_J1_charAt_3b067 hc2) (by decide) lk_24_495 rfl rfl (Nat.le_of_ble_eq_true rfl) (by decide +kernel) ?_
    show rf_V 2 (rf_sh w) K 0 0 15 ([(0, .ref a0), (1, .int a1)], [.int y2], rf_MM w m2)
    obtain ⟨q01, hg⟩ := rf_g_some hg
    obtain rfl := Option.some.inj hg
    exact rf_nret C .char hE q01 (by decide +kernel)
-- X8_isWord
abbrev j_X8_isWord : rf_J := (8, yX8_isWord, cX8_isWord, 3, (some .boolean))
theorem mw_X8_isWord : rf_mv j_X8_isWord (rf_R 8) 1 := ⟨⟨rf_mem 42 (by decide +kernel), rf_mem 42 (by decide +kernel), rf_mem 2 (by decide +kernel), rf_mem 42 (by decide +kernel)⟩, by decide +kernel, by decide⟩
def g_X8_isWord_28_b (w : rf_w) (rec28 : Nat → Int32 → rf_m → Option (Int32 × rf_m)) (a1 : Nat) (a2 : Int32) (m : rf_m) : Option (Int32 × rf_m) := rf_g (rf_isS a1) (rf_b (g_J0_length_8abf5 w m a1) fun y1 m1 => (if y1 ≤ a2 then some (1, m1) else rf_g (rf_in ((m1.1 14 8) + a2) 300) (rf_b (g_J0_charAt_5068e w m1 a1 a2) fun y3 m3 => (if (m1.1 15 (Int32.toNatClampNeg ((m1.1 14 8) + a2))) = y3 then rec28 a1 (a2 + 1) m3 else some (0, m3)))))
def g_X8_isWord_28 (w : rf_w) : Nat → Nat → Int32 → rf_m → Option (Int32 × rf_m)
  | 0, _, _, _ => none
  | n + 1, a1, a2, m => g_X8_isWord_28_b w (g_X8_isWord_28 w n) a1 a2 m
def g_X8_isWord (w : rf_w) (m : rf_m) (a1 : Nat) : Option (Int32 × rf_m) := rf_g (rf_isS a1) ((if (m.1 14 10) = 2 then rf_b (g_J0_length_8abf5 w m a1) fun y1 m1 => (if ((m.1 14 9) - (m.1 14 8)) = y1 then g_X8_isWord_28 w rf_fuel a1 0 m1 else some (0, m1)) else some (0, m)))
theorem s_X8_isWord_28_b {w : rf_w} {K : rf_K} {r : Int32 × rf_m} (C : rf_Ctx 8 cX8_isWord 3 5 (rf_sh w) K) (hE : rf_End (some .boolean) K (rf_sh w) 0 0 (some (.int r.1)) (rf_MM w r.2)) {rec28 : Nat → Int32 → rf_m → Option (Int32 × rf_m)} (hr28 : ∀ (a1 : Nat) (a2 : Int32) (m : rf_m), rec28 a1 a2 m = some r → rf_V 3 (rf_sh w) K 0 0 28 ([(0, .ref 14), (1, .ref a1), (2, .int a2)], [], rf_MM w m)) (a1 : Nat) (a2 : Int32) (m : rf_m) (hg : g_X8_isWord_28_b w rec28 a1 a2 m = some r) : rf_V 3 (rf_sh w) K 0 0 28 ([(0, .ref 14), (1, .ref a1), (2, .int a2)], [], rf_MM w m) := by
  unfold g_X8_isWord_28_b at hg
  obtain ⟨q0, hg⟩ := rf_g_some hg
  refine rf_seg C [(.iload 2, 1), (.aload 1, 1)] (pc' := 30) (S' := ([(0, .ref 14), (1, .ref a1), (2, .int a2)], [.ref a1, .int a2], rf_MM w m)) (by decide +kernel) rfl trivial ?_
  obtain ⟨y1, m1, hc1, hg⟩ := rf_b_some hg
  refine rf_callz C rf_fit0 j_J0_length_8abf5 (As := []) (rest := [.int a2]) mw_J0_length_8abf5 (c_J0_length_8abf5 hc1) (by decide) q0 lk_8_170 rfl rfl (Nat.le_of_ble_eq_true rfl) (by decide +kernel) ?_
  show rf_V 3 (rf_sh w) K 0 0 33 ([(0, .ref 14), (1, .ref a1), (2, .int a2)], [.int y1, .int a2], rf_MM w m1)
  refine rf_icmp_ge C 30 63 (by decide +kernel) (fun hc => ?_) (fun hc => ?_)
  · replace hg := (if_pos hc).symm.trans hg
    refine rf_seg C [(.iconst 1, 1)] (pc' := 64) (S' := ([(0, .ref 14), (1, .ref a1), (2, .int a2)], [.int 1], rf_MM w m1)) (by decide +kernel) rfl trivial ?_
    obtain rfl := Option.some.inj hg
    exact rf_zret C hE (by decide) (by decide +kernel)
  · replace hg := (if_neg hc).symm.trans hg
    obtain ⟨q2, hg⟩ := rf_g_some hg
    refine rf_seg C [(.aload 0, 1), (.invokeinterface 8 0, 3), (.aload 0, 1), (.invokeinterface 8 8, 3), (.iload 2, 1), (.iadd, 1), (.iaload, 1), (.aload 1, 1), (.iload 2, 1)] (pc' := 49) (S' := ([(0, .ref 14), (1, .ref a1), (2, .int a2)], [.int a2, .ref a1, .int (m1.1 15 (Int32.toNatClampNeg ((m1.1 14 8) + a2)))], rf_MM w m1)) (by decide +kernel) rfl (rf_in_of q2) ?_
    obtain ⟨y3, m3, hc3, hg⟩ := rf_b_some hg
    refine rf_callz C rf_fit0 j_J0_charAt_5068e (As := [.int a2]) (rest := [.int (m1.1 15 (Int32.toNatClampNeg ((m1.1 14 8) + a2)))]) mw_J0_charAt_5068e (c_J0_charAt_5068e hc3) (by decide) q0 lk_8_172 rfl rfl (Nat.le_of_ble_eq_true rfl) (by decide +kernel) ?_
    show rf_V 3 (rf_sh w) K 0 0 52 ([(0, .ref 14), (1, .ref a1), (2, .int a2)], [.int y3, .int (m1.1 15 (Int32.toNatClampNeg ((m1.1 14 8) + a2)))], rf_MM w m3)
    refine rf_icmp_eq C 5 57 (by decide +kernel) (fun hc => ?_) (fun hc => ?_)
    · replace hg := (if_pos hc).symm.trans hg
      refine rf_seg C [(.iinc 2 1, 3)] (pc' := 60) (S' := ([(2, .int (a2 + 1)), (0, .ref 14), (1, .ref a1)], [], rf_MM w m3)) (by decide +kernel) rfl trivial ?_
      refine rf_goto C (-32) 28 (by decide +kernel) ?_
      refine rf_few [1, 2, 0] rfl ?_
      exact hr28 a1 (a2 + 1) m3 hg
    · replace hg := (if_neg hc).symm.trans hg
      refine rf_seg C [(.iconst 0, 1)] (pc' := 56) (S' := ([(0, .ref 14), (1, .ref a1), (2, .int a2)], [.int 0], rf_MM w m3)) (by decide +kernel) rfl trivial ?_
      obtain rfl := Option.some.inj hg
      exact rf_zret C hE (by decide) (by decide +kernel)
theorem s_X8_isWord_28 {w : rf_w} {K : rf_K} {r : Int32 × rf_m} (C : rf_Ctx 8 cX8_isWord 3 5 (rf_sh w) K) (hE : rf_End (some .boolean) K (rf_sh w) 0 0 (some (.int r.1)) (rf_MM w r.2)) (n : Nat) : ∀ (a1 : Nat) (a2 : Int32) (m : rf_m), g_X8_isWord_28 w n a1 a2 m = some r → rf_V 3 (rf_sh w) K 0 0 28 ([(0, .ref 14), (1, .ref a1), (2, .int a2)], [], rf_MM w m) := by
  induction n with
  | zero => intro a1 a2 m hg; cases hg
  | succ n ih => intro a1 a2 m hg; exact s_X8_isWord_28_b C hE ih a1 a2 m hg
theorem c_X8_isWord {w : rf_w} {m : rf_m} {a1 : Nat} {r : Int32 × rf_m} (hg : g_X8_isWord w m a1 = some r) : rf_Con j_X8_isWord 5 (rf_sh w) [.ref 14, .ref a1] (rf_MM w m) (some (.int r.1)) (rf_MM w r.2) := by
  refine rf_con j_X8_isWord 5 ⟨by decide +kernel, rfl, Nat.le_of_ble_eq_true rfl⟩ (fun K C hE => ?_)
  unfold g_X8_isWord at hg
  show rf_V 3 (rf_sh w) K 0 0 0 ([(0, .ref 14), (1, .ref a1)], [], rf_MM w m)
  obtain ⟨q0, hg⟩ := rf_g_some hg
  refine rf_seg C [(.aload 0, 1), (.invokeinterface 8 10, 3), (.iconst 2, 1)] (pc' := 5) (S' := ([(0, .ref 14), (1, .ref a1)], [.int 2, .int (m.1 14 10)], rf_MM w m)) (by decide +kernel) rfl trivial ?_
  refine rf_icmp_ne C 19 24 (by decide +kernel) (fun hc => ?_) (fun hc => ?_)
  · replace hg := (if_neg hc).symm.trans hg
    refine rf_seg C [(.iconst 0, 1)] (pc' := 25) (S' := ([(0, .ref 14), (1, .ref a1)], [.int 0], rf_MM w m)) (by decide +kernel) rfl trivial ?_
    obtain rfl := Option.some.inj hg
    exact rf_zret C hE (by decide) (by decide +kernel)
  · replace hg := (if_pos hc).symm.trans hg
    refine rf_seg C [(.aload 0, 1), (.invokeinterface 8 9, 3), (.aload 0, 1), (.invokeinterface 8 8, 3), (.isub, 1), (.aload 1, 1)] (pc' := 18) (S' := ([(0, .ref 14), (1, .ref a1)], [.ref a1, .int ((m.1 14 9) - (m.1 14 8))], rf_MM w m)) (by decide +kernel) rfl trivial ?_
    obtain ⟨y1, m1, hc1, hg⟩ := rf_b_some hg
    refine rf_callz C rf_fit0 j_J0_length_8abf5 (As := []) (rest := [.int ((m.1 14 9) - (m.1 14 8))]) mw_J0_length_8abf5 (c_J0_length_8abf5 hc1) (by decide) q0 lk_8_170 rfl rfl (Nat.le_of_ble_eq_true rfl) (by decide +kernel) ?_
    show rf_V 3 (rf_sh w) K 0 0 21 ([(0, .ref 14), (1, .ref a1)], [.int y1, .int ((m.1 14 9) - (m.1 14 8))], rf_MM w m1)
    refine rf_icmp_eq C 5 26 (by decide +kernel) (fun hc => ?_) (fun hc => ?_)
    · replace hg := (if_pos hc).symm.trans hg
      refine rf_seg C [(.iconst 0, 1), (.istore 2, 1)] (pc' := 28) (S' := ([(2, .int 0), (0, .ref 14), (1, .ref a1)], [], rf_MM w m1)) (by decide +kernel) rfl trivial ?_
      refine rf_few [1, 2, 0] rfl ?_
      exact s_X8_isWord_28 C hE rf_fuel a1 0 m1 hg
    · replace hg := (if_neg hc).symm.trans hg
      refine rf_seg C [(.iconst 0, 1)] (pc' := 25) (S' := ([(0, .ref 14), (1, .ref a1)], [.int 0], rf_MM w m1)) (by decide +kernel) rfl trivial ?_
      obtain rfl := Option.some.inj hg
      exact rf_zret C hE (by decide) (by decide +kernel)
-- X8_takeJoint
abbrev j_X8_takeJoint : rf_J := (8, yX8_takeJoint, cX8_takeJoint, 1, none)
theorem mw_X8_takeJoint : rf_mv j_X8_takeJoint (rf_R 8) 0 := ⟨⟨rf_mem 45 (by decide +kernel), rf_mem 45 (by decide +kernel), rf_mem 2 (by decide +kernel), rf_mem 45 (by decide +kernel)⟩, by decide +kernel, by decide⟩
def g_X8_takeJoint_88 (w : rf_w) (m : rf_m) : Option (rf_m) := (if (m.1 14 10) = 0 then (if (m.1 14 16) = 0 then rf_bv (g_X8_release w m ((-20))) fun m2 => some (rf_i m2 14 12 6) else rf_bv (g_X8_fail w m 1) fun m1 => some m1) else rf_bv (g_X8_fail w m 1) fun m0 => some m0)
def g_X8_takeJoint (w : rf_w) (m : rf_m) : Option (rf_m) := rf_b (g_X8_isWord w m 1000007) fun y0 m0 => (if y0 = 0 then rf_b (g_X8_isWord w m0 1000008) fun y1 m1 => (if y1 = 0 then (if (m1.1 14 10) = 41 then (if (m1.1 14 16) ≤ 0 then g_X8_takeJoint_88 w m1 else rf_bv (g_X8_release w (rf_i m1 14 16 ((m1.1 14 16) - 1)) ((-20))) fun m2 => some (rf_i (rf_i m2 14 18 ((m2.1 14 18) - 1)) 14 12 5)) else g_X8_takeJoint_88 w m1) else rf_bv (g_X8_join w m1 ((-19)) 2) fun m3 => some m3) else rf_bv (g_X8_join w m0 ((-18)) 2) fun m4 => some m4)
theorem s_X8_takeJoint_88 {w : rf_w} {K : rf_K} {r : rf_m} (C : rf_Ctx 8 cX8_takeJoint 1 6 (rf_sh w) K) (hE : rf_End none K (rf_sh w) 0 0 none (rf_MM w r)) (m : rf_m) (hg : g_X8_takeJoint_88 w m = some r) : rf_V 1 (rf_sh w) K 0 0 88 ([(0, .ref 14)], [], rf_MM w m) := by
  unfold g_X8_takeJoint_88 at hg
  refine rf_seg C [(.aload 0, 1), (.invokeinterface 8 10, 3)] (pc' := 92) (S' := ([(0, .ref 14)], [.int (m.1 14 10)], rf_MM w m)) (by decide +kernel) rfl trivial ?_
  refine rf_if_ne C 25 117 (by decide +kernel) (fun hc => ?_) (fun hc => ?_)
  · replace hg := (if_neg hc).symm.trans hg
    refine rf_seg C [(.aload 0, 1), (.iconst 1, 1)] (pc' := 119) (S' := ([(0, .ref 14)], [.int 1, .ref 14], rf_MM w m)) (by decide +kernel) rfl trivial ?_
    obtain ⟨m0, hc0, hg⟩ := rf_bv_some hg
    refine rf_callv C rf_fit0 j_X8_fail (ci := 8) (As := [.int 1]) (rest := []) mw_X8_fail (c_X8_fail hc0) (by decide) rfl (by decide) lk_8_96 rfl rfl (Nat.le_of_ble_eq_true rfl) (by decide +kernel) ?_
    show rf_V 1 (rf_sh w) K 0 0 122 ([(0, .ref 14)], [], rf_MM w m0)
    obtain rfl := Option.some.inj hg
    exact rf_vret C hE (by decide +kernel)
  · replace hg := (if_pos hc).symm.trans hg
    refine rf_seg C [(.aload 0, 1), (.invokeinterface 8 16, 3)] (pc' := 99) (S' := ([(0, .ref 14)], [.int (m.1 14 16)], rf_MM w m)) (by decide +kernel) rfl trivial ?_
    refine rf_if_ne C 18 117 (by decide +kernel) (fun hc => ?_) (fun hc => ?_)
    · replace hg := (if_neg hc).symm.trans hg
      refine rf_seg C [(.aload 0, 1), (.iconst 1, 1)] (pc' := 119) (S' := ([(0, .ref 14)], [.int 1, .ref 14], rf_MM w m)) (by decide +kernel) rfl trivial ?_
      obtain ⟨m1, hc1, hg⟩ := rf_bv_some hg
      refine rf_callv C rf_fit0 j_X8_fail (ci := 8) (As := [.int 1]) (rest := []) mw_X8_fail (c_X8_fail hc1) (by decide) rfl (by decide) lk_8_96 rfl rfl (Nat.le_of_ble_eq_true rfl) (by decide +kernel) ?_
      show rf_V 1 (rf_sh w) K 0 0 122 ([(0, .ref 14)], [], rf_MM w m1)
      obtain rfl := Option.some.inj hg
      exact rf_vret C hE (by decide +kernel)
    · replace hg := (if_pos hc).symm.trans hg
      refine rf_seg C [(.aload 0, 1), (.iconst (-20), 2)] (pc' := 105) (S' := ([(0, .ref 14)], [.int ((-20)), .ref 14], rf_MM w m)) (by decide +kernel) rfl trivial ?_
      obtain ⟨m2, hc2, hg⟩ := rf_bv_some hg
      refine rf_callv C rf_fit0 j_X8_release (ci := 8) (As := [.int ((-20))]) (rest := []) mw_X8_release (c_X8_release hc2) (by decide) rfl (by decide) lk_8_136 rfl rfl (Nat.le_of_ble_eq_true rfl) (by decide +kernel) ?_
      show rf_V 1 (rf_sh w) K 0 0 108 ([(0, .ref 14)], [], rf_MM w m2)
      refine rf_seg C [(.aload 0, 1), (.iconst 6, 2), (.multianewarray 8 12, 3)] (pc' := 114) (S' := ([(0, .ref 14)], [], rf_MM w (rf_i m2 14 12 6))) (by decide +kernel) rfl trivial ?_
      refine rf_goto C 8 122 (by decide +kernel) ?_
      obtain rfl := Option.some.inj hg
      exact rf_vret C hE (by decide +kernel)
theorem c_X8_takeJoint {w : rf_w} {m : rf_m} {r : rf_m} (hg : g_X8_takeJoint w m = some r) : rf_Con j_X8_takeJoint 6 (rf_sh w) [.ref 14] (rf_MM w m) none (rf_MM w r) := by
  refine rf_con j_X8_takeJoint 6 ⟨by decide +kernel, rfl, Nat.le_of_ble_eq_true rfl⟩ (fun K C hE => ?_)
  unfold g_X8_takeJoint at hg
  show rf_V 1 (rf_sh w) K 0 0 0 ([(0, .ref 14)], [], rf_MM w m)
  refine rf_seg C [(.aload 0, 1)] (pc' := 1) (S' := ([(0, .ref 14)], [.ref 14], rf_MM w m)) (by decide +kernel) rfl trivial ?_
  refine rf_s_ldc C 1000007 (idx := 139) (by decide +kernel) (by decide +kernel) ?_
  show rf_V 1 (rf_sh w) K 0 0 3 ([(0, .ref 14)], [.ref 1000007, .ref 14], rf_MM w m)
  obtain ⟨y0, m0, hc0, hg⟩ := rf_b_some hg
  refine rf_callv C rf_fit0 j_X8_isWord (ci := 8) (As := [.ref 1000007]) (rest := []) mw_X8_isWord (c_X8_isWord hc0) (by decide) rfl (by decide) lk_8_102 rfl rfl (Nat.le_of_ble_eq_true rfl) (by decide +kernel) ?_
  show rf_V 1 (rf_sh w) K 0 0 6 ([(0, .ref 14)], [.int y0], rf_MM w m0)
  refine rf_if_eq C 13 19 (by decide +kernel) (fun hc => ?_) (fun hc => ?_)
  · replace hg := (if_pos hc).symm.trans hg
    refine rf_seg C [(.aload 0, 1)] (pc' := 20) (S' := ([(0, .ref 14)], [.ref 14], rf_MM w m0)) (by decide +kernel) rfl trivial ?_
    refine rf_s_ldc C 1000008 (idx := 141) (by decide +kernel) (by decide +kernel) ?_
    show rf_V 1 (rf_sh w) K 0 0 22 ([(0, .ref 14)], [.ref 1000008, .ref 14], rf_MM w m0)
    obtain ⟨y1, m1, hc1, hg⟩ := rf_b_some hg
    refine rf_callv C rf_fit0 j_X8_isWord (ci := 8) (As := [.ref 1000008]) (rest := []) mw_X8_isWord (c_X8_isWord hc1) (by decide) rfl (by decide) lk_8_102 rfl rfl (Nat.le_of_ble_eq_true rfl) (by decide +kernel) ?_
    show rf_V 1 (rf_sh w) K 0 0 25 ([(0, .ref 14)], [.int y1], rf_MM w m1)
    refine rf_if_eq C 13 38 (by decide +kernel) (fun hc => ?_) (fun hc => ?_)
    · replace hg := (if_pos hc).symm.trans hg
      refine rf_seg C [(.aload 0, 1), (.invokeinterface 8 10, 3), (.iconst 41, 2)] (pc' := 44) (S' := ([(0, .ref 14)], [.int 41, .int (m1.1 14 10)], rf_MM w m1)) (by decide +kernel) rfl trivial ?_
      refine rf_icmp_ne C 44 88 (by decide +kernel) (fun hc => ?_) (fun hc => ?_)
      · replace hg := (if_neg hc).symm.trans hg
        refine rf_few [0] rfl ?_
        exact s_X8_takeJoint_88 C hE m1 hg
      · replace hg := (if_pos hc).symm.trans hg
        refine rf_seg C [(.aload 0, 1), (.invokeinterface 8 16, 3)] (pc' := 51) (S' := ([(0, .ref 14)], [.int (m1.1 14 16)], rf_MM w m1)) (by decide +kernel) rfl trivial ?_
        refine rf_if_le C 37 88 (by decide +kernel) (fun hc => ?_) (fun hc => ?_)
        · replace hg := (if_pos hc).symm.trans hg
          refine rf_few [0] rfl ?_
          exact s_X8_takeJoint_88 C hE m1 hg
        · replace hg := (if_neg hc).symm.trans hg
          refine rf_seg C [(.aload 0, 1), (.dup, 1), (.invokeinterface 8 16, 3), (.iconst 1, 1), (.isub, 1), (.multianewarray 8 16, 3), (.aload 0, 1), (.iconst (-20), 2)] (pc' := 67) (S' := ([(0, .ref 14)], [.int ((-20)), .ref 14], rf_MM w (rf_i m1 14 16 ((m1.1 14 16) - 1)))) (by decide +kernel) rfl trivial ?_
          obtain ⟨m2, hc2, hg⟩ := rf_bv_some hg
          refine rf_callv C rf_fit0 j_X8_release (ci := 8) (As := [.int ((-20))]) (rest := []) mw_X8_release (c_X8_release hc2) (by decide) rfl (by decide) lk_8_136 rfl rfl (Nat.le_of_ble_eq_true rfl) (by decide +kernel) ?_
          show rf_V 1 (rf_sh w) K 0 0 70 ([(0, .ref 14)], [], rf_MM w m2)
          refine rf_seg C [(.aload 0, 1), (.dup, 1), (.invokeinterface 8 18, 3), (.iconst 1, 1), (.isub, 1), (.multianewarray 8 18, 3), (.aload 0, 1), (.iconst 5, 1), (.multianewarray 8 12, 3)] (pc' := 85) (S' := ([(0, .ref 14)], [], rf_MM w (rf_i (rf_i m2 14 18 ((m2.1 14 18) - 1)) 14 12 5))) (by decide +kernel) rfl trivial ?_
          refine rf_goto C 37 122 (by decide +kernel) ?_
          obtain rfl := Option.some.inj hg
          exact rf_vret C hE (by decide +kernel)
    · replace hg := (if_neg hc).symm.trans hg
      refine rf_seg C [(.aload 0, 1), (.iconst (-19), 2), (.iconst 2, 1)] (pc' := 32) (S' := ([(0, .ref 14)], [.int 2, .int ((-19)), .ref 14], rf_MM w m1)) (by decide +kernel) rfl trivial ?_
      obtain ⟨m3, hc3, hg⟩ := rf_bv_some hg
      refine rf_callv C rf_fit0 j_X8_join (ci := 8) (As := [.int ((-19)), .int 2]) (rest := []) mw_X8_join (c_X8_join hc3) (by decide) rfl (by decide) lk_8_129 rfl rfl (Nat.le_of_ble_eq_true rfl) (by decide +kernel) ?_
      show rf_V 1 (rf_sh w) K 0 0 35 ([(0, .ref 14)], [], rf_MM w m3)
      refine rf_goto C 87 122 (by decide +kernel) ?_
      obtain rfl := Option.some.inj hg
      exact rf_vret C hE (by decide +kernel)
  · replace hg := (if_neg hc).symm.trans hg
    refine rf_seg C [(.aload 0, 1), (.iconst (-18), 2), (.iconst 2, 1)] (pc' := 13) (S' := ([(0, .ref 14)], [.int 2, .int ((-18)), .ref 14], rf_MM w m0)) (by decide +kernel) rfl trivial ?_
    obtain ⟨m4, hc4, hg⟩ := rf_bv_some hg
    refine rf_callv C rf_fit0 j_X8_join (ci := 8) (As := [.int ((-18)), .int 2]) (rest := []) mw_X8_join (c_X8_join hc4) (by decide) rfl (by decide) lk_8_129 rfl rfl (Nat.le_of_ble_eq_true rfl) (by decide +kernel) ?_
    show rf_V 1 (rf_sh w) K 0 0 16 ([(0, .ref 14)], [], rf_MM w m4)
    refine rf_goto C 106 122 (by decide +kernel) ?_
    obtain rfl := Option.some.inj hg
    exact rf_vret C hE (by decide +kernel)
-- X8_takeIf
abbrev j_X8_takeIf : rf_J := (8, yX8_takeIf, cX8_takeIf, 1, none)
theorem mw_X8_takeIf : rf_mv j_X8_takeIf (rf_R 8) 0 := ⟨⟨rf_mem 43 (by decide +kernel), rf_mem 43 (by decide +kernel), rf_mem 2 (by decide +kernel), rf_mem 43 (by decide +kernel)⟩, by decide +kernel, by decide⟩
def g_X8_takeIf (w : rf_w) (m : rf_m) : Option (rf_m) := rf_b (g_X8_isWord w m 1000006) fun y0 m0 => (if y0 = 0 then rf_bv (g_X8_fail w m0 1) fun m1 => some m1 else some (rf_i m0 14 12 2))
theorem c_X8_takeIf {w : rf_w} {m : rf_m} {r : rf_m} (hg : g_X8_takeIf w m = some r) : rf_Con j_X8_takeIf 6 (rf_sh w) [.ref 14] (rf_MM w m) none (rf_MM w r) := by
  refine rf_con j_X8_takeIf 6 ⟨by decide +kernel, rfl, Nat.le_of_ble_eq_true rfl⟩ (fun K C hE => ?_)
  unfold g_X8_takeIf at hg
  show rf_V 1 (rf_sh w) K 0 0 0 ([(0, .ref 14)], [], rf_MM w m)
  refine rf_seg C [(.aload 0, 1)] (pc' := 1) (S' := ([(0, .ref 14)], [.ref 14], rf_MM w m)) (by decide +kernel) rfl trivial ?_
  refine rf_s_ldc C 1000006 (idx := 100) (by decide +kernel) (by decide +kernel) ?_
  show rf_V 1 (rf_sh w) K 0 0 3 ([(0, .ref 14)], [.ref 1000006, .ref 14], rf_MM w m)
  obtain ⟨y0, m0, hc0, hg⟩ := rf_b_some hg
  refine rf_callv C rf_fit0 j_X8_isWord (ci := 8) (As := [.ref 1000006]) (rest := []) mw_X8_isWord (c_X8_isWord hc0) (by decide) rfl (by decide) lk_8_102 rfl rfl (Nat.le_of_ble_eq_true rfl) (by decide +kernel) ?_
  show rf_V 1 (rf_sh w) K 0 0 6 ([(0, .ref 14)], [.int y0], rf_MM w m0)
  refine rf_if_eq C 11 17 (by decide +kernel) (fun hc => ?_) (fun hc => ?_)
  · replace hg := (if_pos hc).symm.trans hg
    refine rf_seg C [(.aload 0, 1), (.iconst 1, 1)] (pc' := 19) (S' := ([(0, .ref 14)], [.int 1, .ref 14], rf_MM w m0)) (by decide +kernel) rfl trivial ?_
    obtain ⟨m1, hc1, hg⟩ := rf_bv_some hg
    refine rf_callv C rf_fit0 j_X8_fail (ci := 8) (As := [.int 1]) (rest := []) mw_X8_fail (c_X8_fail hc1) (by decide) rfl (by decide) lk_8_96 rfl rfl (Nat.le_of_ble_eq_true rfl) (by decide +kernel) ?_
    show rf_V 1 (rf_sh w) K 0 0 22 ([(0, .ref 14)], [], rf_MM w m1)
    obtain rfl := Option.some.inj hg
    exact rf_vret C hE (by decide +kernel)
  · replace hg := (if_neg hc).symm.trans hg
    refine rf_seg C [(.aload 0, 1), (.iconst 2, 1), (.multianewarray 8 12, 3)] (pc' := 14) (S' := ([(0, .ref 14)], [], rf_MM w (rf_i m0 14 12 2))) (by decide +kernel) rfl trivial ?_
    refine rf_goto C 8 22 (by decide +kernel) ?_
    obtain rfl := Option.some.inj hg
    exact rf_vret C hE (by decide +kernel)
-- X8_endSum
abbrev j_X8_endSum : rf_J := (8, yX8_endSum, cX8_endSum, 1, none)
theorem mw_X8_endSum : rf_mv j_X8_endSum (rf_R 8) 0 := ⟨⟨rf_mem 45 (by decide +kernel), rf_mem 45 (by decide +kernel), rf_mem 2 (by decide +kernel), rf_mem 45 (by decide +kernel)⟩, by decide +kernel, by decide⟩
def g_X8_endSum (w : rf_w) (m : rf_m) : Option (rf_m) := rf_bv (g_X8_release w m ((-20))) fun m0 => (if ((rf_i m0 14 3 (m0.1 14 2)).1 14 10) = 0 then some (rf_i (rf_i m0 14 3 (m0.1 14 2)) 14 12 6) else (if ((rf_i m0 14 3 (m0.1 14 2)).1 14 4) = 2 then rf_bv (g_X8_takeIf w (rf_i m0 14 3 (m0.1 14 2))) fun m2 => some m2 else rf_bv (g_X8_fail w (rf_i m0 14 3 (m0.1 14 2)) 1) fun m1 => some m1))
theorem c_X8_endSum {w : rf_w} {m : rf_m} {r : rf_m} (hg : g_X8_endSum w m = some r) : rf_Con j_X8_endSum 7 (rf_sh w) [.ref 14] (rf_MM w m) none (rf_MM w r) := by
  refine rf_con j_X8_endSum 7 ⟨by decide +kernel, rfl, Nat.le_of_ble_eq_true rfl⟩ (fun K C hE => ?_)
  unfold g_X8_endSum at hg
  show rf_V 1 (rf_sh w) K 0 0 0 ([(0, .ref 14)], [], rf_MM w m)
  refine rf_seg C [(.aload 0, 1), (.iconst (-20), 2)] (pc' := 3) (S' := ([(0, .ref 14)], [.int ((-20)), .ref 14], rf_MM w m)) (by decide +kernel) rfl trivial ?_
  obtain ⟨m0, hc0, hg⟩ := rf_bv_some hg
  refine rf_callv C rf_fit0 j_X8_release (ci := 8) (As := [.int ((-20))]) (rest := []) mw_X8_release (c_X8_release hc0) (by decide) rfl (by decide) lk_8_136 rfl rfl (Nat.le_of_ble_eq_true rfl) (by decide +kernel) ?_
  show rf_V 1 (rf_sh w) K 0 0 6 ([(0, .ref 14)], [], rf_MM w m0)
  refine rf_seg C [(.aload 0, 1), (.aload 0, 1), (.invokeinterface 8 2, 3), (.multianewarray 8 3, 3), (.aload 0, 1), (.invokeinterface 8 10, 3)] (pc' := 18) (S' := ([(0, .ref 14)], [.int ((rf_i m0 14 3 (m0.1 14 2)).1 14 10)], rf_MM w (rf_i m0 14 3 (m0.1 14 2)))) (by decide +kernel) rfl trivial ?_
  refine rf_if_ne C 12 30 (by decide +kernel) (fun hc => ?_) (fun hc => ?_)
  · replace hg := (if_neg hc).symm.trans hg
    refine rf_seg C [(.aload 0, 1), (.invokeinterface 8 4, 3), (.iconst 2, 1)] (pc' := 35) (S' := ([(0, .ref 14)], [.int 2, .int ((rf_i m0 14 3 (m0.1 14 2)).1 14 4)], rf_MM w (rf_i m0 14 3 (m0.1 14 2)))) (by decide +kernel) rfl trivial ?_
    refine rf_icmp_ne C 10 45 (by decide +kernel) (fun hc => ?_) (fun hc => ?_)
    · replace hg := (if_neg hc).symm.trans hg
      refine rf_seg C [(.aload 0, 1), (.iconst 1, 1)] (pc' := 47) (S' := ([(0, .ref 14)], [.int 1, .ref 14], rf_MM w (rf_i m0 14 3 (m0.1 14 2)))) (by decide +kernel) rfl trivial ?_
      obtain ⟨m1, hc1, hg⟩ := rf_bv_some hg
      refine rf_callv C rf_fit0 j_X8_fail (ci := 8) (As := [.int 1]) (rest := []) mw_X8_fail (c_X8_fail hc1) (by decide) rfl (by decide) lk_8_96 rfl rfl (Nat.le_of_ble_eq_true rfl) (by decide +kernel) ?_
      show rf_V 1 (rf_sh w) K 0 0 50 ([(0, .ref 14)], [], rf_MM w m1)
      obtain rfl := Option.some.inj hg
      exact rf_vret C hE (by decide +kernel)
    · replace hg := (if_pos hc).symm.trans hg
      refine rf_seg C [(.aload 0, 1)] (pc' := 39) (S' := ([(0, .ref 14)], [.ref 14], rf_MM w (rf_i m0 14 3 (m0.1 14 2)))) (by decide +kernel) rfl trivial ?_
      obtain ⟨m2, hc2, hg⟩ := rf_bv_some hg
      refine rf_callv C rf_fit0 j_X8_takeIf (ci := 8) (As := []) (rest := []) mw_X8_takeIf (c_X8_takeIf hc2) (by decide) rfl (by decide) lk_8_67 rfl rfl (Nat.le_of_ble_eq_true rfl) (by decide +kernel) ?_
      show rf_V 1 (rf_sh w) K 0 0 42 ([(0, .ref 14)], [], rf_MM w m2)
      refine rf_goto C 8 50 (by decide +kernel) ?_
      obtain rfl := Option.some.inj hg
      exact rf_vret C hE (by decide +kernel)
  · replace hg := (if_pos hc).symm.trans hg
    refine rf_seg C [(.aload 0, 1), (.iconst 6, 2), (.multianewarray 8 12, 3)] (pc' := 27) (S' := ([(0, .ref 14)], [], rf_MM w (rf_i (rf_i m0 14 3 (m0.1 14 2)) 14 12 6))) (by decide +kernel) rfl trivial ?_
    refine rf_goto C 23 50 (by decide +kernel) ?_
    obtain rfl := Option.some.inj hg
    exact rf_vret C hE (by decide +kernel)
-- X8_takeSign
abbrev j_X8_takeSign : rf_J := (8, yX8_takeSign, cX8_takeSign, 2, none)
theorem mw_X8_takeSign : rf_mv j_X8_takeSign (rf_R 8) 0 := ⟨⟨rf_mem 44 (by decide +kernel), rf_mem 44 (by decide +kernel), rf_mem 2 (by decide +kernel), rf_mem 44 (by decide +kernel)⟩, by decide +kernel, by decide⟩
def g_X8_takeSign (w : rf_w) (m : rf_m) : Option (rf_m) := rf_b (g_X8_signHere w m) fun y0 m0 => (if y0 = ((-11)) then rf_bv (g_X8_join w m0 y0 3) fun m1 => some m1 else (if y0 = ((-12)) then rf_bv (g_X8_join w m0 y0 3) fun m2 => some m2 else (if y0 = ((-13)) then rf_bv (g_X8_join w m0 y0 3) fun m7 => some m7 else (if (m0.1 14 13) = 2 then rf_bv (g_X8_takeJoint w m0) fun m6 => some m6 else (if (m0.1 14 13) = 0 then rf_bv (g_X8_endSum w m0) fun m5 => some m5 else (if y0 = ((-1)) then rf_bv (g_X8_fail w m0 1) fun m3 => some m3 else rf_bv (g_X8_join w (rf_i m0 14 13 2) y0 3) fun m4 => some m4))))))
theorem c_X8_takeSign {w : rf_w} {m : rf_m} {r : rf_m} (hg : g_X8_takeSign w m = some r) : rf_Con j_X8_takeSign 8 (rf_sh w) [.ref 14] (rf_MM w m) none (rf_MM w r) := by
  refine rf_con j_X8_takeSign 8 ⟨by decide +kernel, rfl, Nat.le_of_ble_eq_true rfl⟩ (fun K C hE => ?_)
  unfold g_X8_takeSign at hg
  show rf_V 2 (rf_sh w) K 0 0 0 ([(0, .ref 14)], [], rf_MM w m)
  refine rf_seg C [(.aload 0, 1)] (pc' := 1) (S' := ([(0, .ref 14)], [.ref 14], rf_MM w m)) (by decide +kernel) rfl trivial ?_
  obtain ⟨y0, m0, hc0, hg⟩ := rf_b_some hg
  refine rf_callv C rf_fit0 j_X8_signHere (ci := 8) (As := []) (rest := []) mw_X8_signHere (c_X8_signHere hc0) (by decide) rfl (by decide) lk_8_126 rfl rfl (Nat.le_of_ble_eq_true rfl) (by decide +kernel) ?_
  show rf_V 2 (rf_sh w) K 0 0 4 ([(0, .ref 14)], [.int y0], rf_MM w m0)
  refine rf_seg C [(.istore 1, 1), (.iload 1, 1), (.iconst (-11), 2)] (pc' := 8) (S' := ([(1, .int y0), (0, .ref 14)], [.int ((-11)), .int y0], rf_MM w m0)) (by decide +kernel) rfl trivial ?_
  refine rf_icmp_eq C 15 23 (by decide +kernel) (fun hc => ?_) (fun hc => ?_)
  · replace hg := (if_pos hc).symm.trans hg
    refine rf_seg C [(.aload 0, 1), (.iload 1, 1), (.iconst 3, 1)] (pc' := 26) (S' := ([(1, .int y0), (0, .ref 14)], [.int 3, .int y0, .ref 14], rf_MM w m0)) (by decide +kernel) rfl trivial ?_
    obtain ⟨m1, hc1, hg⟩ := rf_bv_some hg
    refine rf_callv C rf_fit0 j_X8_join (ci := 8) (As := [.int y0, .int 3]) (rest := []) mw_X8_join (c_X8_join hc1) (by decide) rfl (by decide) lk_8_129 rfl rfl (Nat.le_of_ble_eq_true rfl) (by decide +kernel) ?_
    show rf_V 2 (rf_sh w) K 0 0 29 ([(1, .int y0), (0, .ref 14)], [], rf_MM w m1)
    refine rf_goto C 56 85 (by decide +kernel) ?_
    obtain rfl := Option.some.inj hg
    exact rf_vret C hE (by decide +kernel)
  · replace hg := (if_neg hc).symm.trans hg
    refine rf_seg C [(.iload 1, 1), (.iconst (-12), 2)] (pc' := 14) (S' := ([(1, .int y0), (0, .ref 14)], [.int ((-12)), .int y0], rf_MM w m0)) (by decide +kernel) rfl trivial ?_
    refine rf_icmp_eq C 9 23 (by decide +kernel) (fun hc => ?_) (fun hc => ?_)
    · replace hg := (if_pos hc).symm.trans hg
      refine rf_seg C [(.aload 0, 1), (.iload 1, 1), (.iconst 3, 1)] (pc' := 26) (S' := ([(1, .int y0), (0, .ref 14)], [.int 3, .int y0, .ref 14], rf_MM w m0)) (by decide +kernel) rfl trivial ?_
      obtain ⟨m2, hc2, hg⟩ := rf_bv_some hg
      refine rf_callv C rf_fit0 j_X8_join (ci := 8) (As := [.int y0, .int 3]) (rest := []) mw_X8_join (c_X8_join hc2) (by decide) rfl (by decide) lk_8_129 rfl rfl (Nat.le_of_ble_eq_true rfl) (by decide +kernel) ?_
      show rf_V 2 (rf_sh w) K 0 0 29 ([(1, .int y0), (0, .ref 14)], [], rf_MM w m2)
      refine rf_goto C 56 85 (by decide +kernel) ?_
      obtain rfl := Option.some.inj hg
      exact rf_vret C hE (by decide +kernel)
    · replace hg := (if_neg hc).symm.trans hg
      refine rf_seg C [(.iload 1, 1), (.iconst (-13), 2)] (pc' := 20) (S' := ([(1, .int y0), (0, .ref 14)], [.int ((-13)), .int y0], rf_MM w m0)) (by decide +kernel) rfl trivial ?_
      refine rf_icmp_ne C 12 32 (by decide +kernel) (fun hc => ?_) (fun hc => ?_)
      · replace hg := (if_neg hc).symm.trans hg
        refine rf_seg C [(.aload 0, 1), (.invokeinterface 8 13, 3), (.iconst 2, 1)] (pc' := 37) (S' := ([(1, .int y0), (0, .ref 14)], [.int 2, .int (m0.1 14 13)], rf_MM w m0)) (by decide +kernel) rfl trivial ?_
        refine rf_icmp_ne C 10 47 (by decide +kernel) (fun hc => ?_) (fun hc => ?_)
        · replace hg := (if_neg hc).symm.trans hg
          refine rf_seg C [(.aload 0, 1), (.invokeinterface 8 13, 3)] (pc' := 51) (S' := ([(1, .int y0), (0, .ref 14)], [.int (m0.1 14 13)], rf_MM w m0)) (by decide +kernel) rfl trivial ?_
          refine rf_if_ne C 10 61 (by decide +kernel) (fun hc => ?_) (fun hc => ?_)
          · replace hg := (if_neg hc).symm.trans hg
            refine rf_seg C [(.iload 1, 1), (.iconst (-1), 1)] (pc' := 63) (S' := ([(1, .int y0), (0, .ref 14)], [.int ((-1)), .int y0], rf_MM w m0)) (by decide +kernel) rfl trivial ?_
            refine rf_icmp_eq C 17 80 (by decide +kernel) (fun hc => ?_) (fun hc => ?_)
            · replace hg := (if_pos hc).symm.trans hg
              refine rf_seg C [(.aload 0, 1), (.iconst 1, 1)] (pc' := 82) (S' := ([(1, .int y0), (0, .ref 14)], [.int 1, .ref 14], rf_MM w m0)) (by decide +kernel) rfl trivial ?_
              obtain ⟨m3, hc3, hg⟩ := rf_bv_some hg
              refine rf_callv C rf_fit0 j_X8_fail (ci := 8) (As := [.int 1]) (rest := []) mw_X8_fail (c_X8_fail hc3) (by decide) rfl (by decide) lk_8_96 rfl rfl (Nat.le_of_ble_eq_true rfl) (by decide +kernel) ?_
              show rf_V 2 (rf_sh w) K 0 0 85 ([(1, .int y0), (0, .ref 14)], [], rf_MM w m3)
              obtain rfl := Option.some.inj hg
              exact rf_vret C hE (by decide +kernel)
            · replace hg := (if_neg hc).symm.trans hg
              refine rf_seg C [(.aload 0, 1), (.iconst 2, 1), (.multianewarray 8 13, 3), (.aload 0, 1), (.iload 1, 1), (.iconst 3, 1)] (pc' := 74) (S' := ([(1, .int y0), (0, .ref 14)], [.int 3, .int y0, .ref 14], rf_MM w (rf_i m0 14 13 2))) (by decide +kernel) rfl trivial ?_
              obtain ⟨m4, hc4, hg⟩ := rf_bv_some hg
              refine rf_callv C rf_fit0 j_X8_join (ci := 8) (As := [.int y0, .int 3]) (rest := []) mw_X8_join (c_X8_join hc4) (by decide) rfl (by decide) lk_8_129 rfl rfl (Nat.le_of_ble_eq_true rfl) (by decide +kernel) ?_
              show rf_V 2 (rf_sh w) K 0 0 77 ([(1, .int y0), (0, .ref 14)], [], rf_MM w m4)
              refine rf_goto C 8 85 (by decide +kernel) ?_
              obtain rfl := Option.some.inj hg
              exact rf_vret C hE (by decide +kernel)
          · replace hg := (if_pos hc).symm.trans hg
            refine rf_seg C [(.aload 0, 1)] (pc' := 55) (S' := ([(1, .int y0), (0, .ref 14)], [.ref 14], rf_MM w m0)) (by decide +kernel) rfl trivial ?_
            obtain ⟨m5, hc5, hg⟩ := rf_bv_some hg
            refine rf_callv C rf_fit0 j_X8_endSum (ci := 8) (As := []) (rest := []) mw_X8_endSum (c_X8_endSum hc5) (by decide) rfl (by decide) lk_8_133 rfl rfl (Nat.le_of_ble_eq_true rfl) (by decide +kernel) ?_
            show rf_V 2 (rf_sh w) K 0 0 58 ([(1, .int y0), (0, .ref 14)], [], rf_MM w m5)
            refine rf_goto C 27 85 (by decide +kernel) ?_
            obtain rfl := Option.some.inj hg
            exact rf_vret C hE (by decide +kernel)
        · replace hg := (if_pos hc).symm.trans hg
          refine rf_seg C [(.aload 0, 1)] (pc' := 41) (S' := ([(1, .int y0), (0, .ref 14)], [.ref 14], rf_MM w m0)) (by decide +kernel) rfl trivial ?_
          obtain ⟨m6, hc6, hg⟩ := rf_bv_some hg
          refine rf_callv C rf_fit0 j_X8_takeJoint (ci := 8) (As := []) (rest := []) mw_X8_takeJoint (c_X8_takeJoint hc6) (by decide) rfl (by decide) lk_8_79 rfl rfl (Nat.le_of_ble_eq_true rfl) (by decide +kernel) ?_
          show rf_V 2 (rf_sh w) K 0 0 44 ([(1, .int y0), (0, .ref 14)], [], rf_MM w m6)
          refine rf_goto C 41 85 (by decide +kernel) ?_
          obtain rfl := Option.some.inj hg
          exact rf_vret C hE (by decide +kernel)
      · replace hg := (if_pos hc).symm.trans hg
        refine rf_seg C [(.aload 0, 1), (.iload 1, 1), (.iconst 3, 1)] (pc' := 26) (S' := ([(1, .int y0), (0, .ref 14)], [.int 3, .int y0, .ref 14], rf_MM w m0)) (by decide +kernel) rfl trivial ?_
        obtain ⟨m7, hc7, hg⟩ := rf_bv_some hg
        refine rf_callv C rf_fit0 j_X8_join (ci := 8) (As := [.int y0, .int 3]) (rest := []) mw_X8_join (c_X8_join hc7) (by decide) rfl (by decide) lk_8_129 rfl rfl (Nat.le_of_ble_eq_true rfl) (by decide +kernel) ?_
        show rf_V 2 (rf_sh w) K 0 0 29 ([(1, .int y0), (0, .ref 14)], [], rf_MM w m7)
        refine rf_goto C 56 85 (by decide +kernel) ?_
        obtain rfl := Option.some.inj hg
        exact rf_vret C hE (by decide +kernel)
-- X8_nameHere
abbrev j_X8_nameHere : rf_J := (8, yX8_nameHere, cX8_nameHere, 1, (some .int))
theorem mw_X8_nameHere : rf_mv j_X8_nameHere (rf_R 8) 0 := ⟨⟨rf_mem 44 (by decide +kernel), rf_mem 44 (by decide +kernel), rf_mem 2 (by decide +kernel), rf_mem 44 (by decide +kernel)⟩, by decide +kernel, by decide⟩
def g_X8_nameHere (w : rf_w) (m : rf_m) : Option (Int32 × rf_m) := rf_b (g_X8_isWord w m 1000010) fun y0 m0 => (if y0 = 0 then rf_b (g_X8_isWord w m0 1000011) fun y1 m1 => (if y1 = 0 then rf_b (g_X8_isWord w m1 1000012) fun y2 m2 => (if y2 = 0 then rf_b (g_X8_isWord w m2 1000013) fun y3 m3 => (if y3 = 0 then rf_b (g_X8_isWord w m3 1000014) fun y4 m4 => (if y4 = 0 then rf_b (g_X8_isWord w m4 1000015) fun y5 m5 => (if y5 = 0 then rf_b (g_X8_isWord w m5 1000016) fun y6 m6 => (if y6 = 0 then some ((-1), m6) else some (6, m6)) else some (5, m5)) else some (4, m4)) else some (3, m3)) else some (2, m2)) else some (1, m1)) else some (0, m0))
theorem c_X8_nameHere {w : rf_w} {m : rf_m} {r : Int32 × rf_m} (hg : g_X8_nameHere w m = some r) : rf_Con j_X8_nameHere 6 (rf_sh w) [.ref 14] (rf_MM w m) (some (.int r.1)) (rf_MM w r.2) := by
  refine rf_con j_X8_nameHere 6 ⟨by decide +kernel, rfl, Nat.le_of_ble_eq_true rfl⟩ (fun K C hE => ?_)
  unfold g_X8_nameHere at hg
  show rf_V 1 (rf_sh w) K 0 0 0 ([(0, .ref 14)], [], rf_MM w m)
  refine rf_seg C [(.aload 0, 1)] (pc' := 1) (S' := ([(0, .ref 14)], [.ref 14], rf_MM w m)) (by decide +kernel) rfl trivial ?_
  refine rf_s_ldc C 1000010 (idx := 186) (by decide +kernel) (by decide +kernel) ?_
  show rf_V 1 (rf_sh w) K 0 0 3 ([(0, .ref 14)], [.ref 1000010, .ref 14], rf_MM w m)
  obtain ⟨y0, m0, hc0, hg⟩ := rf_b_some hg
  refine rf_callv C rf_fit0 j_X8_isWord (ci := 8) (As := [.ref 1000010]) (rest := []) mw_X8_isWord (c_X8_isWord hc0) (by decide) rfl (by decide) lk_8_102 rfl rfl (Nat.le_of_ble_eq_true rfl) (by decide +kernel) ?_
  show rf_V 1 (rf_sh w) K 0 0 6 ([(0, .ref 14)], [.int y0], rf_MM w m0)
  refine rf_if_eq C 7 13 (by decide +kernel) (fun hc => ?_) (fun hc => ?_)
  · replace hg := (if_pos hc).symm.trans hg
    refine rf_seg C [(.aload 0, 1)] (pc' := 14) (S' := ([(0, .ref 14)], [.ref 14], rf_MM w m0)) (by decide +kernel) rfl trivial ?_
    refine rf_s_ldc C 1000011 (idx := 190) (by decide +kernel) (by decide +kernel) ?_
    show rf_V 1 (rf_sh w) K 0 0 16 ([(0, .ref 14)], [.ref 1000011, .ref 14], rf_MM w m0)
    obtain ⟨y1, m1, hc1, hg⟩ := rf_b_some hg
    refine rf_callv C rf_fit0 j_X8_isWord (ci := 8) (As := [.ref 1000011]) (rest := []) mw_X8_isWord (c_X8_isWord hc1) (by decide) rfl (by decide) lk_8_102 rfl rfl (Nat.le_of_ble_eq_true rfl) (by decide +kernel) ?_
    show rf_V 1 (rf_sh w) K 0 0 19 ([(0, .ref 14)], [.int y1], rf_MM w m1)
    refine rf_if_eq C 7 26 (by decide +kernel) (fun hc => ?_) (fun hc => ?_)
    · replace hg := (if_pos hc).symm.trans hg
      refine rf_seg C [(.aload 0, 1)] (pc' := 27) (S' := ([(0, .ref 14)], [.ref 14], rf_MM w m1)) (by decide +kernel) rfl trivial ?_
      refine rf_s_ldc C 1000012 (idx := 192) (by decide +kernel) (by decide +kernel) ?_
      show rf_V 1 (rf_sh w) K 0 0 29 ([(0, .ref 14)], [.ref 1000012, .ref 14], rf_MM w m1)
      obtain ⟨y2, m2, hc2, hg⟩ := rf_b_some hg
      refine rf_callv C rf_fit0 j_X8_isWord (ci := 8) (As := [.ref 1000012]) (rest := []) mw_X8_isWord (c_X8_isWord hc2) (by decide) rfl (by decide) lk_8_102 rfl rfl (Nat.le_of_ble_eq_true rfl) (by decide +kernel) ?_
      show rf_V 1 (rf_sh w) K 0 0 32 ([(0, .ref 14)], [.int y2], rf_MM w m2)
      refine rf_if_eq C 7 39 (by decide +kernel) (fun hc => ?_) (fun hc => ?_)
      · replace hg := (if_pos hc).symm.trans hg
        refine rf_seg C [(.aload 0, 1)] (pc' := 40) (S' := ([(0, .ref 14)], [.ref 14], rf_MM w m2)) (by decide +kernel) rfl trivial ?_
        refine rf_s_ldc C 1000013 (idx := 194) (by decide +kernel) (by decide +kernel) ?_
        show rf_V 1 (rf_sh w) K 0 0 42 ([(0, .ref 14)], [.ref 1000013, .ref 14], rf_MM w m2)
        obtain ⟨y3, m3, hc3, hg⟩ := rf_b_some hg
        refine rf_callv C rf_fit0 j_X8_isWord (ci := 8) (As := [.ref 1000013]) (rest := []) mw_X8_isWord (c_X8_isWord hc3) (by decide) rfl (by decide) lk_8_102 rfl rfl (Nat.le_of_ble_eq_true rfl) (by decide +kernel) ?_
        show rf_V 1 (rf_sh w) K 0 0 45 ([(0, .ref 14)], [.int y3], rf_MM w m3)
        refine rf_if_eq C 7 52 (by decide +kernel) (fun hc => ?_) (fun hc => ?_)
        · replace hg := (if_pos hc).symm.trans hg
          refine rf_seg C [(.aload 0, 1)] (pc' := 53) (S' := ([(0, .ref 14)], [.ref 14], rf_MM w m3)) (by decide +kernel) rfl trivial ?_
          refine rf_s_ldc C 1000014 (idx := 196) (by decide +kernel) (by decide +kernel) ?_
          show rf_V 1 (rf_sh w) K 0 0 55 ([(0, .ref 14)], [.ref 1000014, .ref 14], rf_MM w m3)
          obtain ⟨y4, m4, hc4, hg⟩ := rf_b_some hg
          refine rf_callv C rf_fit0 j_X8_isWord (ci := 8) (As := [.ref 1000014]) (rest := []) mw_X8_isWord (c_X8_isWord hc4) (by decide) rfl (by decide) lk_8_102 rfl rfl (Nat.le_of_ble_eq_true rfl) (by decide +kernel) ?_
          show rf_V 1 (rf_sh w) K 0 0 58 ([(0, .ref 14)], [.int y4], rf_MM w m4)
          refine rf_if_eq C 7 65 (by decide +kernel) (fun hc => ?_) (fun hc => ?_)
          · replace hg := (if_pos hc).symm.trans hg
            refine rf_seg C [(.aload 0, 1)] (pc' := 66) (S' := ([(0, .ref 14)], [.ref 14], rf_MM w m4)) (by decide +kernel) rfl trivial ?_
            refine rf_s_ldc C 1000015 (idx := 198) (by decide +kernel) (by decide +kernel) ?_
            show rf_V 1 (rf_sh w) K 0 0 68 ([(0, .ref 14)], [.ref 1000015, .ref 14], rf_MM w m4)
            obtain ⟨y5, m5, hc5, hg⟩ := rf_b_some hg
            refine rf_callv C rf_fit0 j_X8_isWord (ci := 8) (As := [.ref 1000015]) (rest := []) mw_X8_isWord (c_X8_isWord hc5) (by decide) rfl (by decide) lk_8_102 rfl rfl (Nat.le_of_ble_eq_true rfl) (by decide +kernel) ?_
            show rf_V 1 (rf_sh w) K 0 0 71 ([(0, .ref 14)], [.int y5], rf_MM w m5)
            refine rf_if_eq C 7 78 (by decide +kernel) (fun hc => ?_) (fun hc => ?_)
            · replace hg := (if_pos hc).symm.trans hg
              refine rf_seg C [(.aload 0, 1)] (pc' := 79) (S' := ([(0, .ref 14)], [.ref 14], rf_MM w m5)) (by decide +kernel) rfl trivial ?_
              refine rf_s_ldc C 1000016 (idx := 200) (by decide +kernel) (by decide +kernel) ?_
              show rf_V 1 (rf_sh w) K 0 0 81 ([(0, .ref 14)], [.ref 1000016, .ref 14], rf_MM w m5)
              obtain ⟨y6, m6, hc6, hg⟩ := rf_b_some hg
              refine rf_callv C rf_fit0 j_X8_isWord (ci := 8) (As := [.ref 1000016]) (rest := []) mw_X8_isWord (c_X8_isWord hc6) (by decide) rfl (by decide) lk_8_102 rfl rfl (Nat.le_of_ble_eq_true rfl) (by decide +kernel) ?_
              show rf_V 1 (rf_sh w) K 0 0 84 ([(0, .ref 14)], [.int y6], rf_MM w m6)
              refine rf_if_eq C 8 92 (by decide +kernel) (fun hc => ?_) (fun hc => ?_)
              · replace hg := (if_pos hc).symm.trans hg
                refine rf_seg C [(.iconst (-1), 1)] (pc' := 93) (S' := ([(0, .ref 14)], [.int ((-1))], rf_MM w m6)) (by decide +kernel) rfl trivial ?_
                obtain rfl := Option.some.inj hg
                exact rf_iret C hE (by decide +kernel)
              · replace hg := (if_neg hc).symm.trans hg
                refine rf_seg C [(.iconst 6, 2)] (pc' := 89) (S' := ([(0, .ref 14)], [.int 6], rf_MM w m6)) (by decide +kernel) rfl trivial ?_
                refine rf_goto C 4 93 (by decide +kernel) ?_
                obtain rfl := Option.some.inj hg
                exact rf_iret C hE (by decide +kernel)
            · replace hg := (if_neg hc).symm.trans hg
              refine rf_seg C [(.iconst 5, 1)] (pc' := 75) (S' := ([(0, .ref 14)], [.int 5], rf_MM w m5)) (by decide +kernel) rfl trivial ?_
              refine rf_goto C 18 93 (by decide +kernel) ?_
              obtain rfl := Option.some.inj hg
              exact rf_iret C hE (by decide +kernel)
          · replace hg := (if_neg hc).symm.trans hg
            refine rf_seg C [(.iconst 4, 1)] (pc' := 62) (S' := ([(0, .ref 14)], [.int 4], rf_MM w m4)) (by decide +kernel) rfl trivial ?_
            refine rf_goto C 31 93 (by decide +kernel) ?_
            obtain rfl := Option.some.inj hg
            exact rf_iret C hE (by decide +kernel)
        · replace hg := (if_neg hc).symm.trans hg
          refine rf_seg C [(.iconst 3, 1)] (pc' := 49) (S' := ([(0, .ref 14)], [.int 3], rf_MM w m3)) (by decide +kernel) rfl trivial ?_
          refine rf_goto C 44 93 (by decide +kernel) ?_
          obtain rfl := Option.some.inj hg
          exact rf_iret C hE (by decide +kernel)
      · replace hg := (if_neg hc).symm.trans hg
        refine rf_seg C [(.iconst 2, 1)] (pc' := 36) (S' := ([(0, .ref 14)], [.int 2], rf_MM w m2)) (by decide +kernel) rfl trivial ?_
        refine rf_goto C 57 93 (by decide +kernel) ?_
        obtain rfl := Option.some.inj hg
        exact rf_iret C hE (by decide +kernel)
    · replace hg := (if_neg hc).symm.trans hg
      refine rf_seg C [(.iconst 1, 1)] (pc' := 23) (S' := ([(0, .ref 14)], [.int 1], rf_MM w m1)) (by decide +kernel) rfl trivial ?_
      refine rf_goto C 70 93 (by decide +kernel) ?_
      obtain rfl := Option.some.inj hg
      exact rf_iret C hE (by decide +kernel)
  · replace hg := (if_neg hc).symm.trans hg
    refine rf_seg C [(.iconst 0, 1)] (pc' := 10) (S' := ([(0, .ref 14)], [.int 0], rf_MM w m0)) (by decide +kernel) rfl trivial ?_
    refine rf_goto C 83 93 (by decide +kernel) ?_
    obtain rfl := Option.some.inj hg
    exact rf_iret C hE (by decide +kernel)
-- X8_isJoint
abbrev j_X8_isJoint : rf_J := (8, yX8_isJoint, cX8_isJoint, 1, (some .boolean))
theorem mw_X8_isJoint : rf_mv j_X8_isJoint (rf_R 8) 0 := ⟨⟨rf_mem 43 (by decide +kernel), rf_mem 43 (by decide +kernel), rf_mem 2 (by decide +kernel), rf_mem 43 (by decide +kernel)⟩, by decide +kernel, by decide⟩
def g_X8_isJoint (w : rf_w) (m : rf_m) : Option (Int32 × rf_m) := rf_b (g_X8_isWord w m 1000006) fun y0 m0 => (if y0 = 0 then rf_b (g_X8_isWord w m0 1000007) fun y1 m1 => (if y1 = 0 then rf_b (g_X8_isWord w m1 1000008) fun y2 m2 => (if y2 = 0 then rf_b (g_X8_isWord w m2 1000009) fun y3 m3 => (if y3 = 0 then some (0, m3) else some (1, m3)) else some (1, m2)) else some (1, m1)) else some (1, m0))
theorem c_X8_isJoint {w : rf_w} {m : rf_m} {r : Int32 × rf_m} (hg : g_X8_isJoint w m = some r) : rf_Con j_X8_isJoint 6 (rf_sh w) [.ref 14] (rf_MM w m) (some (.int r.1)) (rf_MM w r.2) := by
  refine rf_con j_X8_isJoint 6 ⟨by decide +kernel, rfl, Nat.le_of_ble_eq_true rfl⟩ (fun K C hE => ?_)
  unfold g_X8_isJoint at hg
  show rf_V 1 (rf_sh w) K 0 0 0 ([(0, .ref 14)], [], rf_MM w m)
  refine rf_seg C [(.aload 0, 1)] (pc' := 1) (S' := ([(0, .ref 14)], [.ref 14], rf_MM w m)) (by decide +kernel) rfl trivial ?_
  refine rf_s_ldc C 1000006 (idx := 100) (by decide +kernel) (by decide +kernel) ?_
  show rf_V 1 (rf_sh w) K 0 0 3 ([(0, .ref 14)], [.ref 1000006, .ref 14], rf_MM w m)
  obtain ⟨y0, m0, hc0, hg⟩ := rf_b_some hg
  refine rf_callv C rf_fit0 j_X8_isWord (ci := 8) (As := [.ref 1000006]) (rest := []) mw_X8_isWord (c_X8_isWord hc0) (by decide) rfl (by decide) lk_8_102 rfl rfl (Nat.le_of_ble_eq_true rfl) (by decide +kernel) ?_
  show rf_V 1 (rf_sh w) K 0 0 6 ([(0, .ref 14)], [.int y0], rf_MM w m0)
  refine rf_if_ne C 30 36 (by decide +kernel) (fun hc => ?_) (fun hc => ?_)
  · replace hg := (if_neg hc).symm.trans hg
    refine rf_seg C [(.iconst 1, 1)] (pc' := 37) (S' := ([(0, .ref 14)], [.int 1], rf_MM w m0)) (by decide +kernel) rfl trivial ?_
    refine rf_goto C 4 41 (by decide +kernel) ?_
    obtain rfl := Option.some.inj hg
    exact rf_zret C hE (by decide) (by decide +kernel)
  · replace hg := (if_pos hc).symm.trans hg
    refine rf_seg C [(.aload 0, 1)] (pc' := 10) (S' := ([(0, .ref 14)], [.ref 14], rf_MM w m0)) (by decide +kernel) rfl trivial ?_
    refine rf_s_ldc C 1000007 (idx := 139) (by decide +kernel) (by decide +kernel) ?_
    show rf_V 1 (rf_sh w) K 0 0 12 ([(0, .ref 14)], [.ref 1000007, .ref 14], rf_MM w m0)
    obtain ⟨y1, m1, hc1, hg⟩ := rf_b_some hg
    refine rf_callv C rf_fit0 j_X8_isWord (ci := 8) (As := [.ref 1000007]) (rest := []) mw_X8_isWord (c_X8_isWord hc1) (by decide) rfl (by decide) lk_8_102 rfl rfl (Nat.le_of_ble_eq_true rfl) (by decide +kernel) ?_
    show rf_V 1 (rf_sh w) K 0 0 15 ([(0, .ref 14)], [.int y1], rf_MM w m1)
    refine rf_if_ne C 21 36 (by decide +kernel) (fun hc => ?_) (fun hc => ?_)
    · replace hg := (if_neg hc).symm.trans hg
      refine rf_seg C [(.iconst 1, 1)] (pc' := 37) (S' := ([(0, .ref 14)], [.int 1], rf_MM w m1)) (by decide +kernel) rfl trivial ?_
      refine rf_goto C 4 41 (by decide +kernel) ?_
      obtain rfl := Option.some.inj hg
      exact rf_zret C hE (by decide) (by decide +kernel)
    · replace hg := (if_pos hc).symm.trans hg
      refine rf_seg C [(.aload 0, 1)] (pc' := 19) (S' := ([(0, .ref 14)], [.ref 14], rf_MM w m1)) (by decide +kernel) rfl trivial ?_
      refine rf_s_ldc C 1000008 (idx := 141) (by decide +kernel) (by decide +kernel) ?_
      show rf_V 1 (rf_sh w) K 0 0 21 ([(0, .ref 14)], [.ref 1000008, .ref 14], rf_MM w m1)
      obtain ⟨y2, m2, hc2, hg⟩ := rf_b_some hg
      refine rf_callv C rf_fit0 j_X8_isWord (ci := 8) (As := [.ref 1000008]) (rest := []) mw_X8_isWord (c_X8_isWord hc2) (by decide) rfl (by decide) lk_8_102 rfl rfl (Nat.le_of_ble_eq_true rfl) (by decide +kernel) ?_
      show rf_V 1 (rf_sh w) K 0 0 24 ([(0, .ref 14)], [.int y2], rf_MM w m2)
      refine rf_if_ne C 12 36 (by decide +kernel) (fun hc => ?_) (fun hc => ?_)
      · replace hg := (if_neg hc).symm.trans hg
        refine rf_seg C [(.iconst 1, 1)] (pc' := 37) (S' := ([(0, .ref 14)], [.int 1], rf_MM w m2)) (by decide +kernel) rfl trivial ?_
        refine rf_goto C 4 41 (by decide +kernel) ?_
        obtain rfl := Option.some.inj hg
        exact rf_zret C hE (by decide) (by decide +kernel)
      · replace hg := (if_pos hc).symm.trans hg
        refine rf_seg C [(.aload 0, 1)] (pc' := 28) (S' := ([(0, .ref 14)], [.ref 14], rf_MM w m2)) (by decide +kernel) rfl trivial ?_
        refine rf_s_ldc C 1000009 (idx := 106) (by decide +kernel) (by decide +kernel) ?_
        show rf_V 1 (rf_sh w) K 0 0 30 ([(0, .ref 14)], [.ref 1000009, .ref 14], rf_MM w m2)
        obtain ⟨y3, m3, hc3, hg⟩ := rf_b_some hg
        refine rf_callv C rf_fit0 j_X8_isWord (ci := 8) (As := [.ref 1000009]) (rest := []) mw_X8_isWord (c_X8_isWord hc3) (by decide) rfl (by decide) lk_8_102 rfl rfl (Nat.le_of_ble_eq_true rfl) (by decide +kernel) ?_
        show rf_V 1 (rf_sh w) K 0 0 33 ([(0, .ref 14)], [.int y3], rf_MM w m3)
        refine rf_if_eq C 7 40 (by decide +kernel) (fun hc => ?_) (fun hc => ?_)
        · replace hg := (if_pos hc).symm.trans hg
          refine rf_seg C [(.iconst 0, 1)] (pc' := 41) (S' := ([(0, .ref 14)], [.int 0], rf_MM w m3)) (by decide +kernel) rfl trivial ?_
          obtain rfl := Option.some.inj hg
          exact rf_zret C hE (by decide) (by decide +kernel)
        · replace hg := (if_neg hc).symm.trans hg
          refine rf_seg C [(.iconst 1, 1)] (pc' := 37) (S' := ([(0, .ref 14)], [.int 1], rf_MM w m3)) (by decide +kernel) rfl trivial ?_
          refine rf_goto C 4 41 (by decide +kernel) ?_
          obtain rfl := Option.some.inj hg
          exact rf_zret C hE (by decide) (by decide +kernel)
