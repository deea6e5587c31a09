/-! methods as functions, and their contracts (written by wip/tool/gen.py) -/
-- X14_allows__281
abbrev j_X14_allows__281 : rf_J := (14, yX14_allows, cX14_allows, 4, none)
theorem mw_X14_allows__281 : rf_mv j_X14_allows__281 (rf_R 14) 3 := ⟨⟨rf_mem 83 (by decide +kernel), rf_mem 83 (by decide +kernel), rf_mem 0 (by decide +kernel), rf_mem 83 (by decide +kernel)⟩, by decide +kernel, by decide⟩
def g_X14_allows__281 (w : rf_w) (m : rf_m) (a2 : Int32) (a3 : Int32) : Option (rf_m) := rf_g (rf_in ((30 * a2) + a3) 900) (rf_g (rf_in ((30 * a3) + a2) 900) (some (rf_i (rf_i m 281 (Int32.toNatClampNeg ((30 * a2) + a3)) (vp_nar .boolean 1)) 281 (Int32.toNatClampNeg ((30 * a3) + a2)) (vp_nar .boolean 1))))
theorem c_X14_allows__281 {w : rf_w} {m : rf_m} {a2 : Int32} {a3 : Int32} {r : rf_m} (hg : g_X14_allows__281 w m a2 a3 = some r) : rf_Con j_X14_allows__281 1 (rf_sh w) [.ref 206, .ref 281, .int a2, .int a3] (rf_MM w m) none (rf_MM w r) := by
  refine rf_con j_X14_allows__281 1 ⟨by decide +kernel, rfl, Nat.le_of_ble_eq_true rfl⟩ (fun K C hE => ?_)
  unfold g_X14_allows__281 at hg
  show rf_V 4 (rf_sh w) K 0 0 0 ([(0, .ref 206), (1, .ref 281), (2, .int a2), (3, .int a3)], [], rf_MM w m)
  obtain ⟨q0, hg⟩ := rf_g_some hg
  obtain ⟨q1, hg⟩ := rf_g_some hg
  refine rf_seg C [(.aload 1, 1), (.iconst 30, 2), (.iload 2, 1), (.imul, 1), (.iload 3, 1), (.iadd, 1), (.iconst 1, 1), (.bastore, 1), (.aload 1, 1), (.iconst 30, 2), (.iload 3, 1), (.imul, 1), (.iload 2, 1), (.iadd, 1), (.iconst 1, 1), (.bastore, 1)] (pc' := 18) (S' := ([(0, .ref 206), (1, .ref 281), (2, .int a2), (3, .int a3)], [], rf_MM w (rf_i (rf_i m 281 (Int32.toNatClampNeg ((30 * a2) + a3)) (vp_nar .boolean 1)) 281 (Int32.toNatClampNeg ((30 * a3) + a2)) (vp_nar .boolean 1)))) (by decide +kernel) rfl (by exact ⟨(rf_in_of q0), (rf_in_of q1)⟩) ?_
  obtain rfl := Option.some.inj hg
  exact rf_vret C hE (by decide +kernel)
-- X14_allows__280
abbrev j_X14_allows__280 : rf_J := (14, yX14_allows, cX14_allows, 4, none)
theorem mw_X14_allows__280 : rf_mv j_X14_allows__280 (rf_R 14) 3 := ⟨⟨rf_mem 83 (by decide +kernel), rf_mem 83 (by decide +kernel), rf_mem 0 (by decide +kernel), rf_mem 83 (by decide +kernel)⟩, by decide +kernel, by decide⟩
def g_X14_allows__280 (w : rf_w) (m : rf_m) (a2 : Int32) (a3 : Int32) : Option (rf_m) := rf_g (rf_in ((30 * a2) + a3) 900) (rf_g (rf_in ((30 * a3) + a2) 900) (some (rf_i (rf_i m 280 (Int32.toNatClampNeg ((30 * a2) + a3)) (vp_nar .boolean 1)) 280 (Int32.toNatClampNeg ((30 * a3) + a2)) (vp_nar .boolean 1))))
theorem c_X14_allows__280 {w : rf_w} {m : rf_m} {a2 : Int32} {a3 : Int32} {r : rf_m} (hg : g_X14_allows__280 w m a2 a3 = some r) : rf_Con j_X14_allows__280 1 (rf_sh w) [.ref 206, .ref 280, .int a2, .int a3] (rf_MM w m) none (rf_MM w r) := by
  refine rf_con j_X14_allows__280 1 ⟨by decide +kernel, rfl, Nat.le_of_ble_eq_true rfl⟩ (fun K C hE => ?_)
  unfold g_X14_allows__280 at hg
  show rf_V 4 (rf_sh w) K 0 0 0 ([(0, .ref 206), (1, .ref 280), (2, .int a2), (3, .int a3)], [], rf_MM w m)
  obtain ⟨q0, hg⟩ := rf_g_some hg
  obtain ⟨q1, hg⟩ := rf_g_some hg
  refine rf_seg C [(.aload 1, 1), (.iconst 30, 2), (.iload 2, 1), (.imul, 1), (.iload 3, 1), (.iadd, 1), (.iconst 1, 1), (.bastore, 1), (.aload 1, 1), (.iconst 30, 2), (.iload 3, 1), (.imul, 1), (.iload 2, 1), (.iadd, 1), (.iconst 1, 1), (.bastore, 1)] (pc' := 18) (S' := ([(0, .ref 206), (1, .ref 280), (2, .int a2), (3, .int a3)], [], rf_MM w (rf_i (rf_i m 280 (Int32.toNatClampNeg ((30 * a2) + a3)) (vp_nar .boolean 1)) 280 (Int32.toNatClampNeg ((30 * a3) + a2)) (vp_nar .boolean 1)))) (by decide +kernel) rfl (by exact ⟨(rf_in_of q0), (rf_in_of q1)⟩) ?_
  obtain rfl := Option.some.inj hg
  exact rf_vret C hE (by decide +kernel)
-- X14_check
abbrev j_X14_check : rf_J := (14, yX14_check, cX14_check, 20, (some .int))
theorem mw_X14_check : rf_mv j_X14_check (rf_R 14) 9 := ⟨⟨rf_mem 83 (by decide +kernel), rf_mem 83 (by decide +kernel), rf_mem 0 (by decide +kernel), rf_memi 83 9 rfl⟩, by decide +kernel, by decide⟩
def g_X14_check_516_b (w : rf_w) (rec208 : Int32 → Int32 → Int32 → Int32 → Int32 → rf_m → Option (Int32 × rf_m)) (rec516 : Int32 → Int32 → Int32 → Int32 → Int32 → Int32 → rf_m → Option (Int32 × rf_m)) (a2 : Int32) (a3 : Int32) (a10 : Int32) (a11 : Int32) (a12 : Int32) (a16 : Int32) (m : rf_m) : Option (Int32 × rf_m) := (if 900 ≤ a16 then rec208 a2 a3 a10 a11 (a12 + 1) m else rf_g (rf_in a16 900) (rf_g (rf_in a16 900) (rec516 a2 a3 a10 a11 a12 (a16 + 1) (rf_i m 280 (Int32.toNatClampNeg a16) (vp_nar .boolean (m.1 281 (Int32.toNatClampNeg a16)))))))
def g_X14_check_516 (w : rf_w) (rec208 : Int32 → Int32 → Int32 → Int32 → Int32 → rf_m → Option (Int32 × rf_m)) : Nat → Int32 → Int32 → Int32 → Int32 → Int32 → Int32 → rf_m → Option (Int32 × rf_m)
  | 0, _, _, _, _, _, _, _ => none
  | n + 1, a2, a3, a10, a11, a12, a16, m => g_X14_check_516_b w rec208 (g_X14_check_516 w rec208 n) a2 a3 a10 a11 a12 a16 m
def g_X14_check_513 (w : rf_w) (rec208 : Int32 → Int32 → Int32 → Int32 → Int32 → rf_m → Option (Int32 × rf_m)) (a2 : Int32) (a3 : Int32) (a10 : Int32) (a11 : Int32) (a12 : Int32) (m : rf_m) : Option (Int32 × rf_m) := g_X14_check_516 w rec208 rf_fuel a2 a3 a10 a11 a12 0 m
def g_X14_check_465 (w : rf_w) (rec208 : Int32 → Int32 → Int32 → Int32 → Int32 → rf_m → Option (Int32 × rf_m)) (rec335 : Int32 → Int32 → Int32 → Int32 → Int32 → Int32 → Int32 → Int32 → Int32 → rf_m → Option (Int32 × rf_m)) (a2 : Int32) (a3 : Int32) (a10 : Int32) (a11 : Int32) (a12 : Int32) (a13 : Int32) (a14 : Int32) (a15 : Int32) (a16 : Int32) (m : rf_m) : Option (Int32 × rf_m) := rec335 a2 a3 a10 a11 a12 a13 a14 a15 (a16 + 1) m
def g_X14_check_459 (w : rf_w) (rec208 : Int32 → Int32 → Int32 → Int32 → Int32 → rf_m → Option (Int32 × rf_m)) (rec335 : Int32 → Int32 → Int32 → Int32 → Int32 → Int32 → Int32 → Int32 → Int32 → rf_m → Option (Int32 × rf_m)) (rec404 : Int32 → Int32 → Int32 → Int32 → Int32 → Int32 → Int32 → Int32 → Int32 → Int32 → rf_m → Option (Int32 × rf_m)) (a2 : Int32) (a3 : Int32) (a10 : Int32) (a11 : Int32) (a12 : Int32) (a13 : Int32) (a14 : Int32) (a15 : Int32) (a16 : Int32) (a19 : Int32) (m : rf_m) : Option (Int32 × rf_m) := rec404 a2 a3 a10 a11 a12 a13 a14 a15 a16 (a19 + 1) m
def g_X14_check_404_b (w : rf_w) (rec208 : Int32 → Int32 → Int32 → Int32 → Int32 → rf_m → Option (Int32 × rf_m)) (rec335 : Int32 → Int32 → Int32 → Int32 → Int32 → Int32 → Int32 → Int32 → Int32 → rf_m → Option (Int32 × rf_m)) (rec404 : Int32 → Int32 → Int32 → Int32 → Int32 → Int32 → Int32 → Int32 → Int32 → Int32 → rf_m → Option (Int32 × rf_m)) (a2 : Int32) (a3 : Int32) (a10 : Int32) (a11 : Int32) (a12 : Int32) (a13 : Int32) (a14 : Int32) (a15 : Int32) (a16 : Int32) (a19 : Int32) (m : rf_m) : Option (Int32 × rf_m) := (if 3 ≤ a19 then g_X14_check_465 w rec208 rec335 a2 a3 a10 a11 a12 a13 a14 a15 a16 m else (if a19 = a16 then g_X14_check_459 w rec208 rec335 rec404 a2 a3 a10 a11 a12 a13 a14 a15 a16 a19 m else rf_g (rf_in ((3 * a13) + a19) 90) (rf_g (rf_in (m.1 243 (Int32.toNatClampNeg ((3 * a13) + a19))) 80) (rf_g (rf_in ((3 * a13) + a19) 90) (rf_g (rf_in (m.1 243 (Int32.toNatClampNeg ((3 * a13) + a19))) 80) (rf_bv (g_X14_allows__281 w m (m.1 218 (Int32.toNatClampNeg (m.1 243 (Int32.toNatClampNeg ((3 * a13) + a19))))) (m.1 219 (Int32.toNatClampNeg (m.1 243 (Int32.toNatClampNeg ((3 * a13) + a19)))))) fun m4 => g_X14_check_459 w rec208 rec335 rec404 a2 a3 a10 a11 a12 a13 a14 a15 a16 a19 m4))))))
def g_X14_check_404 (w : rf_w) (rec208 : Int32 → Int32 → Int32 → Int32 → Int32 → rf_m → Option (Int32 × rf_m)) (rec335 : Int32 → Int32 → Int32 → Int32 → Int32 → Int32 → Int32 → Int32 → Int32 → rf_m → Option (Int32 × rf_m)) : Nat → Int32 → Int32 → Int32 → Int32 → Int32 → Int32 → Int32 → Int32 → Int32 → Int32 → rf_m → Option (Int32 × rf_m)
  | 0, _, _, _, _, _, _, _, _, _, _, _ => none
  | n + 1, a2, a3, a10, a11, a12, a13, a14, a15, a16, a19, m => g_X14_check_404_b w rec208 rec335 (g_X14_check_404 w rec208 rec335 n) a2 a3 a10 a11 a12 a13 a14 a15 a16 a19 m
def g_X14_check_335_b (w : rf_w) (rec208 : Int32 → Int32 → Int32 → Int32 → Int32 → rf_m → Option (Int32 × rf_m)) (rec335 : Int32 → Int32 → Int32 → Int32 → Int32 → Int32 → Int32 → Int32 → Int32 → rf_m → Option (Int32 × rf_m)) (a2 : Int32) (a3 : Int32) (a10 : Int32) (a11 : Int32) (a12 : Int32) (a13 : Int32) (a14 : Int32) (a15 : Int32) (a16 : Int32) (m : rf_m) : Option (Int32 × rf_m) := (if 3 ≤ a16 then (if a14 = 0 then rf_b (g_X14_done w m (1 + a12)) fun y0 m0 => some (y0, m0) else (if a15 = 0 then rf_b (g_X14_done w m (1 + a12)) fun y1 m1 => some (y1, m1) else (if a12 = (a10 - 1) then rf_g (rf_in ((30 * a2) + a3) 900) ((if (m.1 281 (Int32.toNatClampNeg ((30 * a2) + a3))) = 0 then rf_b (g_X14_done w m (1 + a12)) fun y3 m3 => some (y3, m3) else g_X14_check_513 w rec208 a2 a3 a10 a11 a12 m)) else g_X14_check_513 w rec208 a2 a3 a10 a11 a12 m))) else rf_g (rf_in ((3 * a13) + a16) 90) (rf_g (rf_in (m.1 243 (Int32.toNatClampNeg ((3 * a13) + a16))) 80) (rf_vi (m.1 218 (Int32.toNatClampNeg (m.1 243 (Int32.toNatClampNeg ((3 * a13) + a16))))) fun x6 => rf_g (rf_in ((3 * a13) + a16) 90) (rf_g (rf_in (m.1 243 (Int32.toNatClampNeg ((3 * a13) + a16))) 80) (rf_vi (m.1 219 (Int32.toNatClampNeg (m.1 243 (Int32.toNatClampNeg ((3 * a13) + a16))))) fun x9 => rf_g (rf_in ((30 * x6) + x9) 900) ((if (m.1 280 (Int32.toNatClampNeg ((30 * x6) + x9))) = 0 then g_X14_check_465 w rec208 rec335 a2 a3 a10 a11 a12 a13 a14 a15 a16 m else g_X14_check_404 w rec208 rec335 rf_fuel a2 a3 a10 a11 a12 a13 a14 1 a16 0 m)))))))
def g_X14_check_335 (w : rf_w) (rec208 : Int32 → Int32 → Int32 → Int32 → Int32 → rf_m → Option (Int32 × rf_m)) : Nat → Int32 → Int32 → Int32 → Int32 → Int32 → Int32 → Int32 → Int32 → Int32 → rf_m → Option (Int32 × rf_m)
  | 0, _, _, _, _, _, _, _, _, _, _ => none
  | n + 1, a2, a3, a10, a11, a12, a13, a14, a15, a16, m => g_X14_check_335_b w rec208 (g_X14_check_335 w rec208 n) a2 a3 a10 a11 a12 a13 a14 a15 a16 m
def g_X14_check_307_b (w : rf_w) (rec208 : Int32 → Int32 → Int32 → Int32 → Int32 → rf_m → Option (Int32 × rf_m)) (rec307 : Int32 → Int32 → Int32 → Int32 → Int32 → Int32 → Int32 → Int32 → rf_m → Option (Int32 × rf_m)) (a2 : Int32) (a3 : Int32) (a10 : Int32) (a11 : Int32) (a12 : Int32) (a13 : Int32) (a14 : Int32) (a15 : Int32) (m : rf_m) : Option (Int32 × rf_m) := (if 900 ≤ a15 then g_X14_check_335 w rec208 rf_fuel a2 a3 a10 a11 a12 a13 a14 0 0 m else rf_g (rf_in a15 900) (rec307 a2 a3 a10 a11 a12 a13 a14 (a15 + 1) (rf_i m 281 (Int32.toNatClampNeg a15) (vp_nar .boolean 0))))
def g_X14_check_307 (w : rf_w) (rec208 : Int32 → Int32 → Int32 → Int32 → Int32 → rf_m → Option (Int32 × rf_m)) : Nat → Int32 → Int32 → Int32 → Int32 → Int32 → Int32 → Int32 → Int32 → rf_m → Option (Int32 × rf_m)
  | 0, _, _, _, _, _, _, _, _, _ => none
  | n + 1, a2, a3, a10, a11, a12, a13, a14, a15, m => g_X14_check_307_b w rec208 (g_X14_check_307 w rec208 n) a2 a3 a10 a11 a12 a13 a14 a15 m
def g_X14_check_296 (w : rf_w) (rec208 : Int32 → Int32 → Int32 → Int32 → Int32 → rf_m → Option (Int32 × rf_m)) (rec267 : Int32 → Int32 → Int32 → Int32 → Int32 → Int32 → Int32 → Int32 → rf_m → Option (Int32 × rf_m)) (a2 : Int32) (a3 : Int32) (a10 : Int32) (a11 : Int32) (a12 : Int32) (a13 : Int32) (a15 : Int32) (s0 : Int32) (m : rf_m) : Option (Int32 × rf_m) := rec267 a2 a3 a10 a11 a12 a13 s0 (a15 + 1) m
def g_X14_check_295 (w : rf_w) (rec208 : Int32 → Int32 → Int32 → Int32 → Int32 → rf_m → Option (Int32 × rf_m)) (rec267 : Int32 → Int32 → Int32 → Int32 → Int32 → Int32 → Int32 → Int32 → rf_m → Option (Int32 × rf_m)) (a2 : Int32) (a3 : Int32) (a10 : Int32) (a11 : Int32) (a12 : Int32) (a13 : Int32) (a15 : Int32) (m : rf_m) : Option (Int32 × rf_m) := g_X14_check_296 w rec208 rec267 a2 a3 a10 a11 a12 a13 a15 0 m
def g_X14_check_267_b (w : rf_w) (rec208 : Int32 → Int32 → Int32 → Int32 → Int32 → rf_m → Option (Int32 × rf_m)) (rec267 : Int32 → Int32 → Int32 → Int32 → Int32 → Int32 → Int32 → Int32 → rf_m → Option (Int32 × rf_m)) (a2 : Int32) (a3 : Int32) (a10 : Int32) (a11 : Int32) (a12 : Int32) (a13 : Int32) (a14 : Int32) (a15 : Int32) (m : rf_m) : Option (Int32 × rf_m) := (if a12 ≤ a15 then g_X14_check_307 w rec208 rf_fuel a2 a3 a10 a11 a12 a13 a14 0 m else (if a14 = 0 then g_X14_check_295 w rec208 rec267 a2 a3 a10 a11 a12 a13 a15 m else rf_g (rf_in a15 6) ((if (m.1 279 (Int32.toNatClampNeg a15)) = a13 then g_X14_check_295 w rec208 rec267 a2 a3 a10 a11 a12 a13 a15 m else g_X14_check_296 w rec208 rec267 a2 a3 a10 a11 a12 a13 a15 1 m))))
def g_X14_check_267 (w : rf_w) (rec208 : Int32 → Int32 → Int32 → Int32 → Int32 → rf_m → Option (Int32 × rf_m)) : Nat → Int32 → Int32 → Int32 → Int32 → Int32 → Int32 → Int32 → Int32 → rf_m → Option (Int32 × rf_m)
  | 0, _, _, _, _, _, _, _, _, _ => none
  | n + 1, a2, a3, a10, a11, a12, a13, a14, a15, m => g_X14_check_267_b w rec208 (g_X14_check_267 w rec208 n) a2 a3 a10 a11 a12 a13 a14 a15 m
def g_X14_check_262 (w : rf_w) (rec208 : Int32 → Int32 → Int32 → Int32 → Int32 → rf_m → Option (Int32 × rf_m)) (a2 : Int32) (a3 : Int32) (a10 : Int32) (a11 : Int32) (a12 : Int32) (a13 : Int32) (s0 : Int32) (m : rf_m) : Option (Int32 × rf_m) := g_X14_check_267 w rec208 rf_fuel a2 a3 a10 a11 a12 a13 s0 0 m
def g_X14_check_261 (w : rf_w) (rec208 : Int32 → Int32 → Int32 → Int32 → Int32 → rf_m → Option (Int32 × rf_m)) (a2 : Int32) (a3 : Int32) (a10 : Int32) (a11 : Int32) (a12 : Int32) (a13 : Int32) (m : rf_m) : Option (Int32 × rf_m) := g_X14_check_262 w rec208 a2 a3 a10 a11 a12 a13 0 m
def g_X14_check_208_b (w : rf_w) (rec208 : Int32 → Int32 → Int32 → Int32 → Int32 → rf_m → Option (Int32 × rf_m)) (a2 : Int32) (a3 : Int32) (a10 : Int32) (a11 : Int32) (a12 : Int32) (m : rf_m) : Option (Int32 × rf_m) := (if a10 ≤ a12 then rf_b (g_X14_done w m 0) fun y0 m0 => some (y0, m0) else rf_g (rf_in a12 6) (rf_vi (m.1 279 (Int32.toNatClampNeg a12)) fun x2 => rf_b (g_X14_isWell w m x2) fun y3 m3 => (if y3 = 0 then g_X14_check_261 w rec208 a2 a3 a10 a11 a12 x2 m3 else rf_b (g_X14_missOf w m3 x2 0) fun y4 m4 => rf_b (g_X14_isWide w m4 y4 a11) fun y5 m5 => (if y5 = 0 then rf_b (g_X14_carries w m5 x2) fun y6 m6 => (if y6 = 0 then g_X14_check_261 w rec208 a2 a3 a10 a11 a12 x2 m6 else g_X14_check_262 w rec208 a2 a3 a10 a11 a12 x2 1 m6) else g_X14_check_261 w rec208 a2 a3 a10 a11 a12 x2 m5))))
def g_X14_check_208 (w : rf_w) : Nat → Int32 → Int32 → Int32 → Int32 → Int32 → rf_m → Option (Int32 × rf_m)
  | 0, _, _, _, _, _, _ => none
  | n + 1, a2, a3, a10, a11, a12, m => g_X14_check_208_b w (g_X14_check_208 w n) a2 a3 a10 a11 a12 m
def g_X14_check_163_b (w : rf_w) (rec163 : Int32 → Int32 → Int32 → Int32 → Int32 → Int32 → rf_m → Option (Int32 × rf_m)) (a1 : Int32) (a2 : Int32) (a3 : Int32) (a10 : Int32) (a11 : Int32) (a12 : Int32) (m : rf_m) : Option (Int32 × rf_m) := (if 900 ≤ a12 then rf_g (rf_in a1 6) (rf_g (rf_in a1 6) (rf_bv (g_X14_allows__280 w m (m.1 236 (Int32.toNatClampNeg a1)) (m.1 237 (Int32.toNatClampNeg a1))) fun m2 => g_X14_check_208 w rf_fuel a2 a3 a10 a11 0 m2)) else rf_g (rf_in a12 900) (rec163 a1 a2 a3 a10 a11 (a12 + 1) (rf_i m 280 (Int32.toNatClampNeg a12) (vp_nar .boolean 0))))
def g_X14_check_163 (w : rf_w) : Nat → Int32 → Int32 → Int32 → Int32 → Int32 → Int32 → rf_m → Option (Int32 × rf_m)
  | 0, _, _, _, _, _, _, _ => none
  | n + 1, a1, a2, a3, a10, a11, a12, m => g_X14_check_163_b w (g_X14_check_163 w n) a1 a2 a3 a10 a11 a12 m
def g_X14_check_135 (w : rf_w) (a1 : Int32) (a2 : Int32) (a3 : Int32) (a10 : Int32) (m : rf_m) : Option (Int32 × rf_m) := (if a10 = 0 then rf_b (g_X14_refused w m 1) fun y3 m3 => some (y3, m3) else rf_bv (g_X14_allMeans w m) fun m0 => rf_bv (g_X14_allSines w m0) fun m1 => rf_b (g_X14_allowed w m1) fun y2 m2 => g_X14_check_163 w rf_fuel a1 a2 a3 a10 y2 0 m2)
def g_X14_check_91_b (w : rf_w) (rec91 : Int32 → Int32 → Int32 → Int32 → rf_m → Option (Int32 × rf_m)) (a1 : Int32) (a2 : Int32) (a3 : Int32) (a10 : Int32) (m : rf_m) : Option (Int32 × rf_m) := (if 6 ≤ a10 then g_X14_check_135 w a1 a2 a3 a10 m else rf_g (rf_in a10 6) ((if (m.1 279 (Int32.toNatClampNeg a10)) = ((-1)) then g_X14_check_135 w a1 a2 a3 a10 m else rf_g (rf_in a10 6) (rf_b (g_X14_isTriangle w m (m.1 279 (Int32.toNatClampNeg a10))) fun y2 m2 => (if y2 = 0 then rf_b (g_X14_refused w m2 1) fun y3 m3 => some (y3, m3) else rec91 a1 a2 a3 (a10 + 1) m2)))))
def g_X14_check_91 (w : rf_w) : Nat → Int32 → Int32 → Int32 → Int32 → rf_m → Option (Int32 × rf_m)
  | 0, _, _, _, _, _ => none
  | n + 1, a1, a2, a3, a10, m => g_X14_check_91_b w (g_X14_check_91 w n) a1 a2 a3 a10 m
def g_X14_check (w : rf_w) (m : rf_m) (a1 : Int32) (a2 : Int32) (a3 : Int32) (a4 : Int32) (a5 : Int32) (a6 : Int32) (a7 : Int32) (a8 : Int32) (a9 : Int32) : Option (Int32 × rf_m) := rf_b (g_X14_isBase w (rf_i m 206 0 0) a1) fun y0 m0 => (if y0 = 0 then rf_b (g_X14_refused w m0 1) fun y1 m1 => some (y1, m1) else rf_b (g_X14_isMark w m0 a2) fun y2 m2 => (if y2 = 0 then rf_b (g_X14_refused w m2 1) fun y3 m3 => some (y3, m3) else rf_b (g_X14_isMark w m2 a3) fun y4 m4 => (if y4 = 0 then rf_b (g_X14_refused w m4 1) fun y5 m5 => some (y5, m5) else (if a2 = a3 then rf_b (g_X14_refused w m4 1) fun y6 m6 => some (y6, m6) else g_X14_check_91 w rf_fuel a1 a2 a3 0 (rf_i (rf_i (rf_i (rf_i (rf_i (rf_i m4 279 (Int32.toNatClampNeg 0) a4) 279 (Int32.toNatClampNeg 1) a5) 279 (Int32.toNatClampNeg 2) a6) 279 (Int32.toNatClampNeg 3) a7) 279 (Int32.toNatClampNeg 4) a8) 279 (Int32.toNatClampNeg 5) a9)))))
theorem s_X14_check_516_b {w : rf_w} {K : rf_K} {r : Int32 × rf_m} (C : rf_Ctx 14 cX14_check 20 10 (rf_sh w) K) (hE : rf_End (some .int) K (rf_sh w) 0 0 (some (.int r.1)) (rf_MM w r.2)) {rec208 : Int32 → Int32 → Int32 → Int32 → Int32 → rf_m → Option (Int32 × rf_m)} {rec516 : Int32 → Int32 → Int32 → Int32 → Int32 → Int32 → rf_m → Option (Int32 × rf_m)} (hr208 : ∀ (a2 : Int32) (a3 : Int32) (a10 : Int32) (a11 : Int32) (a12 : Int32) (m : rf_m), rec208 a2 a3 a10 a11 a12 m = some r → rf_V 20 (rf_sh w) K 0 0 208 ([(0, .ref 206), (2, .int a2), (3, .int a3), (10, .int a10), (11, .int a11), (12, .int a12)], [], rf_MM w m)) (hr516 : ∀ (a2 : Int32) (a3 : Int32) (a10 : Int32) (a11 : Int32) (a12 : Int32) (a16 : Int32) (m : rf_m), rec516 a2 a3 a10 a11 a12 a16 m = some r → rf_V 20 (rf_sh w) K 0 0 516 ([(0, .ref 206), (2, .int a2), (3, .int a3), (10, .int a10), (11, .int a11), (12, .int a12), (16, .int a16)], [], rf_MM w m)) (a2 : Int32) (a3 : Int32) (a10 : Int32) (a11 : Int32) (a12 : Int32) (a16 : Int32) (m : rf_m) (hg : g_X14_check_516_b w rec208 rec516 a2 a3 a10 a11 a12 a16 m = some r) : rf_V 20 (rf_sh w) K 0 0 516 ([(0, .ref 206), (2, .int a2), (3, .int a3), (10, .int a10), (11, .int a11), (12, .int a12), (16, .int a16)], [], rf_MM w m) := by
  unfold g_X14_check_516_b at hg
  refine rf_seg C [(.iload 16, 2), (.iconst 900, 3)] (pc' := 521) (S' := ([(0, .ref 206), (2, .int a2), (3, .int a3), (10, .int a10), (11, .int a11), (12, .int a12), (16, .int a16)], [.int 900, .int a16], rf_MM w m)) (by decide +kernel) rfl trivial ?_
  refine rf_icmp_ge C 23 544 (by decide +kernel) (fun hc => ?_) (fun hc => ?_)
  · replace hg := (if_pos hc).symm.trans hg
    refine rf_seg C [(.iinc 12 1, 3)] (pc' := 547) (S' := ([(12, .int (a12 + 1)), (0, .ref 206), (2, .int a2), (3, .int a3), (10, .int a10), (11, .int a11), (16, .int a16)], [], rf_MM w m)) (by decide +kernel) rfl trivial ?_
    refine rf_goto C (-339) 208 (by decide +kernel) ?_
    refine rf_few [1, 2, 3, 4, 5, 0] rfl ?_
    exact hr208 a2 a3 a10 a11 (a12 + 1) m hg
  · replace hg := (if_neg hc).symm.trans hg
    obtain ⟨q0, hg⟩ := rf_g_some hg
    obtain ⟨q1, hg⟩ := rf_g_some hg
    refine rf_seg C [(.aload 0, 1), (.invokeinterface 14 114, 3), (.iload 16, 2), (.aload 0, 1), (.invokeinterface 14 115, 3), (.iload 16, 2), (.baload, 1), (.bastore, 1), (.iinc 16 1, 3)] (pc' := 541) (S' := ([(16, .int (a16 + 1)), (0, .ref 206), (2, .int a2), (3, .int a3), (10, .int a10), (11, .int a11), (12, .int a12)], [], rf_MM w (rf_i m 280 (Int32.toNatClampNeg a16) (vp_nar .boolean (m.1 281 (Int32.toNatClampNeg a16)))))) (by decide +kernel) rfl (by exact ⟨(rf_in_of q0), (rf_in_of q1)⟩) ?_
    refine rf_goto C (-25) 516 (by decide +kernel) ?_
    refine rf_few [1, 2, 3, 4, 5, 6, 0] rfl ?_
    exact hr516 a2 a3 a10 a11 a12 (a16 + 1) (rf_i m 280 (Int32.toNatClampNeg a16) (vp_nar .boolean (m.1 281 (Int32.toNatClampNeg a16)))) hg
theorem s_X14_check_516 {w : rf_w} {K : rf_K} {r : Int32 × rf_m} (C : rf_Ctx 14 cX14_check 20 10 (rf_sh w) K) (hE : rf_End (some .int) K (rf_sh w) 0 0 (some (.int r.1)) (rf_MM w r.2)) {rec208 : Int32 → Int32 → Int32 → Int32 → Int32 → rf_m → Option (Int32 × rf_m)} (hr208 : ∀ (a2 : Int32) (a3 : Int32) (a10 : Int32) (a11 : Int32) (a12 : Int32) (m : rf_m), rec208 a2 a3 a10 a11 a12 m = some r → rf_V 20 (rf_sh w) K 0 0 208 ([(0, .ref 206), (2, .int a2), (3, .int a3), (10, .int a10), (11, .int a11), (12, .int a12)], [], rf_MM w m)) (n : Nat) : ∀ (a2 : Int32) (a3 : Int32) (a10 : Int32) (a11 : Int32) (a12 : Int32) (a16 : Int32) (m : rf_m), g_X14_check_516 w rec208 n a2 a3 a10 a11 a12 a16 m = some r → rf_V 20 (rf_sh w) K 0 0 516 ([(0, .ref 206), (2, .int a2), (3, .int a3), (10, .int a10), (11, .int a11), (12, .int a12), (16, .int a16)], [], rf_MM w m) := by
  induction n with
  | zero => intro a2 a3 a10 a11 a12 a16 m hg; cases hg
  | succ n ih => intro a2 a3 a10 a11 a12 a16 m hg; exact s_X14_check_516_b C hE hr208 ih a2 a3 a10 a11 a12 a16 m hg
theorem s_X14_check_513 {w : rf_w} {K : rf_K} {r : Int32 × rf_m} (C : rf_Ctx 14 cX14_check 20 10 (rf_sh w) K) (hE : rf_End (some .int) K (rf_sh w) 0 0 (some (.int r.1)) (rf_MM w r.2)) {rec208 : Int32 → Int32 → Int32 → Int32 → Int32 → rf_m → Option (Int32 × rf_m)} (hr208 : ∀ (a2 : Int32) (a3 : Int32) (a10 : Int32) (a11 : Int32) (a12 : Int32) (m : rf_m), rec208 a2 a3 a10 a11 a12 m = some r → rf_V 20 (rf_sh w) K 0 0 208 ([(0, .ref 206), (2, .int a2), (3, .int a3), (10, .int a10), (11, .int a11), (12, .int a12)], [], rf_MM w m)) (a2 : Int32) (a3 : Int32) (a10 : Int32) (a11 : Int32) (a12 : Int32) (m : rf_m) (hg : g_X14_check_513 w rec208 a2 a3 a10 a11 a12 m = some r) : rf_V 20 (rf_sh w) K 0 0 513 ([(0, .ref 206), (2, .int a2), (3, .int a3), (10, .int a10), (11, .int a11), (12, .int a12)], [], rf_MM w m) := by
  unfold g_X14_check_513 at hg
  refine rf_seg C [(.iconst 0, 1), (.istore 16, 2)] (pc' := 516) (S' := ([(16, .int 0), (0, .ref 206), (2, .int a2), (3, .int a3), (10, .int a10), (11, .int a11), (12, .int a12)], [], rf_MM w m)) (by decide +kernel) rfl trivial ?_
  refine rf_few [1, 2, 3, 4, 5, 6, 0] rfl ?_
  exact s_X14_check_516 C hE hr208 rf_fuel a2 a3 a10 a11 a12 0 m hg
theorem s_X14_check_465 {w : rf_w} {K : rf_K} {r : Int32 × rf_m} (C : rf_Ctx 14 cX14_check 20 10 (rf_sh w) K) (hE : rf_End (some .int) K (rf_sh w) 0 0 (some (.int r.1)) (rf_MM w r.2)) {rec208 : Int32 → Int32 → Int32 → Int32 → Int32 → rf_m → Option (Int32 × rf_m)} {rec335 : Int32 → Int32 → Int32 → Int32 → Int32 → Int32 → Int32 → Int32 → Int32 → rf_m → Option (Int32 × rf_m)} (hr208 : ∀ (a2 : Int32) (a3 : Int32) (a10 : Int32) (a11 : Int32) (a12 : Int32) (m : rf_m), rec208 a2 a3 a10 a11 a12 m = some r → rf_V 20 (rf_sh w) K 0 0 208 ([(0, .ref 206), (2, .int a2), (3, .int a3), (10, .int a10), (11, .int a11), (12, .int a12)], [], rf_MM w m)) (hr335 : ∀ (a2 : Int32) (a3 : Int32) (a10 : Int32) (a11 : Int32) (a12 : Int32) (a13 : Int32) (a14 : Int32) (a15 : Int32) (a16 : Int32) (m : rf_m), rec335 a2 a3 a10 a11 a12 a13 a14 a15 a16 m = some r → rf_V 20 (rf_sh w) K 0 0 335 ([(0, .ref 206), (2, .int a2), (3, .int a3), (10, .int a10), (11, .int a11), (12, .int a12), (13, .int a13), (14, .int a14), (15, .int a15), (16, .int a16)], [], rf_MM w m)) (a2 : Int32) (a3 : Int32) (a10 : Int32) (a11 : Int32) (a12 : Int32) (a13 : Int32) (a14 : Int32) (a15 : Int32) (a16 : Int32) (m : rf_m) (hg : g_X14_check_465 w rec208 rec335 a2 a3 a10 a11 a12 a13 a14 a15 a16 m = some r) : rf_V 20 (rf_sh w) K 0 0 465 ([(0, .ref 206), (2, .int a2), (3, .int a3), (10, .int a10), (11, .int a11), (12, .int a12), (13, .int a13), (14, .int a14), (15, .int a15), (16, .int a16)], [], rf_MM w m) := by
  unfold g_X14_check_465 at hg
  refine rf_seg C [(.iinc 16 1, 3)] (pc' := 468) (S' := ([(16, .int (a16 + 1)), (0, .ref 206), (2, .int a2), (3, .int a3), (10, .int a10), (11, .int a11), (12, .int a12), (13, .int a13), (14, .int a14), (15, .int a15)], [], rf_MM w m)) (by decide +kernel) rfl trivial ?_
  refine rf_goto C (-133) 335 (by decide +kernel) ?_
  refine rf_few [1, 2, 3, 4, 5, 6, 7, 8, 9, 0] rfl ?_
  exact hr335 a2 a3 a10 a11 a12 a13 a14 a15 (a16 + 1) m hg
theorem s_X14_check_459 {w : rf_w} {K : rf_K} {r : Int32 × rf_m} (C : rf_Ctx 14 cX14_check 20 10 (rf_sh w) K) (hE : rf_End (some .int) K (rf_sh w) 0 0 (some (.int r.1)) (rf_MM w r.2)) {rec208 : Int32 → Int32 → Int32 → Int32 → Int32 → rf_m → Option (Int32 × rf_m)} {rec335 : Int32 → Int32 → Int32 → Int32 → Int32 → Int32 → Int32 → Int32 → Int32 → rf_m → Option (Int32 × rf_m)} {rec404 : Int32 → Int32 → Int32 → Int32 → Int32 → Int32 → Int32 → Int32 → Int32 → Int32 → rf_m → Option (Int32 × rf_m)} (hr208 : ∀ (a2 : Int32) (a3 : Int32) (a10 : Int32) (a11 : Int32) (a12 : Int32) (m : rf_m), rec208 a2 a3 a10 a11 a12 m = some r → rf_V 20 (rf_sh w) K 0 0 208 ([(0, .ref 206), (2, .int a2), (3, .int a3), (10, .int a10), (11, .int a11), (12, .int a12)], [], rf_MM w m)) (hr335 : ∀ (a2 : Int32) (a3 : Int32) (a10 : Int32) (a11 : Int32) (a12 : Int32) (a13 : Int32) (a14 : Int32) (a15 : Int32) (a16 : Int32) (m : rf_m), rec335 a2 a3 a10 a11 a12 a13 a14 a15 a16 m = some r → rf_V 20 (rf_sh w) K 0 0 335 ([(0, .ref 206), (2, .int a2), (3, .int a3), (10, .int a10), (11, .int a11), (12, .int a12), (13, .int a13), (14, .int a14), (15, .int a15), (16, .int a16)], [], rf_MM w m)) (hr404 : ∀ (a2 : Int32) (a3 : Int32) (a10 : Int32) (a11 : Int32) (a12 : Int32) (a13 : Int32) (a14 : Int32) (a15 : Int32) (a16 : Int32) (a19 : Int32) (m : rf_m), rec404 a2 a3 a10 a11 a12 a13 a14 a15 a16 a19 m = some r → rf_V 20 (rf_sh w) K 0 0 404 ([(0, .ref 206), (2, .int a2), (3, .int a3), (10, .int a10), (11, .int a11), (12, .int a12), (13, .int a13), (14, .int a14), (15, .int a15), (16, .int a16), (19, .int a19)], [], rf_MM w m)) (a2 : Int32) (a3 : Int32) (a10 : Int32) (a11 : Int32) (a12 : Int32) (a13 : Int32) (a14 : Int32) (a15 : Int32) (a16 : Int32) (a19 : Int32) (m : rf_m) (hg : g_X14_check_459 w rec208 rec335 rec404 a2 a3 a10 a11 a12 a13 a14 a15 a16 a19 m = some r) : rf_V 20 (rf_sh w) K 0 0 459 ([(0, .ref 206), (2, .int a2), (3, .int a3), (10, .int a10), (11, .int a11), (12, .int a12), (13, .int a13), (14, .int a14), (15, .int a15), (16, .int a16), (19, .int a19)], [], rf_MM w m) := by
  unfold g_X14_check_459 at hg
  refine rf_seg C [(.iinc 19 1, 3)] (pc' := 462) (S' := ([(19, .int (a19 + 1)), (0, .ref 206), (2, .int a2), (3, .int a3), (10, .int a10), (11, .int a11), (12, .int a12), (13, .int a13), (14, .int a14), (15, .int a15), (16, .int a16)], [], rf_MM w m)) (by decide +kernel) rfl trivial ?_
  refine rf_goto C (-58) 404 (by decide +kernel) ?_
  refine rf_few [1, 2, 3, 4, 5, 6, 7, 8, 9, 10, 0] rfl ?_
  exact hr404 a2 a3 a10 a11 a12 a13 a14 a15 a16 (a19 + 1) m hg
theorem s_X14_check_404_b {w : rf_w} {K : rf_K} {r : Int32 × rf_m} (C : rf_Ctx 14 cX14_check 20 10 (rf_sh w) K) (hE : rf_End (some .int) K (rf_sh w) 0 0 (some (.int r.1)) (rf_MM w r.2)) {rec208 : Int32 → Int32 → Int32 → Int32 → Int32 → rf_m → Option (Int32 × rf_m)} {rec335 : Int32 → Int32 → Int32 → Int32 → Int32 → Int32 → Int32 → Int32 → Int32 → rf_m → Option (Int32 × rf_m)} {rec404 : Int32 → Int32 → Int32 → Int32 → Int32 → Int32 → Int32 → Int32 → Int32 → Int32 → rf_m → Option (Int32 × rf_m)} (hr208 : ∀ (a2 : Int32) (a3 : Int32) (a10 : Int32) (a11 : Int32) (a12 : Int32) (m : rf_m), rec208 a2 a3 a10 a11 a12 m = some r → rf_V 20 (rf_sh w) K 0 0 208 ([(0, .ref 206), (2, .int a2), (3, .int a3), (10, .int a10), (11, .int a11), (12, .int a12)], [], rf_MM w m)) (hr335 : ∀ (a2 : Int32) (a3 : Int32) (a10 : Int32) (a11 : Int32) (a12 : Int32) (a13 : Int32) (a14 : Int32) (a15 : Int32) (a16 : Int32) (m : rf_m), rec335 a2 a3 a10 a11 a12 a13 a14 a15 a16 m = some r → rf_V 20 (rf_sh w) K 0 0 335 ([(0, .ref 206), (2, .int a2), (3, .int a3), (10, .int a10), (11, .int a11), (12, .int a12), (13, .int a13), (14, .int a14), (15, .int a15), (16, .int a16)], [], rf_MM w m)) (hr404 : ∀ (a2 : Int32) (a3 : Int32) (a10 : Int32) (a11 : Int32) (a12 : Int32) (a13 : Int32) (a14 : Int32) (a15 : Int32) (a16 : Int32) (a19 : Int32) (m : rf_m), rec404 a2 a3 a10 a11 a12 a13 a14 a15 a16 a19 m = some r → rf_V 20 (rf_sh w) K 0 0 404 ([(0, .ref 206), (2, .int a2), (3, .int a3), (10, .int a10), (11, .int a11), (12, .int a12), (13, .int a13), (14, .int a14), (15, .int a15), (16, .int a16), (19, .int a19)], [], rf_MM w m)) (a2 : Int32) (a3 : Int32) (a10 : Int32) (a11 : Int32) (a12 : Int32) (a13 : Int32) (a14 : Int32) (a15 : Int32) (a16 : Int32) (a19 : Int32) (m : rf_m) (hg : g_X14_check_404_b w rec208 rec335 rec404 a2 a3 a10 a11 a12 a13 a14 a15 a16 a19 m = some r) : rf_V 20 (rf_sh w) K 0 0 404 ([(0, .ref 206), (2, .int a2), (3, .int a3), (10, .int a10), (11, .int a11), (12, .int a12), (13, .int a13), (14, .int a14), (15, .int a15), (16, .int a16), (19, .int a19)], [], rf_MM w m) := by
  unfold g_X14_check_404_b at hg
  refine rf_seg C [(.iload 19, 2), (.iconst 3, 1)] (pc' := 407) (S' := ([(0, .ref 206), (2, .int a2), (3, .int a3), (10, .int a10), (11, .int a11), (12, .int a12), (13, .int a13), (14, .int a14), (15, .int a15), (16, .int a16), (19, .int a19)], [.int 3, .int a19], rf_MM w m)) (by decide +kernel) rfl trivial ?_
  refine rf_icmp_ge C 58 465 (by decide +kernel) (fun hc => ?_) (fun hc => ?_)
  · replace hg := (if_pos hc).symm.trans hg
    refine rf_few [0, 1, 2, 3, 4, 5, 6, 7, 8, 9] rfl ?_
    exact s_X14_check_465 C hE hr208 hr335 a2 a3 a10 a11 a12 a13 a14 a15 a16 m hg
  · replace hg := (if_neg hc).symm.trans hg
    refine rf_seg C [(.iload 19, 2), (.iload 16, 2)] (pc' := 414) (S' := ([(0, .ref 206), (2, .int a2), (3, .int a3), (10, .int a10), (11, .int a11), (12, .int a12), (13, .int a13), (14, .int a14), (15, .int a15), (16, .int a16), (19, .int a19)], [.int a16, .int a19], rf_MM w m)) (by decide +kernel) rfl trivial ?_
    refine rf_icmp_eq C 45 459 (by decide +kernel) (fun hc => ?_) (fun hc => ?_)
    · replace hg := (if_pos hc).symm.trans hg
      refine rf_few [0, 1, 2, 3, 4, 5, 6, 7, 8, 9, 10] rfl ?_
      exact s_X14_check_459 C hE hr208 hr335 hr404 a2 a3 a10 a11 a12 a13 a14 a15 a16 a19 m hg
    · replace hg := (if_neg hc).symm.trans hg
      obtain ⟨q0, hg⟩ := rf_g_some hg
      obtain ⟨q1, hg⟩ := rf_g_some hg
      obtain ⟨q2, hg⟩ := rf_g_some hg
      obtain ⟨q3, hg⟩ := rf_g_some hg
      refine rf_seg C [(.aload 0, 1), (.aload 0, 1), (.invokeinterface 14 115, 3), (.aload 0, 1), (.invokeinterface 14 22, 3), (.aload 0, 1), (.invokeinterface 14 66, 3), (.iconst 3, 1), (.iload 13, 2), (.imul, 1), (.iload 19, 2), (.iadd, 1), (.iaload, 1), (.iaload, 1), (.aload 0, 1), (.invokeinterface 14 23, 3), (.aload 0, 1), (.invokeinterface 14 66, 3), (.iconst 3, 1), (.iload 13, 2), (.imul, 1), (.iload 19, 2), (.iadd, 1), (.iaload, 1), (.iaload, 1)] (pc' := 456) (S' := ([(0, .ref 206), (2, .int a2), (3, .int a3), (10, .int a10), (11, .int a11), (12, .int a12), (13, .int a13), (14, .int a14), (15, .int a15), (16, .int a16), (19, .int a19)], [.int (m.1 219 (Int32.toNatClampNeg (m.1 243 (Int32.toNatClampNeg ((3 * a13) + a19))))), .int (m.1 218 (Int32.toNatClampNeg (m.1 243 (Int32.toNatClampNeg ((3 * a13) + a19))))), .ref 281, .ref 206], rf_MM w m)) (by decide +kernel) rfl (by exact ⟨(rf_in_of q0), (rf_in_of q1), (rf_in_of q2), (rf_in_of q3)⟩) ?_
      obtain ⟨m4, hc4, hg⟩ := rf_bv_some hg
      refine rf_callv C rf_fit0 j_X14_allows__281 (ci := 14) (As := [.ref 281, .int (m.1 218 (Int32.toNatClampNeg (m.1 243 (Int32.toNatClampNeg ((3 * a13) + a19))))), .int (m.1 219 (Int32.toNatClampNeg (m.1 243 (Int32.toNatClampNeg ((3 * a13) + a19)))))]) (rest := []) mw_X14_allows__281 (c_X14_allows__281 hc4) (by decide) rfl (by decide) lk_14_854 rfl rfl (Nat.le_of_ble_eq_true rfl) (by decide +kernel) ?_
      show rf_V 20 (rf_sh w) K 0 0 459 ([(0, .ref 206), (2, .int a2), (3, .int a3), (10, .int a10), (11, .int a11), (12, .int a12), (13, .int a13), (14, .int a14), (15, .int a15), (16, .int a16), (19, .int a19)], [], rf_MM w m4)
      refine rf_few [0, 1, 2, 3, 4, 5, 6, 7, 8, 9, 10] rfl ?_
      exact s_X14_check_459 C hE hr208 hr335 hr404 a2 a3 a10 a11 a12 a13 a14 a15 a16 a19 m4 hg
theorem s_X14_check_404 {w : rf_w} {K : rf_K} {r : Int32 × rf_m} (C : rf_Ctx 14 cX14_check 20 10 (rf_sh w) K) (hE : rf_End (some .int) K (rf_sh w) 0 0 (some (.int r.1)) (rf_MM w r.2)) {rec208 : Int32 → Int32 → Int32 → Int32 → Int32 → rf_m → Option (Int32 × rf_m)} {rec335 : Int32 → Int32 → Int32 → Int32 → Int32 → Int32 → Int32 → Int32 → Int32 → rf_m → Option (Int32 × rf_m)} (hr208 : ∀ (a2 : Int32) (a3 : Int32) (a10 : Int32) (a11 : Int32) (a12 : Int32) (m : rf_m), rec208 a2 a3 a10 a11 a12 m = some r → rf_V 20 (rf_sh w) K 0 0 208 ([(0, .ref 206), (2, .int a2), (3, .int a3), (10, .int a10), (11, .int a11), (12, .int a12)], [], rf_MM w m)) (hr335 : ∀ (a2 : Int32) (a3 : Int32) (a10 : Int32) (a11 : Int32) (a12 : Int32) (a13 : Int32) (a14 : Int32) (a15 : Int32) (a16 : Int32) (m : rf_m), rec335 a2 a3 a10 a11 a12 a13 a14 a15 a16 m = some r → rf_V 20 (rf_sh w) K 0 0 335 ([(0, .ref 206), (2, .int a2), (3, .int a3), (10, .int a10), (11, .int a11), (12, .int a12), (13, .int a13), (14, .int a14), (15, .int a15), (16, .int a16)], [], rf_MM w m)) (n : Nat) : ∀ (a2 : Int32) (a3 : Int32) (a10 : Int32) (a11 : Int32) (a12 : Int32) (a13 : Int32) (a14 : Int32) (a15 : Int32) (a16 : Int32) (a19 : Int32) (m : rf_m), g_X14_check_404 w rec208 rec335 n a2 a3 a10 a11 a12 a13 a14 a15 a16 a19 m = some r → rf_V 20 (rf_sh w) K 0 0 404 ([(0, .ref 206), (2, .int a2), (3, .int a3), (10, .int a10), (11, .int a11), (12, .int a12), (13, .int a13), (14, .int a14), (15, .int a15), (16, .int a16), (19, .int a19)], [], rf_MM w m) := by
  induction n with
  | zero => intro a2 a3 a10 a11 a12 a13 a14 a15 a16 a19 m hg; cases hg
  | succ n ih => intro a2 a3 a10 a11 a12 a13 a14 a15 a16 a19 m hg; exact s_X14_check_404_b C hE hr208 hr335 ih a2 a3 a10 a11 a12 a13 a14 a15 a16 a19 m hg
theorem s_X14_check_335_b {w : rf_w} {K : rf_K} {r : Int32 × rf_m} (C : rf_Ctx 14 cX14_check 20 10 (rf_sh w) K) (hE : rf_End (some .int) K (rf_sh w) 0 0 (some (.int r.1)) (rf_MM w r.2)) {rec208 : Int32 → Int32 → Int32 → Int32 → Int32 → rf_m → Option (Int32 × rf_m)} {rec335 : Int32 → Int32 → Int32 → Int32 → Int32 → Int32 → Int32 → Int32 → Int32 → rf_m → Option (Int32 × rf_m)} (hr208 : ∀ (a2 : Int32) (a3 : Int32) (a10 : Int32) (a11 : Int32) (a12 : Int32) (m : rf_m), rec208 a2 a3 a10 a11 a12 m = some r → rf_V 20 (rf_sh w) K 0 0 208 ([(0, .ref 206), (2, .int a2), (3, .int a3), (10, .int a10), (11, .int a11), (12, .int a12)], [], rf_MM w m)) (hr335 : ∀ (a2 : Int32) (a3 : Int32) (a10 : Int32) (a11 : Int32) (a12 : Int32) (a13 : Int32) (a14 : Int32) (a15 : Int32) (a16 : Int32) (m : rf_m), rec335 a2 a3 a10 a11 a12 a13 a14 a15 a16 m = some r → rf_V 20 (rf_sh w) K 0 0 335 ([(0, .ref 206), (2, .int a2), (3, .int a3), (10, .int a10), (11, .int a11), (12, .int a12), (13, .int a13), (14, .int a14), (15, .int a15), (16, .int a16)], [], rf_MM w m)) (a2 : Int32) (a3 : Int32) (a10 : Int32) (a11 : Int32) (a12 : Int32) (a13 : Int32) (a14 : Int32) (a15 : Int32) (a16 : Int32) (m : rf_m) (hg : g_X14_check_335_b w rec208 rec335 a2 a3 a10 a11 a12 a13 a14 a15 a16 m = some r) : rf_V 20 (rf_sh w) K 0 0 335 ([(0, .ref 206), (2, .int a2), (3, .int a3), (10, .int a10), (11, .int a11), (12, .int a12), (13, .int a13), (14, .int a14), (15, .int a15), (16, .int a16)], [], rf_MM w m) := by
  unfold g_X14_check_335_b at hg
  refine rf_seg C [(.iload 16, 2), (.iconst 3, 1)] (pc' := 338) (S' := ([(0, .ref 206), (2, .int a2), (3, .int a3), (10, .int a10), (11, .int a11), (12, .int a12), (13, .int a13), (14, .int a14), (15, .int a15), (16, .int a16)], [.int 3, .int a16], rf_MM w m)) (by decide +kernel) rfl trivial ?_
  refine rf_icmp_ge C 133 471 (by decide +kernel) (fun hc => ?_) (fun hc => ?_)
  · replace hg := (if_pos hc).symm.trans hg
    refine rf_seg C [(.iload 14, 2)] (pc' := 473) (S' := ([(0, .ref 206), (2, .int a2), (3, .int a3), (10, .int a10), (11, .int a11), (12, .int a12), (13, .int a13), (14, .int a14), (15, .int a15), (16, .int a16)], [.int a14], rf_MM w m)) (by decide +kernel) rfl trivial ?_
    refine rf_if_eq C 31 504 (by decide +kernel) (fun hc => ?_) (fun hc => ?_)
    · replace hg := (if_pos hc).symm.trans hg
      refine rf_seg C [(.aload 0, 1), (.iconst 1, 1), (.iload 12, 2), (.iadd, 1)] (pc' := 509) (S' := ([(0, .ref 206), (2, .int a2), (3, .int a3), (10, .int a10), (11, .int a11), (12, .int a12), (13, .int a13), (14, .int a14), (15, .int a15), (16, .int a16)], [.int (1 + a12), .ref 206], rf_MM w m)) (by decide +kernel) rfl trivial ?_
      obtain ⟨y0, m0, hc0, hg⟩ := rf_b_some hg
      refine rf_callv C rf_fit0 j_X14_done (ci := 14) (As := [.int (1 + a12)]) (rest := []) mw_X14_done (c_X14_done hc0) (by decide) rfl (by decide) lk_14_357 rfl rfl (Nat.le_of_ble_eq_true rfl) (by decide +kernel) ?_
      show rf_V 20 (rf_sh w) K 0 0 512 ([(0, .ref 206), (2, .int a2), (3, .int a3), (10, .int a10), (11, .int a11), (12, .int a12), (13, .int a13), (14, .int a14), (15, .int a15), (16, .int a16)], [.int y0], rf_MM w m0)
      obtain rfl := Option.some.inj hg
      exact rf_iret C hE (by decide +kernel)
    · replace hg := (if_neg hc).symm.trans hg
      refine rf_seg C [(.iload 15, 2)] (pc' := 478) (S' := ([(0, .ref 206), (2, .int a2), (3, .int a3), (10, .int a10), (11, .int a11), (12, .int a12), (13, .int a13), (14, .int a14), (15, .int a15), (16, .int a16)], [.int a15], rf_MM w m)) (by decide +kernel) rfl trivial ?_
      refine rf_if_eq C 26 504 (by decide +kernel) (fun hc => ?_) (fun hc => ?_)
      · replace hg := (if_pos hc).symm.trans hg
        refine rf_seg C [(.aload 0, 1), (.iconst 1, 1), (.iload 12, 2), (.iadd, 1)] (pc' := 509) (S' := ([(0, .ref 206), (2, .int a2), (3, .int a3), (10, .int a10), (11, .int a11), (12, .int a12), (13, .int a13), (14, .int a14), (15, .int a15), (16, .int a16)], [.int (1 + a12), .ref 206], rf_MM w m)) (by decide +kernel) rfl trivial ?_
        obtain ⟨y1, m1, hc1, hg⟩ := rf_b_some hg
        refine rf_callv C rf_fit0 j_X14_done (ci := 14) (As := [.int (1 + a12)]) (rest := []) mw_X14_done (c_X14_done hc1) (by decide) rfl (by decide) lk_14_357 rfl rfl (Nat.le_of_ble_eq_true rfl) (by decide +kernel) ?_
        show rf_V 20 (rf_sh w) K 0 0 512 ([(0, .ref 206), (2, .int a2), (3, .int a3), (10, .int a10), (11, .int a11), (12, .int a12), (13, .int a13), (14, .int a14), (15, .int a15), (16, .int a16)], [.int y1], rf_MM w m1)
        obtain rfl := Option.some.inj hg
        exact rf_iret C hE (by decide +kernel)
      · replace hg := (if_neg hc).symm.trans hg
        refine rf_seg C [(.iload 12, 2), (.iload 10, 2), (.iconst 1, 1), (.isub, 1)] (pc' := 487) (S' := ([(0, .ref 206), (2, .int a2), (3, .int a3), (10, .int a10), (11, .int a11), (12, .int a12), (13, .int a13), (14, .int a14), (15, .int a15), (16, .int a16)], [.int (a10 - 1), .int a12], rf_MM w m)) (by decide +kernel) rfl trivial ?_
        refine rf_icmp_ne C 26 513 (by decide +kernel) (fun hc => ?_) (fun hc => ?_)
        · replace hg := (if_neg hc).symm.trans hg
          refine rf_few [0, 1, 2, 3, 4, 5] rfl ?_
          exact s_X14_check_513 C hE hr208 a2 a3 a10 a11 a12 m hg
        · replace hg := (if_pos hc).symm.trans hg
          obtain ⟨q2, hg⟩ := rf_g_some hg
          refine rf_seg C [(.aload 0, 1), (.invokeinterface 14 115, 3), (.iconst 30, 2), (.iload 2, 1), (.imul, 1), (.iload 3, 1), (.iadd, 1), (.baload, 1)] (pc' := 501) (S' := ([(0, .ref 206), (2, .int a2), (3, .int a3), (10, .int a10), (11, .int a11), (12, .int a12), (13, .int a13), (14, .int a14), (15, .int a15), (16, .int a16)], [.int (m.1 281 (Int32.toNatClampNeg ((30 * a2) + a3)))], rf_MM w m)) (by decide +kernel) rfl (rf_in_of q2) ?_
          refine rf_if_ne C 12 513 (by decide +kernel) (fun hc => ?_) (fun hc => ?_)
          · replace hg := (if_neg hc).symm.trans hg
            refine rf_few [0, 1, 2, 3, 4, 5] rfl ?_
            exact s_X14_check_513 C hE hr208 a2 a3 a10 a11 a12 m hg
          · replace hg := (if_pos hc).symm.trans hg
            refine rf_seg C [(.aload 0, 1), (.iconst 1, 1), (.iload 12, 2), (.iadd, 1)] (pc' := 509) (S' := ([(0, .ref 206), (2, .int a2), (3, .int a3), (10, .int a10), (11, .int a11), (12, .int a12), (13, .int a13), (14, .int a14), (15, .int a15), (16, .int a16)], [.int (1 + a12), .ref 206], rf_MM w m)) (by decide +kernel) rfl trivial ?_
            obtain ⟨y3, m3, hc3, hg⟩ := rf_b_some hg
            refine rf_callv C rf_fit0 j_X14_done (ci := 14) (As := [.int (1 + a12)]) (rest := []) mw_X14_done (c_X14_done hc3) (by decide) rfl (by decide) lk_14_357 rfl rfl (Nat.le_of_ble_eq_true rfl) (by decide +kernel) ?_
            show rf_V 20 (rf_sh w) K 0 0 512 ([(0, .ref 206), (2, .int a2), (3, .int a3), (10, .int a10), (11, .int a11), (12, .int a12), (13, .int a13), (14, .int a14), (15, .int a15), (16, .int a16)], [.int y3], rf_MM w m3)
            obtain rfl := Option.some.inj hg
            exact rf_iret C hE (by decide +kernel)
  · replace hg := (if_neg hc).symm.trans hg
    obtain ⟨q4, hg⟩ := rf_g_some hg
    obtain ⟨q5, hg⟩ := rf_g_some hg
    refine rf_seg C [(.aload 0, 1), (.invokeinterface 14 22, 3), (.aload 0, 1), (.invokeinterface 14 66, 3), (.iconst 3, 1), (.iload 13, 2), (.imul, 1), (.iload 16, 2), (.iadd, 1), (.iaload, 1), (.iaload, 1)] (pc' := 358) (S' := ([(0, .ref 206), (2, .int a2), (3, .int a3), (10, .int a10), (11, .int a11), (12, .int a12), (13, .int a13), (14, .int a14), (15, .int a15), (16, .int a16)], [.int (m.1 218 (Int32.toNatClampNeg (m.1 243 (Int32.toNatClampNeg ((3 * a13) + a16)))))], rf_MM w m)) (by decide +kernel) rfl (by exact ⟨(rf_in_of q4), (rf_in_of q5)⟩) ?_
    obtain ⟨x6, hx6, hg⟩ := rf_vi_some hg
    refine rf_vi_top hx6 ?_
    obtain ⟨q7, hg⟩ := rf_g_some hg
    obtain ⟨q8, hg⟩ := rf_g_some hg
    refine rf_seg C [(.istore 17, 2), (.aload 0, 1), (.invokeinterface 14 23, 3), (.aload 0, 1), (.invokeinterface 14 66, 3), (.iconst 3, 1), (.iload 13, 2), (.imul, 1), (.iload 16, 2), (.iadd, 1), (.iaload, 1), (.iaload, 1)] (pc' := 377) (S' := ([(17, .int x6), (0, .ref 206), (2, .int a2), (3, .int a3), (10, .int a10), (11, .int a11), (12, .int a12), (13, .int a13), (14, .int a14), (15, .int a15), (16, .int a16)], [.int (m.1 219 (Int32.toNatClampNeg (m.1 243 (Int32.toNatClampNeg ((3 * a13) + a16)))))], rf_MM w m)) (by decide +kernel) rfl (by exact ⟨(rf_in_of q7), (rf_in_of q8)⟩) ?_
    obtain ⟨x9, hx9, hg⟩ := rf_vi_some hg
    refine rf_vi_top hx9 ?_
    obtain ⟨q10, hg⟩ := rf_g_some hg
    refine rf_seg C [(.istore 18, 2), (.aload 0, 1), (.invokeinterface 14 114, 3), (.iconst 30, 2), (.iload 17, 2), (.imul, 1), (.iload 18, 2), (.iadd, 1), (.baload, 1)] (pc' := 392) (S' := ([(18, .int x9), (17, .int x6), (0, .ref 206), (2, .int a2), (3, .int a3), (10, .int a10), (11, .int a11), (12, .int a12), (13, .int a13), (14, .int a14), (15, .int a15), (16, .int a16)], [.int (m.1 280 (Int32.toNatClampNeg ((30 * x6) + x9)))], rf_MM w m)) (by decide +kernel) rfl (rf_in_of q10) ?_
    refine rf_if_ne C 6 398 (by decide +kernel) (fun hc => ?_) (fun hc => ?_)
    · replace hg := (if_neg hc).symm.trans hg
      refine rf_seg C [(.iconst 1, 1), (.istore 15, 2), (.iconst 0, 1), (.istore 19, 2)] (pc' := 404) (S' := ([(19, .int 0), (15, .int 1), (18, .int x9), (17, .int x6), (0, .ref 206), (2, .int a2), (3, .int a3), (10, .int a10), (11, .int a11), (12, .int a12), (13, .int a13), (14, .int a14), (16, .int a16)], [], rf_MM w m)) (by decide +kernel) rfl trivial ?_
      refine rf_few [4, 5, 6, 7, 8, 9, 10, 11, 1, 12, 0] rfl ?_
      exact s_X14_check_404 C hE hr208 hr335 rf_fuel a2 a3 a10 a11 a12 a13 a14 1 a16 0 m hg
    · replace hg := (if_pos hc).symm.trans hg
      refine rf_goto C 70 465 (by decide +kernel) ?_
      refine rf_few [2, 3, 4, 5, 6, 7, 8, 9, 10, 11] rfl ?_
      exact s_X14_check_465 C hE hr208 hr335 a2 a3 a10 a11 a12 a13 a14 a15 a16 m hg
theorem s_X14_check_335 {w : rf_w} {K : rf_K} {r : Int32 × rf_m} (C : rf_Ctx 14 cX14_check 20 10 (rf_sh w) K) (hE : rf_End (some .int) K (rf_sh w) 0 0 (some (.int r.1)) (rf_MM w r.2)) {rec208 : Int32 → Int32 → Int32 → Int32 → Int32 → rf_m → Option (Int32 × rf_m)} (hr208 : ∀ (a2 : Int32) (a3 : Int32) (a10 : Int32) (a11 : Int32) (a12 : Int32) (m : rf_m), rec208 a2 a3 a10 a11 a12 m = some r → rf_V 20 (rf_sh w) K 0 0 208 ([(0, .ref 206), (2, .int a2), (3, .int a3), (10, .int a10), (11, .int a11), (12, .int a12)], [], rf_MM w m)) (n : Nat) : ∀ (a2 : Int32) (a3 : Int32) (a10 : Int32) (a11 : Int32) (a12 : Int32) (a13 : Int32) (a14 : Int32) (a15 : Int32) (a16 : Int32) (m : rf_m), g_X14_check_335 w rec208 n a2 a3 a10 a11 a12 a13 a14 a15 a16 m = some r → rf_V 20 (rf_sh w) K 0 0 335 ([(0, .ref 206), (2, .int a2), (3, .int a3), (10, .int a10), (11, .int a11), (12, .int a12), (13, .int a13), (14, .int a14), (15, .int a15), (16, .int a16)], [], rf_MM w m) := by
  induction n with
  | zero => intro a2 a3 a10 a11 a12 a13 a14 a15 a16 m hg; cases hg
  | succ n ih => intro a2 a3 a10 a11 a12 a13 a14 a15 a16 m hg; exact s_X14_check_335_b C hE hr208 ih a2 a3 a10 a11 a12 a13 a14 a15 a16 m hg
theorem s_X14_check_307_b {w : rf_w} {K : rf_K} {r : Int32 × rf_m} (C : rf_Ctx 14 cX14_check 20 10 (rf_sh w) K) (hE : rf_End (some .int) K (rf_sh w) 0 0 (some (.int r.1)) (rf_MM w r.2)) {rec208 : Int32 → Int32 → Int32 → Int32 → Int32 → rf_m → Option (Int32 × rf_m)} {rec307 : Int32 → Int32 → Int32 → Int32 → Int32 → Int32 → Int32 → Int32 → rf_m → Option (Int32 × rf_m)} (hr208 : ∀ (a2 : Int32) (a3 : Int32) (a10 : Int32) (a11 : Int32) (a12 : Int32) (m : rf_m), rec208 a2 a3 a10 a11 a12 m = some r → rf_V 20 (rf_sh w) K 0 0 208 ([(0, .ref 206), (2, .int a2), (3, .int a3), (10, .int a10), (11, .int a11), (12, .int a12)], [], rf_MM w m)) (hr307 : ∀ (a2 : Int32) (a3 : Int32) (a10 : Int32) (a11 : Int32) (a12 : Int32) (a13 : Int32) (a14 : Int32) (a15 : Int32) (m : rf_m), rec307 a2 a3 a10 a11 a12 a13 a14 a15 m = some r → rf_V 20 (rf_sh w) K 0 0 307 ([(0, .ref 206), (2, .int a2), (3, .int a3), (10, .int a10), (11, .int a11), (12, .int a12), (13, .int a13), (14, .int a14), (15, .int a15)], [], rf_MM w m)) (a2 : Int32) (a3 : Int32) (a10 : Int32) (a11 : Int32) (a12 : Int32) (a13 : Int32) (a14 : Int32) (a15 : Int32) (m : rf_m) (hg : g_X14_check_307_b w rec208 rec307 a2 a3 a10 a11 a12 a13 a14 a15 m = some r) : rf_V 20 (rf_sh w) K 0 0 307 ([(0, .ref 206), (2, .int a2), (3, .int a3), (10, .int a10), (11, .int a11), (12, .int a12), (13, .int a13), (14, .int a14), (15, .int a15)], [], rf_MM w m) := by
  unfold g_X14_check_307_b at hg
  refine rf_seg C [(.iload 15, 2), (.iconst 900, 3)] (pc' := 312) (S' := ([(0, .ref 206), (2, .int a2), (3, .int a3), (10, .int a10), (11, .int a11), (12, .int a12), (13, .int a13), (14, .int a14), (15, .int a15)], [.int 900, .int a15], rf_MM w m)) (by decide +kernel) rfl trivial ?_
  refine rf_icmp_ge C 17 329 (by decide +kernel) (fun hc => ?_) (fun hc => ?_)
  · replace hg := (if_pos hc).symm.trans hg
    refine rf_seg C [(.iconst 0, 1), (.istore 15, 2), (.iconst 0, 1), (.istore 16, 2)] (pc' := 335) (S' := ([(16, .int 0), (15, .int 0), (0, .ref 206), (2, .int a2), (3, .int a3), (10, .int a10), (11, .int a11), (12, .int a12), (13, .int a13), (14, .int a14)], [], rf_MM w m)) (by decide +kernel) rfl trivial ?_
    refine rf_few [2, 3, 4, 5, 6, 7, 8, 9, 1, 0] rfl ?_
    exact s_X14_check_335 C hE hr208 rf_fuel a2 a3 a10 a11 a12 a13 a14 0 0 m hg
  · replace hg := (if_neg hc).symm.trans hg
    obtain ⟨q0, hg⟩ := rf_g_some hg
    refine rf_seg C [(.aload 0, 1), (.invokeinterface 14 115, 3), (.iload 15, 2), (.iconst 0, 1), (.bastore, 1), (.iinc 15 1, 3)] (pc' := 326) (S' := ([(15, .int (a15 + 1)), (0, .ref 206), (2, .int a2), (3, .int a3), (10, .int a10), (11, .int a11), (12, .int a12), (13, .int a13), (14, .int a14)], [], rf_MM w (rf_i m 281 (Int32.toNatClampNeg a15) (vp_nar .boolean 0)))) (by decide +kernel) rfl (rf_in_of q0) ?_
    refine rf_goto C (-19) 307 (by decide +kernel) ?_
    refine rf_few [1, 2, 3, 4, 5, 6, 7, 8, 0] rfl ?_
    exact hr307 a2 a3 a10 a11 a12 a13 a14 (a15 + 1) (rf_i m 281 (Int32.toNatClampNeg a15) (vp_nar .boolean 0)) hg
theorem s_X14_check_307 {w : rf_w} {K : rf_K} {r : Int32 × rf_m} (C : rf_Ctx 14 cX14_check 20 10 (rf_sh w) K) (hE : rf_End (some .int) K (rf_sh w) 0 0 (some (.int r.1)) (rf_MM w r.2)) {rec208 : Int32 → Int32 → Int32 → Int32 → Int32 → rf_m → Option (Int32 × rf_m)} (hr208 : ∀ (a2 : Int32) (a3 : Int32) (a10 : Int32) (a11 : Int32) (a12 : Int32) (m : rf_m), rec208 a2 a3 a10 a11 a12 m = some r → rf_V 20 (rf_sh w) K 0 0 208 ([(0, .ref 206), (2, .int a2), (3, .int a3), (10, .int a10), (11, .int a11), (12, .int a12)], [], rf_MM w m)) (n : Nat) : ∀ (a2 : Int32) (a3 : Int32) (a10 : Int32) (a11 : Int32) (a12 : Int32) (a13 : Int32) (a14 : Int32) (a15 : Int32) (m : rf_m), g_X14_check_307 w rec208 n a2 a3 a10 a11 a12 a13 a14 a15 m = some r → rf_V 20 (rf_sh w) K 0 0 307 ([(0, .ref 206), (2, .int a2), (3, .int a3), (10, .int a10), (11, .int a11), (12, .int a12), (13, .int a13), (14, .int a14), (15, .int a15)], [], rf_MM w m) := by
  induction n with
  | zero => intro a2 a3 a10 a11 a12 a13 a14 a15 m hg; cases hg
  | succ n ih => intro a2 a3 a10 a11 a12 a13 a14 a15 m hg; exact s_X14_check_307_b C hE hr208 ih a2 a3 a10 a11 a12 a13 a14 a15 m hg
theorem s_X14_check_296 {w : rf_w} {K : rf_K} {r : Int32 × rf_m} (C : rf_Ctx 14 cX14_check 20 10 (rf_sh w) K) (hE : rf_End (some .int) K (rf_sh w) 0 0 (some (.int r.1)) (rf_MM w r.2)) {rec208 : Int32 → Int32 → Int32 → Int32 → Int32 → rf_m → Option (Int32 × rf_m)} {rec267 : Int32 → Int32 → Int32 → Int32 → Int32 → Int32 → Int32 → Int32 → rf_m → Option (Int32 × rf_m)} (hr208 : ∀ (a2 : Int32) (a3 : Int32) (a10 : Int32) (a11 : Int32) (a12 : Int32) (m : rf_m), rec208 a2 a3 a10 a11 a12 m = some r → rf_V 20 (rf_sh w) K 0 0 208 ([(0, .ref 206), (2, .int a2), (3, .int a3), (10, .int a10), (11, .int a11), (12, .int a12)], [], rf_MM w m)) (hr267 : ∀ (a2 : Int32) (a3 : Int32) (a10 : Int32) (a11 : Int32) (a12 : Int32) (a13 : Int32) (a14 : Int32) (a15 : Int32) (m : rf_m), rec267 a2 a3 a10 a11 a12 a13 a14 a15 m = some r → rf_V 20 (rf_sh w) K 0 0 267 ([(0, .ref 206), (2, .int a2), (3, .int a3), (10, .int a10), (11, .int a11), (12, .int a12), (13, .int a13), (14, .int a14), (15, .int a15)], [], rf_MM w m)) (a2 : Int32) (a3 : Int32) (a10 : Int32) (a11 : Int32) (a12 : Int32) (a13 : Int32) (a15 : Int32) (s0 : Int32) (m : rf_m) (hg : g_X14_check_296 w rec208 rec267 a2 a3 a10 a11 a12 a13 a15 s0 m = some r) : rf_V 20 (rf_sh w) K 0 0 296 ([(0, .ref 206), (2, .int a2), (3, .int a3), (10, .int a10), (11, .int a11), (12, .int a12), (13, .int a13), (15, .int a15)], [.int s0], rf_MM w m) := by
  unfold g_X14_check_296 at hg
  refine rf_seg C [(.istore 14, 2), (.iinc 15 1, 3)] (pc' := 301) (S' := ([(15, .int (a15 + 1)), (14, .int s0), (0, .ref 206), (2, .int a2), (3, .int a3), (10, .int a10), (11, .int a11), (12, .int a12), (13, .int a13)], [], rf_MM w m)) (by decide +kernel) rfl trivial ?_
  refine rf_goto C (-34) 267 (by decide +kernel) ?_
  refine rf_few [2, 3, 4, 5, 6, 7, 8, 1, 0] rfl ?_
  exact hr267 a2 a3 a10 a11 a12 a13 s0 (a15 + 1) m hg
theorem s_X14_check_295 {w : rf_w} {K : rf_K} {r : Int32 × rf_m} (C : rf_Ctx 14 cX14_check 20 10 (rf_sh w) K) (hE : rf_End (some .int) K (rf_sh w) 0 0 (some (.int r.1)) (rf_MM w r.2)) {rec208 : Int32 → Int32 → Int32 → Int32 → Int32 → rf_m → Option (Int32 × rf_m)} {rec267 : Int32 → Int32 → Int32 → Int32 → Int32 → Int32 → Int32 → Int32 → rf_m → Option (Int32 × rf_m)} (hr208 : ∀ (a2 : Int32) (a3 : Int32) (a10 : Int32) (a11 : Int32) (a12 : Int32) (m : rf_m), rec208 a2 a3 a10 a11 a12 m = some r → rf_V 20 (rf_sh w) K 0 0 208 ([(0, .ref 206), (2, .int a2), (3, .int a3), (10, .int a10), (11, .int a11), (12, .int a12)], [], rf_MM w m)) (hr267 : ∀ (a2 : Int32) (a3 : Int32) (a10 : Int32) (a11 : Int32) (a12 : Int32) (a13 : Int32) (a14 : Int32) (a15 : Int32) (m : rf_m), rec267 a2 a3 a10 a11 a12 a13 a14 a15 m = some r → rf_V 20 (rf_sh w) K 0 0 267 ([(0, .ref 206), (2, .int a2), (3, .int a3), (10, .int a10), (11, .int a11), (12, .int a12), (13, .int a13), (14, .int a14), (15, .int a15)], [], rf_MM w m)) (a2 : Int32) (a3 : Int32) (a10 : Int32) (a11 : Int32) (a12 : Int32) (a13 : Int32) (a15 : Int32) (m : rf_m) (hg : g_X14_check_295 w rec208 rec267 a2 a3 a10 a11 a12 a13 a15 m = some r) : rf_V 20 (rf_sh w) K 0 0 295 ([(0, .ref 206), (2, .int a2), (3, .int a3), (10, .int a10), (11, .int a11), (12, .int a12), (13, .int a13), (15, .int a15)], [], rf_MM w m) := by
  unfold g_X14_check_295 at hg
  refine rf_seg C [(.iconst 0, 1)] (pc' := 296) (S' := ([(0, .ref 206), (2, .int a2), (3, .int a3), (10, .int a10), (11, .int a11), (12, .int a12), (13, .int a13), (15, .int a15)], [.int 0], rf_MM w m)) (by decide +kernel) rfl trivial ?_
  refine rf_few [0, 1, 2, 3, 4, 5, 6, 7] rfl ?_
  exact s_X14_check_296 C hE hr208 hr267 a2 a3 a10 a11 a12 a13 a15 0 m hg
theorem s_X14_check_267_b {w : rf_w} {K : rf_K} {r : Int32 × rf_m} (C : rf_Ctx 14 cX14_check 20 10 (rf_sh w) K) (hE : rf_End (some .int) K (rf_sh w) 0 0 (some (.int r.1)) (rf_MM w r.2)) {rec208 : Int32 → Int32 → Int32 → Int32 → Int32 → rf_m → Option (Int32 × rf_m)} {rec267 : Int32 → Int32 → Int32 → Int32 → Int32 → Int32 → Int32 → Int32 → rf_m → Option (Int32 × rf_m)} (hr208 : ∀ (a2 : Int32) (a3 : Int32) (a10 : Int32) (a11 : Int32) (a12 : Int32) (m : rf_m), rec208 a2 a3 a10 a11 a12 m = some r → rf_V 20 (rf_sh w) K 0 0 208 ([(0, .ref 206), (2, .int a2), (3, .int a3), (10, .int a10), (11, .int a11), (12, .int a12)], [], rf_MM w m)) (hr267 : ∀ (a2 : Int32) (a3 : Int32) (a10 : Int32) (a11 : Int32) (a12 : Int32) (a13 : Int32) (a14 : Int32) (a15 : Int32) (m : rf_m), rec267 a2 a3 a10 a11 a12 a13 a14 a15 m = some r → rf_V 20 (rf_sh w) K 0 0 267 ([(0, .ref 206), (2, .int a2), (3, .int a3), (10, .int a10), (11, .int a11), (12, .int a12), (13, .int a13), (14, .int a14), (15, .int a15)], [], rf_MM w m)) (a2 : Int32) (a3 : Int32) (a10 : Int32) (a11 : Int32) (a12 : Int32) (a13 : Int32) (a14 : Int32) (a15 : Int32) (m : rf_m) (hg : g_X14_check_267_b w rec208 rec267 a2 a3 a10 a11 a12 a13 a14 a15 m = some r) : rf_V 20 (rf_sh w) K 0 0 267 ([(0, .ref 206), (2, .int a2), (3, .int a3), (10, .int a10), (11, .int a11), (12, .int a12), (13, .int a13), (14, .int a14), (15, .int a15)], [], rf_MM w m) := by
  unfold g_X14_check_267_b at hg
  refine rf_seg C [(.iload 15, 2), (.iload 12, 2)] (pc' := 271) (S' := ([(0, .ref 206), (2, .int a2), (3, .int a3), (10, .int a10), (11, .int a11), (12, .int a12), (13, .int a13), (14, .int a14), (15, .int a15)], [.int a12, .int a15], rf_MM w m)) (by decide +kernel) rfl trivial ?_
  refine rf_icmp_ge C 33 304 (by decide +kernel) (fun hc => ?_) (fun hc => ?_)
  · replace hg := (if_pos hc).symm.trans hg
    refine rf_seg C [(.iconst 0, 1), (.istore 15, 2)] (pc' := 307) (S' := ([(15, .int 0), (0, .ref 206), (2, .int a2), (3, .int a3), (10, .int a10), (11, .int a11), (12, .int a12), (13, .int a13), (14, .int a14)], [], rf_MM w m)) (by decide +kernel) rfl trivial ?_
    refine rf_few [1, 2, 3, 4, 5, 6, 7, 8, 0] rfl ?_
    exact s_X14_check_307 C hE hr208 rf_fuel a2 a3 a10 a11 a12 a13 a14 0 m hg
  · replace hg := (if_neg hc).symm.trans hg
    refine rf_seg C [(.iload 14, 2)] (pc' := 276) (S' := ([(0, .ref 206), (2, .int a2), (3, .int a3), (10, .int a10), (11, .int a11), (12, .int a12), (13, .int a13), (14, .int a14), (15, .int a15)], [.int a14], rf_MM w m)) (by decide +kernel) rfl trivial ?_
    refine rf_if_eq C 19 295 (by decide +kernel) (fun hc => ?_) (fun hc => ?_)
    · replace hg := (if_pos hc).symm.trans hg
      refine rf_few [0, 1, 2, 3, 4, 5, 6, 8] rfl ?_
      exact s_X14_check_295 C hE hr208 hr267 a2 a3 a10 a11 a12 a13 a15 m hg
    · replace hg := (if_neg hc).symm.trans hg
      obtain ⟨q0, hg⟩ := rf_g_some hg
      refine rf_seg C [(.aload 0, 1), (.invokeinterface 14 113, 3), (.iload 15, 2), (.iaload, 1), (.iload 13, 2)] (pc' := 288) (S' := ([(0, .ref 206), (2, .int a2), (3, .int a3), (10, .int a10), (11, .int a11), (12, .int a12), (13, .int a13), (14, .int a14), (15, .int a15)], [.int a13, .int (m.1 279 (Int32.toNatClampNeg a15))], rf_MM w m)) (by decide +kernel) rfl (rf_in_of q0) ?_
      refine rf_icmp_eq C 7 295 (by decide +kernel) (fun hc => ?_) (fun hc => ?_)
      · replace hg := (if_pos hc).symm.trans hg
        refine rf_few [0, 1, 2, 3, 4, 5, 6, 8] rfl ?_
        exact s_X14_check_295 C hE hr208 hr267 a2 a3 a10 a11 a12 a13 a15 m hg
      · replace hg := (if_neg hc).symm.trans hg
        refine rf_seg C [(.iconst 1, 1)] (pc' := 292) (S' := ([(0, .ref 206), (2, .int a2), (3, .int a3), (10, .int a10), (11, .int a11), (12, .int a12), (13, .int a13), (14, .int a14), (15, .int a15)], [.int 1], rf_MM w m)) (by decide +kernel) rfl trivial ?_
        refine rf_goto C 4 296 (by decide +kernel) ?_
        refine rf_few [0, 1, 2, 3, 4, 5, 6, 8] rfl ?_
        exact s_X14_check_296 C hE hr208 hr267 a2 a3 a10 a11 a12 a13 a15 1 m hg
theorem s_X14_check_267 {w : rf_w} {K : rf_K} {r : Int32 × rf_m} (C : rf_Ctx 14 cX14_check 20 10 (rf_sh w) K) (hE : rf_End (some .int) K (rf_sh w) 0 0 (some (.int r.1)) (rf_MM w r.2)) {rec208 : Int32 → Int32 → Int32 → Int32 → Int32 → rf_m → Option (Int32 × rf_m)} (hr208 : ∀ (a2 : Int32) (a3 : Int32) (a10 : Int32) (a11 : Int32) (a12 : Int32) (m : rf_m), rec208 a2 a3 a10 a11 a12 m = some r → rf_V 20 (rf_sh w) K 0 0 208 ([(0, .ref 206), (2, .int a2), (3, .int a3), (10, .int a10), (11, .int a11), (12, .int a12)], [], rf_MM w m)) (n : Nat) : ∀ (a2 : Int32) (a3 : Int32) (a10 : Int32) (a11 : Int32) (a12 : Int32) (a13 : Int32) (a14 : Int32) (a15 : Int32) (m : rf_m), g_X14_check_267 w rec208 n a2 a3 a10 a11 a12 a13 a14 a15 m = some r → rf_V 20 (rf_sh w) K 0 0 267 ([(0, .ref 206), (2, .int a2), (3, .int a3), (10, .int a10), (11, .int a11), (12, .int a12), (13, .int a13), (14, .int a14), (15, .int a15)], [], rf_MM w m) := by
  induction n with
  | zero => intro a2 a3 a10 a11 a12 a13 a14 a15 m hg; cases hg
  | succ n ih => intro a2 a3 a10 a11 a12 a13 a14 a15 m hg; exact s_X14_check_267_b C hE hr208 ih a2 a3 a10 a11 a12 a13 a14 a15 m hg
theorem s_X14_check_262 {w : rf_w} {K : rf_K} {r : Int32 × rf_m} (C : rf_Ctx 14 cX14_check 20 10 (rf_sh w) K) (hE : rf_End (some .int) K (rf_sh w) 0 0 (some (.int r.1)) (rf_MM w r.2)) {rec208 : Int32 → Int32 → Int32 → Int32 → Int32 → rf_m → Option (Int32 × rf_m)} (hr208 : ∀ (a2 : Int32) (a3 : Int32) (a10 : Int32) (a11 : Int32) (a12 : Int32) (m : rf_m), rec208 a2 a3 a10 a11 a12 m = some r → rf_V 20 (rf_sh w) K 0 0 208 ([(0, .ref 206), (2, .int a2), (3, .int a3), (10, .int a10), (11, .int a11), (12, .int a12)], [], rf_MM w m)) (a2 : Int32) (a3 : Int32) (a10 : Int32) (a11 : Int32) (a12 : Int32) (a13 : Int32) (s0 : Int32) (m : rf_m) (hg : g_X14_check_262 w rec208 a2 a3 a10 a11 a12 a13 s0 m = some r) : rf_V 20 (rf_sh w) K 0 0 262 ([(0, .ref 206), (2, .int a2), (3, .int a3), (10, .int a10), (11, .int a11), (12, .int a12), (13, .int a13)], [.int s0], rf_MM w m) := by
  unfold g_X14_check_262 at hg
  refine rf_seg C [(.istore 14, 2), (.iconst 0, 1), (.istore 15, 2)] (pc' := 267) (S' := ([(15, .int 0), (14, .int s0), (0, .ref 206), (2, .int a2), (3, .int a3), (10, .int a10), (11, .int a11), (12, .int a12), (13, .int a13)], [], rf_MM w m)) (by decide +kernel) rfl trivial ?_
  refine rf_few [2, 3, 4, 5, 6, 7, 8, 1, 0] rfl ?_
  exact s_X14_check_267 C hE hr208 rf_fuel a2 a3 a10 a11 a12 a13 s0 0 m hg
theorem s_X14_check_261 {w : rf_w} {K : rf_K} {r : Int32 × rf_m} (C : rf_Ctx 14 cX14_check 20 10 (rf_sh w) K) (hE : rf_End (some .int) K (rf_sh w) 0 0 (some (.int r.1)) (rf_MM w r.2)) {rec208 : Int32 → Int32 → Int32 → Int32 → Int32 → rf_m → Option (Int32 × rf_m)} (hr208 : ∀ (a2 : Int32) (a3 : Int32) (a10 : Int32) (a11 : Int32) (a12 : Int32) (m : rf_m), rec208 a2 a3 a10 a11 a12 m = some r → rf_V 20 (rf_sh w) K 0 0 208 ([(0, .ref 206), (2, .int a2), (3, .int a3), (10, .int a10), (11, .int a11), (12, .int a12)], [], rf_MM w m)) (a2 : Int32) (a3 : Int32) (a10 : Int32) (a11 : Int32) (a12 : Int32) (a13 : Int32) (m : rf_m) (hg : g_X14_check_261 w rec208 a2 a3 a10 a11 a12 a13 m = some r) : rf_V 20 (rf_sh w) K 0 0 261 ([(0, .ref 206), (2, .int a2), (3, .int a3), (10, .int a10), (11, .int a11), (12, .int a12), (13, .int a13)], [], rf_MM w m) := by
  unfold g_X14_check_261 at hg
  refine rf_seg C [(.iconst 0, 1)] (pc' := 262) (S' := ([(0, .ref 206), (2, .int a2), (3, .int a3), (10, .int a10), (11, .int a11), (12, .int a12), (13, .int a13)], [.int 0], rf_MM w m)) (by decide +kernel) rfl trivial ?_
  refine rf_few [0, 1, 2, 3, 4, 5, 6] rfl ?_
  exact s_X14_check_262 C hE hr208 a2 a3 a10 a11 a12 a13 0 m hg
theorem s_X14_check_208_b {w : rf_w} {K : rf_K} {r : Int32 × rf_m} (C : rf_Ctx 14 cX14_check 20 10 (rf_sh w) K) (hE : rf_End (some .int) K (rf_sh w) 0 0 (some (.int r.1)) (rf_MM w r.2)) {rec208 : Int32 → Int32 → Int32 → Int32 → Int32 → rf_m → Option (Int32 × rf_m)} (hr208 : ∀ (a2 : Int32) (a3 : Int32) (a10 : Int32) (a11 : Int32) (a12 : Int32) (m : rf_m), rec208 a2 a3 a10 a11 a12 m = some r → rf_V 20 (rf_sh w) K 0 0 208 ([(0, .ref 206), (2, .int a2), (3, .int a3), (10, .int a10), (11, .int a11), (12, .int a12)], [], rf_MM w m)) (a2 : Int32) (a3 : Int32) (a10 : Int32) (a11 : Int32) (a12 : Int32) (m : rf_m) (hg : g_X14_check_208_b w rec208 a2 a3 a10 a11 a12 m = some r) : rf_V 20 (rf_sh w) K 0 0 208 ([(0, .ref 206), (2, .int a2), (3, .int a3), (10, .int a10), (11, .int a11), (12, .int a12)], [], rf_MM w m) := by
  unfold g_X14_check_208_b at hg
  refine rf_seg C [(.iload 12, 2), (.iload 10, 2)] (pc' := 212) (S' := ([(0, .ref 206), (2, .int a2), (3, .int a3), (10, .int a10), (11, .int a11), (12, .int a12)], [.int a10, .int a12], rf_MM w m)) (by decide +kernel) rfl trivial ?_
  refine rf_icmp_ge C 338 550 (by decide +kernel) (fun hc => ?_) (fun hc => ?_)
  · replace hg := (if_pos hc).symm.trans hg
    refine rf_seg C [(.aload 0, 1), (.iconst 0, 1)] (pc' := 552) (S' := ([(0, .ref 206), (2, .int a2), (3, .int a3), (10, .int a10), (11, .int a11), (12, .int a12)], [.int 0, .ref 206], rf_MM w m)) (by decide +kernel) rfl trivial ?_
    obtain ⟨y0, m0, hc0, hg⟩ := rf_b_some hg
    refine rf_callv C rf_fit0 j_X14_done (ci := 14) (As := [.int 0]) (rest := []) mw_X14_done (c_X14_done hc0) (by decide) rfl (by decide) lk_14_357 rfl rfl (Nat.le_of_ble_eq_true rfl) (by decide +kernel) ?_
    show rf_V 20 (rf_sh w) K 0 0 555 ([(0, .ref 206), (2, .int a2), (3, .int a3), (10, .int a10), (11, .int a11), (12, .int a12)], [.int y0], rf_MM w m0)
    obtain rfl := Option.some.inj hg
    exact rf_iret C hE (by decide +kernel)
  · replace hg := (if_neg hc).symm.trans hg
    obtain ⟨q1, hg⟩ := rf_g_some hg
    refine rf_seg C [(.aload 0, 1), (.invokeinterface 14 113, 3), (.iload 12, 2), (.iaload, 1)] (pc' := 222) (S' := ([(0, .ref 206), (2, .int a2), (3, .int a3), (10, .int a10), (11, .int a11), (12, .int a12)], [.int (m.1 279 (Int32.toNatClampNeg a12))], rf_MM w m)) (by decide +kernel) rfl (rf_in_of q1) ?_
    obtain ⟨x2, hx2, hg⟩ := rf_vi_some hg
    refine rf_vi_top hx2 ?_
    refine rf_seg C [(.istore 13, 2), (.aload 0, 1), (.iload 13, 2)] (pc' := 227) (S' := ([(13, .int x2), (0, .ref 206), (2, .int a2), (3, .int a3), (10, .int a10), (11, .int a11), (12, .int a12)], [.int x2, .ref 206], rf_MM w m)) (by decide +kernel) rfl trivial ?_
    obtain ⟨y3, m3, hc3, hg⟩ := rf_b_some hg
    refine rf_callv C rf_fit0 j_X14_isWell (ci := 14) (As := [.int x2]) (rest := []) mw_X14_isWell (c_X14_isWell hc3) (by decide) rfl (by decide) lk_14_722 rfl rfl (Nat.le_of_ble_eq_true rfl) (by decide +kernel) ?_
    show rf_V 20 (rf_sh w) K 0 0 230 ([(13, .int x2), (0, .ref 206), (2, .int a2), (3, .int a3), (10, .int a10), (11, .int a11), (12, .int a12)], [.int y3], rf_MM w m3)
    refine rf_if_eq C 31 261 (by decide +kernel) (fun hc => ?_) (fun hc => ?_)
    · replace hg := (if_pos hc).symm.trans hg
      refine rf_few [1, 2, 3, 4, 5, 6, 0] rfl ?_
      exact s_X14_check_261 C hE hr208 a2 a3 a10 a11 a12 x2 m3 hg
    · replace hg := (if_neg hc).symm.trans hg
      refine rf_seg C [(.aload 0, 1), (.iload 13, 2), (.iconst 0, 1)] (pc' := 237) (S' := ([(13, .int x2), (0, .ref 206), (2, .int a2), (3, .int a3), (10, .int a10), (11, .int a11), (12, .int a12)], [.int 0, .int x2, .ref 206], rf_MM w m3)) (by decide +kernel) rfl trivial ?_
      obtain ⟨y4, m4, hc4, hg⟩ := rf_b_some hg
      refine rf_callv C rf_fit0 j_X14_missOf (ci := 14) (As := [.int x2, .int 0]) (rest := []) mw_X14_missOf (c_X14_missOf hc4) (by decide) rfl (by decide) lk_14_716 rfl rfl (Nat.le_of_ble_eq_true rfl) (by decide +kernel) ?_
      show rf_V 20 (rf_sh w) K 0 0 240 ([(13, .int x2), (0, .ref 206), (2, .int a2), (3, .int a3), (10, .int a10), (11, .int a11), (12, .int a12)], [.int y4], rf_MM w m4)
      refine rf_seg C [(.iload 11, 2)] (pc' := 242) (S' := ([(13, .int x2), (0, .ref 206), (2, .int a2), (3, .int a3), (10, .int a10), (11, .int a11), (12, .int a12)], [.int a11, .int y4], rf_MM w m4)) (by decide +kernel) rfl trivial ?_
      obtain ⟨y5, m5, hc5, hg⟩ := rf_b_some hg
      refine rf_calls C rf_fit0 j_X14_isWide (As := [.int y4, .int a11]) (rest := []) mw_X14_isWide (c_X14_isWide hc5) (by decide) lk_14_725 rfl rfl (Nat.le_of_ble_eq_true rfl) (by decide +kernel) ?_
      show rf_V 20 (rf_sh w) K 0 0 245 ([(13, .int x2), (0, .ref 206), (2, .int a2), (3, .int a3), (10, .int a10), (11, .int a11), (12, .int a12)], [.int y5], rf_MM w m5)
      refine rf_if_ne C 16 261 (by decide +kernel) (fun hc => ?_) (fun hc => ?_)
      · replace hg := (if_neg hc).symm.trans hg
        refine rf_few [1, 2, 3, 4, 5, 6, 0] rfl ?_
        exact s_X14_check_261 C hE hr208 a2 a3 a10 a11 a12 x2 m5 hg
      · replace hg := (if_pos hc).symm.trans hg
        refine rf_seg C [(.aload 0, 1), (.iload 13, 2)] (pc' := 251) (S' := ([(13, .int x2), (0, .ref 206), (2, .int a2), (3, .int a3), (10, .int a10), (11, .int a11), (12, .int a12)], [.int x2, .ref 206], rf_MM w m5)) (by decide +kernel) rfl trivial ?_
        obtain ⟨y6, m6, hc6, hg⟩ := rf_b_some hg
        refine rf_callv C rf_fit0 j_X14_carries (ci := 14) (As := [.int x2]) (rest := []) mw_X14_carries (c_X14_carries hc6) (by decide) rfl (by decide) lk_14_831 rfl rfl (Nat.le_of_ble_eq_true rfl) (by decide +kernel) ?_
        show rf_V 20 (rf_sh w) K 0 0 254 ([(13, .int x2), (0, .ref 206), (2, .int a2), (3, .int a3), (10, .int a10), (11, .int a11), (12, .int a12)], [.int y6], rf_MM w m6)
        refine rf_if_eq C 7 261 (by decide +kernel) (fun hc => ?_) (fun hc => ?_)
        · replace hg := (if_pos hc).symm.trans hg
          refine rf_few [1, 2, 3, 4, 5, 6, 0] rfl ?_
          exact s_X14_check_261 C hE hr208 a2 a3 a10 a11 a12 x2 m6 hg
        · replace hg := (if_neg hc).symm.trans hg
          refine rf_seg C [(.iconst 1, 1)] (pc' := 258) (S' := ([(13, .int x2), (0, .ref 206), (2, .int a2), (3, .int a3), (10, .int a10), (11, .int a11), (12, .int a12)], [.int 1], rf_MM w m6)) (by decide +kernel) rfl trivial ?_
          refine rf_goto C 4 262 (by decide +kernel) ?_
          refine rf_few [1, 2, 3, 4, 5, 6, 0] rfl ?_
          exact s_X14_check_262 C hE hr208 a2 a3 a10 a11 a12 x2 1 m6 hg
theorem s_X14_check_208 {w : rf_w} {K : rf_K} {r : Int32 × rf_m} (C : rf_Ctx 14 cX14_check 20 10 (rf_sh w) K) (hE : rf_End (some .int) K (rf_sh w) 0 0 (some (.int r.1)) (rf_MM w r.2)) (n : Nat) : ∀ (a2 : Int32) (a3 : Int32) (a10 : Int32) (a11 : Int32) (a12 : Int32) (m : rf_m), g_X14_check_208 w n a2 a3 a10 a11 a12 m = some r → rf_V 20 (rf_sh w) K 0 0 208 ([(0, .ref 206), (2, .int a2), (3, .int a3), (10, .int a10), (11, .int a11), (12, .int a12)], [], rf_MM w m) := by
  induction n with
  | zero => intro a2 a3 a10 a11 a12 m hg; cases hg
  | succ n ih => intro a2 a3 a10 a11 a12 m hg; exact s_X14_check_208_b C hE ih a2 a3 a10 a11 a12 m hg
theorem s_X14_check_163_b {w : rf_w} {K : rf_K} {r : Int32 × rf_m} (C : rf_Ctx 14 cX14_check 20 10 (rf_sh w) K) (hE : rf_End (some .int) K (rf_sh w) 0 0 (some (.int r.1)) (rf_MM w r.2)) {rec163 : Int32 → Int32 → Int32 → Int32 → Int32 → Int32 → rf_m → Option (Int32 × rf_m)} (hr163 : ∀ (a1 : Int32) (a2 : Int32) (a3 : Int32) (a10 : Int32) (a11 : Int32) (a12 : Int32) (m : rf_m), rec163 a1 a2 a3 a10 a11 a12 m = some r → rf_V 20 (rf_sh w) K 0 0 163 ([(0, .ref 206), (1, .int a1), (2, .int a2), (3, .int a3), (10, .int a10), (11, .int a11), (12, .int a12)], [], rf_MM w m)) (a1 : Int32) (a2 : Int32) (a3 : Int32) (a10 : Int32) (a11 : Int32) (a12 : Int32) (m : rf_m) (hg : g_X14_check_163_b w rec163 a1 a2 a3 a10 a11 a12 m = some r) : rf_V 20 (rf_sh w) K 0 0 163 ([(0, .ref 206), (1, .int a1), (2, .int a2), (3, .int a3), (10, .int a10), (11, .int a11), (12, .int a12)], [], rf_MM w m) := by
  unfold g_X14_check_163_b at hg
  refine rf_seg C [(.iload 12, 2), (.iconst 900, 3)] (pc' := 168) (S' := ([(0, .ref 206), (1, .int a1), (2, .int a2), (3, .int a3), (10, .int a10), (11, .int a11), (12, .int a12)], [.int 900, .int a12], rf_MM w m)) (by decide +kernel) rfl trivial ?_
  refine rf_icmp_ge C 17 185 (by decide +kernel) (fun hc => ?_) (fun hc => ?_)
  · replace hg := (if_pos hc).symm.trans hg
    obtain ⟨q0, hg⟩ := rf_g_some hg
    obtain ⟨q1, hg⟩ := rf_g_some hg
    refine rf_seg C [(.aload 0, 1), (.aload 0, 1), (.invokeinterface 14 114, 3), (.aload 0, 1), (.invokeinterface 14 57, 3), (.iload 1, 1), (.iaload, 1), (.aload 0, 1), (.invokeinterface 14 58, 3), (.iload 1, 1), (.iaload, 1)] (pc' := 202) (S' := ([(0, .ref 206), (1, .int a1), (2, .int a2), (3, .int a3), (10, .int a10), (11, .int a11), (12, .int a12)], [.int (m.1 237 (Int32.toNatClampNeg a1)), .int (m.1 236 (Int32.toNatClampNeg a1)), .ref 280, .ref 206], rf_MM w m)) (by decide +kernel) rfl (by exact ⟨(rf_in_of q0), (rf_in_of q1)⟩) ?_
    obtain ⟨m2, hc2, hg⟩ := rf_bv_some hg
    refine rf_callv C rf_fit0 j_X14_allows__280 (ci := 14) (As := [.ref 280, .int (m.1 236 (Int32.toNatClampNeg a1)), .int (m.1 237 (Int32.toNatClampNeg a1))]) (rest := []) mw_X14_allows__280 (c_X14_allows__280 hc2) (by decide) rfl (by decide) lk_14_854 rfl rfl (Nat.le_of_ble_eq_true rfl) (by decide +kernel) ?_
    show rf_V 20 (rf_sh w) K 0 0 205 ([(0, .ref 206), (1, .int a1), (2, .int a2), (3, .int a3), (10, .int a10), (11, .int a11), (12, .int a12)], [], rf_MM w m2)
    refine rf_seg C [(.iconst 0, 1), (.istore 12, 2)] (pc' := 208) (S' := ([(12, .int 0), (0, .ref 206), (1, .int a1), (2, .int a2), (3, .int a3), (10, .int a10), (11, .int a11)], [], rf_MM w m2)) (by decide +kernel) rfl trivial ?_
    refine rf_few [1, 3, 4, 5, 6, 0] rfl ?_
    exact s_X14_check_208 C hE rf_fuel a2 a3 a10 a11 0 m2 hg
  · replace hg := (if_neg hc).symm.trans hg
    obtain ⟨q3, hg⟩ := rf_g_some hg
    refine rf_seg C [(.aload 0, 1), (.invokeinterface 14 114, 3), (.iload 12, 2), (.iconst 0, 1), (.bastore, 1), (.iinc 12 1, 3)] (pc' := 182) (S' := ([(12, .int (a12 + 1)), (0, .ref 206), (1, .int a1), (2, .int a2), (3, .int a3), (10, .int a10), (11, .int a11)], [], rf_MM w (rf_i m 280 (Int32.toNatClampNeg a12) (vp_nar .boolean 0)))) (by decide +kernel) rfl (rf_in_of q3) ?_
    refine rf_goto C (-19) 163 (by decide +kernel) ?_
    refine rf_few [1, 2, 3, 4, 5, 6, 0] rfl ?_
    exact hr163 a1 a2 a3 a10 a11 (a12 + 1) (rf_i m 280 (Int32.toNatClampNeg a12) (vp_nar .boolean 0)) hg
theorem s_X14_check_163 {w : rf_w} {K : rf_K} {r : Int32 × rf_m} (C : rf_Ctx 14 cX14_check 20 10 (rf_sh w) K) (hE : rf_End (some .int) K (rf_sh w) 0 0 (some (.int r.1)) (rf_MM w r.2)) (n : Nat) : ∀ (a1 : Int32) (a2 : Int32) (a3 : Int32) (a10 : Int32) (a11 : Int32) (a12 : Int32) (m : rf_m), g_X14_check_163 w n a1 a2 a3 a10 a11 a12 m = some r → rf_V 20 (rf_sh w) K 0 0 163 ([(0, .ref 206), (1, .int a1), (2, .int a2), (3, .int a3), (10, .int a10), (11, .int a11), (12, .int a12)], [], rf_MM w m) := by
  induction n with
  | zero => intro a1 a2 a3 a10 a11 a12 m hg; cases hg
  | succ n ih => intro a1 a2 a3 a10 a11 a12 m hg; exact s_X14_check_163_b C hE ih a1 a2 a3 a10 a11 a12 m hg
theorem s_X14_check_135 {w : rf_w} {K : rf_K} {r : Int32 × rf_m} (C : rf_Ctx 14 cX14_check 20 10 (rf_sh w) K) (hE : rf_End (some .int) K (rf_sh w) 0 0 (some (.int r.1)) (rf_MM w r.2)) (a1 : Int32) (a2 : Int32) (a3 : Int32) (a10 : Int32) (m : rf_m) (hg : g_X14_check_135 w a1 a2 a3 a10 m = some r) : rf_V 20 (rf_sh w) K 0 0 135 ([(0, .ref 206), (1, .int a1), (2, .int a2), (3, .int a3), (10, .int a10)], [], rf_MM w m) := by
  unfold g_X14_check_135 at hg
  refine rf_seg C [(.iload 10, 2)] (pc' := 137) (S' := ([(0, .ref 206), (1, .int a1), (2, .int a2), (3, .int a3), (10, .int a10)], [.int a10], rf_MM w m)) (by decide +kernel) rfl trivial ?_
  refine rf_if_ne C 9 146 (by decide +kernel) (fun hc => ?_) (fun hc => ?_)
  · replace hg := (if_neg hc).symm.trans hg
    refine rf_seg C [(.aload 0, 1)] (pc' := 147) (S' := ([(0, .ref 206), (1, .int a1), (2, .int a2), (3, .int a3), (10, .int a10)], [.ref 206], rf_MM w m)) (by decide +kernel) rfl trivial ?_
    obtain ⟨m0, hc0, hg⟩ := rf_bv_some hg
    refine rf_callv C rf_fit0 j_X14_allMeans (ci := 14) (As := []) (rest := []) mw_X14_allMeans (c_X14_allMeans hc0) (by decide) rfl (by decide) lk_14_713 rfl rfl (Nat.le_of_ble_eq_true rfl) (by decide +kernel) ?_
    show rf_V 20 (rf_sh w) K 0 0 150 ([(0, .ref 206), (1, .int a1), (2, .int a2), (3, .int a3), (10, .int a10)], [], rf_MM w m0)
    refine rf_seg C [(.aload 0, 1)] (pc' := 151) (S' := ([(0, .ref 206), (1, .int a1), (2, .int a2), (3, .int a3), (10, .int a10)], [.ref 206], rf_MM w m0)) (by decide +kernel) rfl trivial ?_
    obtain ⟨m1, hc1, hg⟩ := rf_bv_some hg
    refine rf_callv C rf_fit0 j_X14_allSines (ci := 14) (As := []) (rest := []) mw_X14_allSines (c_X14_allSines hc1) (by decide) rfl (by decide) lk_14_842 rfl rfl (Nat.le_of_ble_eq_true rfl) (by decide +kernel) ?_
    show rf_V 20 (rf_sh w) K 0 0 154 ([(0, .ref 206), (1, .int a1), (2, .int a2), (3, .int a3), (10, .int a10)], [], rf_MM w m1)
    refine rf_seg C [(.aload 0, 1)] (pc' := 155) (S' := ([(0, .ref 206), (1, .int a1), (2, .int a2), (3, .int a3), (10, .int a10)], [.ref 206], rf_MM w m1)) (by decide +kernel) rfl trivial ?_
    obtain ⟨y2, m2, hc2, hg⟩ := rf_b_some hg
    refine rf_callv C rf_fit0 j_X14_allowed (ci := 14) (As := []) (rest := []) mw_X14_allowed (c_X14_allowed hc2) (by decide) rfl (by decide) lk_14_663 rfl rfl (Nat.le_of_ble_eq_true rfl) (by decide +kernel) ?_
    show rf_V 20 (rf_sh w) K 0 0 158 ([(0, .ref 206), (1, .int a1), (2, .int a2), (3, .int a3), (10, .int a10)], [.int y2], rf_MM w m2)
    refine rf_seg C [(.istore 11, 2), (.iconst 0, 1), (.istore 12, 2)] (pc' := 163) (S' := ([(12, .int 0), (11, .int y2), (0, .ref 206), (1, .int a1), (2, .int a2), (3, .int a3), (10, .int a10)], [], rf_MM w m2)) (by decide +kernel) rfl trivial ?_
    refine rf_few [2, 3, 4, 5, 6, 1, 0] rfl ?_
    exact s_X14_check_163 C hE rf_fuel a1 a2 a3 a10 y2 0 m2 hg
  · replace hg := (if_pos hc).symm.trans hg
    refine rf_seg C [(.aload 0, 1), (.iconst 1, 1)] (pc' := 142) (S' := ([(0, .ref 206), (1, .int a1), (2, .int a2), (3, .int a3), (10, .int a10)], [.int 1, .ref 206], rf_MM w m)) (by decide +kernel) rfl trivial ?_
    obtain ⟨y3, m3, hc3, hg⟩ := rf_b_some hg
    refine rf_callv C rf_fit0 j_X14_refused (ci := 14) (As := [.int 1]) (rest := []) mw_X14_refused (c_X14_refused hc3) (by decide) rfl (by decide) lk_14_353 rfl rfl (Nat.le_of_ble_eq_true rfl) (by decide +kernel) ?_
    show rf_V 20 (rf_sh w) K 0 0 145 ([(0, .ref 206), (1, .int a1), (2, .int a2), (3, .int a3), (10, .int a10)], [.int y3], rf_MM w m3)
    obtain rfl := Option.some.inj hg
    exact rf_iret C hE (by decide +kernel)
theorem s_X14_check_91_b {w : rf_w} {K : rf_K} {r : Int32 × rf_m} (C : rf_Ctx 14 cX14_check 20 10 (rf_sh w) K) (hE : rf_End (some .int) K (rf_sh w) 0 0 (some (.int r.1)) (rf_MM w r.2)) {rec91 : Int32 → Int32 → Int32 → Int32 → rf_m → Option (Int32 × rf_m)} (hr91 : ∀ (a1 : Int32) (a2 : Int32) (a3 : Int32) (a10 : Int32) (m : rf_m), rec91 a1 a2 a3 a10 m = some r → rf_V 20 (rf_sh w) K 0 0 91 ([(0, .ref 206), (1, .int a1), (2, .int a2), (3, .int a3), (10, .int a10)], [], rf_MM w m)) (a1 : Int32) (a2 : Int32) (a3 : Int32) (a10 : Int32) (m : rf_m) (hg : g_X14_check_91_b w rec91 a1 a2 a3 a10 m = some r) : rf_V 20 (rf_sh w) K 0 0 91 ([(0, .ref 206), (1, .int a1), (2, .int a2), (3, .int a3), (10, .int a10)], [], rf_MM w m) := by
  unfold g_X14_check_91_b at hg
  refine rf_seg C [(.iload 10, 2), (.iconst 6, 2)] (pc' := 95) (S' := ([(0, .ref 206), (1, .int a1), (2, .int a2), (3, .int a3), (10, .int a10)], [.int 6, .int a10], rf_MM w m)) (by decide +kernel) rfl trivial ?_
  refine rf_icmp_ge C 40 135 (by decide +kernel) (fun hc => ?_) (fun hc => ?_)
  · replace hg := (if_pos hc).symm.trans hg
    refine rf_few [0, 1, 2, 3, 4] rfl ?_
    exact s_X14_check_135 C hE a1 a2 a3 a10 m hg
  · replace hg := (if_neg hc).symm.trans hg
    obtain ⟨q0, hg⟩ := rf_g_some hg
    refine rf_seg C [(.aload 0, 1), (.invokeinterface 14 113, 3), (.iload 10, 2), (.iaload, 1), (.iconst (-1), 1)] (pc' := 106) (S' := ([(0, .ref 206), (1, .int a1), (2, .int a2), (3, .int a3), (10, .int a10)], [.int ((-1)), .int (m.1 279 (Int32.toNatClampNeg a10))], rf_MM w m)) (by decide +kernel) rfl (rf_in_of q0) ?_
    refine rf_icmp_eq C 29 135 (by decide +kernel) (fun hc => ?_) (fun hc => ?_)
    · replace hg := (if_pos hc).symm.trans hg
      refine rf_few [0, 1, 2, 3, 4] rfl ?_
      exact s_X14_check_135 C hE a1 a2 a3 a10 m hg
    · replace hg := (if_neg hc).symm.trans hg
      obtain ⟨q1, hg⟩ := rf_g_some hg
      refine rf_seg C [(.aload 0, 1), (.aload 0, 1), (.invokeinterface 14 113, 3), (.iload 10, 2), (.iaload, 1)] (pc' := 117) (S' := ([(0, .ref 206), (1, .int a1), (2, .int a2), (3, .int a3), (10, .int a10)], [.int (m.1 279 (Int32.toNatClampNeg a10)), .ref 206], rf_MM w m)) (by decide +kernel) rfl (rf_in_of q1) ?_
      obtain ⟨y2, m2, hc2, hg⟩ := rf_b_some hg
      refine rf_callv C rf_fit0 j_X14_isTriangle (ci := 14) (As := [.int (m.1 279 (Int32.toNatClampNeg a10))]) (rest := []) mw_X14_isTriangle (c_X14_isTriangle hc2) (by decide) rfl (by decide) lk_14_719 rfl rfl (Nat.le_of_ble_eq_true rfl) (by decide +kernel) ?_
      show rf_V 20 (rf_sh w) K 0 0 120 ([(0, .ref 206), (1, .int a1), (2, .int a2), (3, .int a3), (10, .int a10)], [.int y2], rf_MM w m2)
      refine rf_if_ne C 9 129 (by decide +kernel) (fun hc => ?_) (fun hc => ?_)
      · replace hg := (if_neg hc).symm.trans hg
        refine rf_seg C [(.iinc 10 1, 3)] (pc' := 132) (S' := ([(10, .int (a10 + 1)), (0, .ref 206), (1, .int a1), (2, .int a2), (3, .int a3)], [], rf_MM w m2)) (by decide +kernel) rfl trivial ?_
        refine rf_goto C (-41) 91 (by decide +kernel) ?_
        refine rf_few [1, 2, 3, 4, 0] rfl ?_
        exact hr91 a1 a2 a3 (a10 + 1) m2 hg
      · replace hg := (if_pos hc).symm.trans hg
        refine rf_seg C [(.aload 0, 1), (.iconst 1, 1)] (pc' := 125) (S' := ([(0, .ref 206), (1, .int a1), (2, .int a2), (3, .int a3), (10, .int a10)], [.int 1, .ref 206], rf_MM w m2)) (by decide +kernel) rfl trivial ?_
        obtain ⟨y3, m3, hc3, hg⟩ := rf_b_some hg
        refine rf_callv C rf_fit0 j_X14_refused (ci := 14) (As := [.int 1]) (rest := []) mw_X14_refused (c_X14_refused hc3) (by decide) rfl (by decide) lk_14_353 rfl rfl (Nat.le_of_ble_eq_true rfl) (by decide +kernel) ?_
        show rf_V 20 (rf_sh w) K 0 0 128 ([(0, .ref 206), (1, .int a1), (2, .int a2), (3, .int a3), (10, .int a10)], [.int y3], rf_MM w m3)
        obtain rfl := Option.some.inj hg
        exact rf_iret C hE (by decide +kernel)
theorem s_X14_check_91 {w : rf_w} {K : rf_K} {r : Int32 × rf_m} (C : rf_Ctx 14 cX14_check 20 10 (rf_sh w) K) (hE : rf_End (some .int) K (rf_sh w) 0 0 (some (.int r.1)) (rf_MM w r.2)) (n : Nat) : ∀ (a1 : Int32) (a2 : Int32) (a3 : Int32) (a10 : Int32) (m : rf_m), g_X14_check_91 w n a1 a2 a3 a10 m = some r → rf_V 20 (rf_sh w) K 0 0 91 ([(0, .ref 206), (1, .int a1), (2, .int a2), (3, .int a3), (10, .int a10)], [], rf_MM w m) := by
  induction n with
  | zero => intro a1 a2 a3 a10 m hg; cases hg
  | succ n ih => intro a1 a2 a3 a10 m hg; exact s_X14_check_91_b C hE ih a1 a2 a3 a10 m hg
theorem c_X14_check {w : rf_w} {m : rf_m} {a1 : Int32} {a2 : Int32} {a3 : Int32} {a4 : Int32} {a5 : Int32} {a6 : Int32} {a7 : Int32} {a8 : Int32} {a9 : Int32} {r : Int32 × rf_m} (hg : g_X14_check w m a1 a2 a3 a4 a5 a6 a7 a8 a9 = some r) : rf_Con j_X14_check 10 (rf_sh w) [.ref 206, .int a1, .int a2, .int a3, .int a4, .int a5, .int a6, .int a7, .int a8, .int a9] (rf_MM w m) (some (.int r.1)) (rf_MM w r.2) := by
  refine rf_con j_X14_check 10 ⟨by decide +kernel, rfl, Nat.le_of_ble_eq_true rfl⟩ (fun K C hE => ?_)
  unfold g_X14_check at hg
  show rf_V 20 (rf_sh w) K 0 0 0 ([(0, .ref 206), (1, .int a1), (2, .int a2), (3, .int a3), (4, .int a4), (5, .int a5), (6, .int a6), (7, .int a7), (8, .int a8), (9, .int a9)], [], rf_MM w m)
  refine rf_seg C [(.aload 0, 1), (.iconst 0, 1), (.multianewarray 14 0, 3), (.aload 0, 1), (.iload 1, 1)] (pc' := 7) (S' := ([(0, .ref 206), (1, .int a1), (2, .int a2), (3, .int a3), (4, .int a4), (5, .int a5), (6, .int a6), (7, .int a7), (8, .int a8), (9, .int a9)], [.int a1, .ref 206], rf_MM w (rf_i m 206 0 0))) (by decide +kernel) rfl trivial ?_
  obtain ⟨y0, m0, hc0, hg⟩ := rf_b_some hg
  refine rf_callv C rf_fit0 j_X14_isBase (ci := 14) (As := [.int a1]) (rest := []) mw_X14_isBase (c_X14_isBase hc0) (by decide) rfl (by decide) lk_14_672 rfl rfl (Nat.le_of_ble_eq_true rfl) (by decide +kernel) ?_
  show rf_V 20 (rf_sh w) K 0 0 10 ([(0, .ref 206), (1, .int a1), (2, .int a2), (3, .int a3), (4, .int a4), (5, .int a5), (6, .int a6), (7, .int a7), (8, .int a8), (9, .int a9)], [.int y0], rf_MM w m0)
  refine rf_if_eq C 24 34 (by decide +kernel) (fun hc => ?_) (fun hc => ?_)
  · replace hg := (if_pos hc).symm.trans hg
    refine rf_seg C [(.aload 0, 1), (.iconst 1, 1)] (pc' := 36) (S' := ([(0, .ref 206), (1, .int a1), (2, .int a2), (3, .int a3), (4, .int a4), (5, .int a5), (6, .int a6), (7, .int a7), (8, .int a8), (9, .int a9)], [.int 1, .ref 206], rf_MM w m0)) (by decide +kernel) rfl trivial ?_
    obtain ⟨y1, m1, hc1, hg⟩ := rf_b_some hg
    refine rf_callv C rf_fit0 j_X14_refused (ci := 14) (As := [.int 1]) (rest := []) mw_X14_refused (c_X14_refused hc1) (by decide) rfl (by decide) lk_14_353 rfl rfl (Nat.le_of_ble_eq_true rfl) (by decide +kernel) ?_
    show rf_V 20 (rf_sh w) K 0 0 39 ([(0, .ref 206), (1, .int a1), (2, .int a2), (3, .int a3), (4, .int a4), (5, .int a5), (6, .int a6), (7, .int a7), (8, .int a8), (9, .int a9)], [.int y1], rf_MM w m1)
    obtain rfl := Option.some.inj hg
    exact rf_iret C hE (by decide +kernel)
  · replace hg := (if_neg hc).symm.trans hg
    refine rf_seg C [(.aload 0, 1), (.iload 2, 1)] (pc' := 15) (S' := ([(0, .ref 206), (1, .int a1), (2, .int a2), (3, .int a3), (4, .int a4), (5, .int a5), (6, .int a6), (7, .int a7), (8, .int a8), (9, .int a9)], [.int a2, .ref 206], rf_MM w m0)) (by decide +kernel) rfl trivial ?_
    obtain ⟨y2, m2, hc2, hg⟩ := rf_b_some hg
    refine rf_callv C rf_fit0 j_X14_isMark (ci := 14) (As := [.int a2]) (rest := []) mw_X14_isMark (c_X14_isMark hc2) (by decide) rfl (by decide) lk_14_360 rfl rfl (Nat.le_of_ble_eq_true rfl) (by decide +kernel) ?_
    show rf_V 20 (rf_sh w) K 0 0 18 ([(0, .ref 206), (1, .int a1), (2, .int a2), (3, .int a3), (4, .int a4), (5, .int a5), (6, .int a6), (7, .int a7), (8, .int a8), (9, .int a9)], [.int y2], rf_MM w m2)
    refine rf_if_eq C 16 34 (by decide +kernel) (fun hc => ?_) (fun hc => ?_)
    · replace hg := (if_pos hc).symm.trans hg
      refine rf_seg C [(.aload 0, 1), (.iconst 1, 1)] (pc' := 36) (S' := ([(0, .ref 206), (1, .int a1), (2, .int a2), (3, .int a3), (4, .int a4), (5, .int a5), (6, .int a6), (7, .int a7), (8, .int a8), (9, .int a9)], [.int 1, .ref 206], rf_MM w m2)) (by decide +kernel) rfl trivial ?_
      obtain ⟨y3, m3, hc3, hg⟩ := rf_b_some hg
      refine rf_callv C rf_fit0 j_X14_refused (ci := 14) (As := [.int 1]) (rest := []) mw_X14_refused (c_X14_refused hc3) (by decide) rfl (by decide) lk_14_353 rfl rfl (Nat.le_of_ble_eq_true rfl) (by decide +kernel) ?_
      show rf_V 20 (rf_sh w) K 0 0 39 ([(0, .ref 206), (1, .int a1), (2, .int a2), (3, .int a3), (4, .int a4), (5, .int a5), (6, .int a6), (7, .int a7), (8, .int a8), (9, .int a9)], [.int y3], rf_MM w m3)
      obtain rfl := Option.some.inj hg
      exact rf_iret C hE (by decide +kernel)
    · replace hg := (if_neg hc).symm.trans hg
      refine rf_seg C [(.aload 0, 1), (.iload 3, 1)] (pc' := 23) (S' := ([(0, .ref 206), (1, .int a1), (2, .int a2), (3, .int a3), (4, .int a4), (5, .int a5), (6, .int a6), (7, .int a7), (8, .int a8), (9, .int a9)], [.int a3, .ref 206], rf_MM w m2)) (by decide +kernel) rfl trivial ?_
      obtain ⟨y4, m4, hc4, hg⟩ := rf_b_some hg
      refine rf_callv C rf_fit0 j_X14_isMark (ci := 14) (As := [.int a3]) (rest := []) mw_X14_isMark (c_X14_isMark hc4) (by decide) rfl (by decide) lk_14_360 rfl rfl (Nat.le_of_ble_eq_true rfl) (by decide +kernel) ?_
      show rf_V 20 (rf_sh w) K 0 0 26 ([(0, .ref 206), (1, .int a1), (2, .int a2), (3, .int a3), (4, .int a4), (5, .int a5), (6, .int a6), (7, .int a7), (8, .int a8), (9, .int a9)], [.int y4], rf_MM w m4)
      refine rf_if_eq C 8 34 (by decide +kernel) (fun hc => ?_) (fun hc => ?_)
      · replace hg := (if_pos hc).symm.trans hg
        refine rf_seg C [(.aload 0, 1), (.iconst 1, 1)] (pc' := 36) (S' := ([(0, .ref 206), (1, .int a1), (2, .int a2), (3, .int a3), (4, .int a4), (5, .int a5), (6, .int a6), (7, .int a7), (8, .int a8), (9, .int a9)], [.int 1, .ref 206], rf_MM w m4)) (by decide +kernel) rfl trivial ?_
        obtain ⟨y5, m5, hc5, hg⟩ := rf_b_some hg
        refine rf_callv C rf_fit0 j_X14_refused (ci := 14) (As := [.int 1]) (rest := []) mw_X14_refused (c_X14_refused hc5) (by decide) rfl (by decide) lk_14_353 rfl rfl (Nat.le_of_ble_eq_true rfl) (by decide +kernel) ?_
        show rf_V 20 (rf_sh w) K 0 0 39 ([(0, .ref 206), (1, .int a1), (2, .int a2), (3, .int a3), (4, .int a4), (5, .int a5), (6, .int a6), (7, .int a7), (8, .int a8), (9, .int a9)], [.int y5], rf_MM w m5)
        obtain rfl := Option.some.inj hg
        exact rf_iret C hE (by decide +kernel)
      · replace hg := (if_neg hc).symm.trans hg
        refine rf_seg C [(.iload 2, 1), (.iload 3, 1)] (pc' := 31) (S' := ([(0, .ref 206), (1, .int a1), (2, .int a2), (3, .int a3), (4, .int a4), (5, .int a5), (6, .int a6), (7, .int a7), (8, .int a8), (9, .int a9)], [.int a3, .int a2], rf_MM w m4)) (by decide +kernel) rfl trivial ?_
        refine rf_icmp_ne C 9 40 (by decide +kernel) (fun hc => ?_) (fun hc => ?_)
        · replace hg := (if_neg hc).symm.trans hg
          refine rf_seg C [(.aload 0, 1), (.invokeinterface 14 113, 3), (.iconst 0, 1), (.iload 4, 2), (.iastore, 1), (.aload 0, 1), (.invokeinterface 14 113, 3), (.iconst 1, 1), (.iload 5, 2), (.iastore, 1), (.aload 0, 1), (.invokeinterface 14 113, 3), (.iconst 2, 1), (.iload 6, 2), (.iastore, 1), (.aload 0, 1), (.invokeinterface 14 113, 3), (.iconst 3, 1), (.iload 7, 2), (.iastore, 1), (.aload 0, 1), (.invokeinterface 14 113, 3), (.iconst 4, 1), (.iload 8, 2), (.iastore, 1), (.aload 0, 1), (.invokeinterface 14 113, 3), (.iconst 5, 1), (.iload 9, 2), (.iastore, 1), (.iconst 0, 1), (.istore 10, 2)] (pc' := 91) (S' := ([(10, .int 0), (0, .ref 206), (1, .int a1), (2, .int a2), (3, .int a3), (4, .int a4), (5, .int a5), (6, .int a6), (7, .int a7), (8, .int a8), (9, .int a9)], [], rf_MM w (rf_i (rf_i (rf_i (rf_i (rf_i (rf_i m4 279 (Int32.toNatClampNeg 0) a4) 279 (Int32.toNatClampNeg 1) a5) 279 (Int32.toNatClampNeg 2) a6) 279 (Int32.toNatClampNeg 3) a7) 279 (Int32.toNatClampNeg 4) a8) 279 (Int32.toNatClampNeg 5) a9))) (by decide +kernel) rfl (by exact ⟨(rf_in_of (by decide)), (rf_in_of (by decide)), (rf_in_of (by decide)), (rf_in_of (by decide)), (rf_in_of (by decide)), (rf_in_of (by decide))⟩) ?_
          refine rf_few [1, 2, 3, 4, 0] rfl ?_
          exact s_X14_check_91 C hE rf_fuel a1 a2 a3 0 (rf_i (rf_i (rf_i (rf_i (rf_i (rf_i m4 279 (Int32.toNatClampNeg 0) a4) 279 (Int32.toNatClampNeg 1) a5) 279 (Int32.toNatClampNeg 2) a6) 279 (Int32.toNatClampNeg 3) a7) 279 (Int32.toNatClampNeg 4) a8) 279 (Int32.toNatClampNeg 5) a9) hg
        · replace hg := (if_pos hc).symm.trans hg
          refine rf_seg C [(.aload 0, 1), (.iconst 1, 1)] (pc' := 36) (S' := ([(0, .ref 206), (1, .int a1), (2, .int a2), (3, .int a3), (4, .int a4), (5, .int a5), (6, .int a6), (7, .int a7), (8, .int a8), (9, .int a9)], [.int 1, .ref 206], rf_MM w m4)) (by decide +kernel) rfl trivial ?_
          obtain ⟨y6, m6, hc6, hg⟩ := rf_b_some hg
          refine rf_callv C rf_fit0 j_X14_refused (ci := 14) (As := [.int 1]) (rest := []) mw_X14_refused (c_X14_refused hc6) (by decide) rfl (by decide) lk_14_353 rfl rfl (Nat.le_of_ble_eq_true rfl) (by decide +kernel) ?_
          show rf_V 20 (rf_sh w) K 0 0 39 ([(0, .ref 206), (1, .int a1), (2, .int a2), (3, .int a3), (4, .int a4), (5, .int a5), (6, .int a6), (7, .int a7), (8, .int a8), (9, .int a9)], [.int y6], rf_MM w m6)
          obtain rfl := Option.some.inj hg
          exact rf_iret C hE (by decide +kernel)
-- X14_isKeptNow
abbrev j_X14_isKeptNow : rf_J := (14, yX14_isKeptNow, cX14_isKeptNow, 4, (some .boolean))
theorem mw_X14_isKeptNow : rf_mv j_X14_isKeptNow (rf_R 14) 1 := ⟨⟨rf_mem 84 (by decide +kernel), rf_mem 84 (by decide +kernel), rf_mem 0 (by decide +kernel), rf_mem 84 (by decide +kernel)⟩, by decide +kernel, by decide⟩
def g_X14_isKeptNow_41 (w : rf_w) (rec14 : Int32 → Int32 → Int32 → rf_m → Option (Int32 × rf_m)) (a1 : Int32) (a3 : Int32) (s0 : Int32) (m : rf_m) : Option (Int32 × rf_m) := rec14 a1 s0 (a3 + 1) m
def g_X14_isKeptNow_36 (w : rf_w) (rec14 : Int32 → Int32 → Int32 → rf_m → Option (Int32 × rf_m)) (a1 : Int32) (a3 : Int32) (m : rf_m) : Option (Int32 × rf_m) := g_X14_isKeptNow_41 w rec14 a1 a3 1 m
def g_X14_isKeptNow_14_b (w : rf_w) (rec14 : Int32 → Int32 → Int32 → rf_m → Option (Int32 × rf_m)) (a1 : Int32) (a2 : Int32) (a3 : Int32) (m : rf_m) : Option (Int32 × rf_m) := (if (m.1 206 34) ≤ a3 then rf_g (rf_01 a2) (some (a2, m)) else (if a2 = 0 then rf_g (rf_in a3 20) ((if (m.1 227 (Int32.toNatClampNeg a3)) = a1 then g_X14_isKeptNow_36 w rec14 a1 a3 m else g_X14_isKeptNow_41 w rec14 a1 a3 0 m)) else g_X14_isKeptNow_36 w rec14 a1 a3 m))
def g_X14_isKeptNow_14 (w : rf_w) : Nat → Int32 → Int32 → Int32 → rf_m → Option (Int32 × rf_m)
  | 0, _, _, _, _ => none
  | n + 1, a1, a2, a3, m => g_X14_isKeptNow_14_b w (g_X14_isKeptNow_14 w n) a1 a2 a3 m
def g_X14_isKeptNow (w : rf_w) (m : rf_m) (a1 : Int32) : Option (Int32 × rf_m) := rf_g (rf_in a1 1200) (rf_bv (g_X14_now w m (m.1 220 (Int32.toNatClampNeg a1))) fun m1 => g_X14_isKeptNow_14 w rf_fuel a1 0 0 m1)
theorem s_X14_isKeptNow_41 {w : rf_w} {K : rf_K} {r : Int32 × rf_m} (C : rf_Ctx 14 cX14_isKeptNow 4 8 (rf_sh w) K) (hE : rf_End (some .boolean) K (rf_sh w) 0 0 (some (.int r.1)) (rf_MM w r.2)) {rec14 : Int32 → Int32 → Int32 → rf_m → Option (Int32 × rf_m)} (hr14 : ∀ (a1 : Int32) (a2 : Int32) (a3 : Int32) (m : rf_m), rec14 a1 a2 a3 m = some r → rf_V 4 (rf_sh w) K 0 0 14 ([(0, .ref 206), (1, .int a1), (2, .int a2), (3, .int a3)], [], rf_MM w m)) (a1 : Int32) (a3 : Int32) (s0 : Int32) (m : rf_m) (hg : g_X14_isKeptNow_41 w rec14 a1 a3 s0 m = some r) : rf_V 4 (rf_sh w) K 0 0 41 ([(0, .ref 206), (1, .int a1), (3, .int a3)], [.int s0], rf_MM w m) := by
  unfold g_X14_isKeptNow_41 at hg
  refine rf_seg C [(.istore 2, 1), (.iinc 3 1, 3)] (pc' := 45) (S' := ([(3, .int (a3 + 1)), (2, .int s0), (0, .ref 206), (1, .int a1)], [], rf_MM w m)) (by decide +kernel) rfl trivial ?_
  refine rf_goto C (-31) 14 (by decide +kernel) ?_
  refine rf_few [2, 3, 1, 0] rfl ?_
  exact hr14 a1 s0 (a3 + 1) m hg
theorem s_X14_isKeptNow_36 {w : rf_w} {K : rf_K} {r : Int32 × rf_m} (C : rf_Ctx 14 cX14_isKeptNow 4 8 (rf_sh w) K) (hE : rf_End (some .boolean) K (rf_sh w) 0 0 (some (.int r.1)) (rf_MM w r.2)) {rec14 : Int32 → Int32 → Int32 → rf_m → Option (Int32 × rf_m)} (hr14 : ∀ (a1 : Int32) (a2 : Int32) (a3 : Int32) (m : rf_m), rec14 a1 a2 a3 m = some r → rf_V 4 (rf_sh w) K 0 0 14 ([(0, .ref 206), (1, .int a1), (2, .int a2), (3, .int a3)], [], rf_MM w m)) (a1 : Int32) (a3 : Int32) (m : rf_m) (hg : g_X14_isKeptNow_36 w rec14 a1 a3 m = some r) : rf_V 4 (rf_sh w) K 0 0 36 ([(0, .ref 206), (1, .int a1), (3, .int a3)], [], rf_MM w m) := by
  unfold g_X14_isKeptNow_36 at hg
  refine rf_seg C [(.iconst 1, 1)] (pc' := 37) (S' := ([(0, .ref 206), (1, .int a1), (3, .int a3)], [.int 1], rf_MM w m)) (by decide +kernel) rfl trivial ?_
  refine rf_goto C 4 41 (by decide +kernel) ?_
  refine rf_few [0, 1, 2] rfl ?_
  exact s_X14_isKeptNow_41 C hE hr14 a1 a3 1 m hg
theorem s_X14_isKeptNow_14_b {w : rf_w} {K : rf_K} {r : Int32 × rf_m} (C : rf_Ctx 14 cX14_isKeptNow 4 8 (rf_sh w) K) (hE : rf_End (some .boolean) K (rf_sh w) 0 0 (some (.int r.1)) (rf_MM w r.2)) {rec14 : Int32 → Int32 → Int32 → rf_m → Option (Int32 × rf_m)} (hr14 : ∀ (a1 : Int32) (a2 : Int32) (a3 : Int32) (m : rf_m), rec14 a1 a2 a3 m = some r → rf_V 4 (rf_sh w) K 0 0 14 ([(0, .ref 206), (1, .int a1), (2, .int a2), (3, .int a3)], [], rf_MM w m)) (a1 : Int32) (a2 : Int32) (a3 : Int32) (m : rf_m) (hg : g_X14_isKeptNow_14_b w rec14 a1 a2 a3 m = some r) : rf_V 4 (rf_sh w) K 0 0 14 ([(0, .ref 206), (1, .int a1), (2, .int a2), (3, .int a3)], [], rf_MM w m) := by
  unfold g_X14_isKeptNow_14_b at hg
  refine rf_seg C [(.iload 3, 1), (.aload 0, 1), (.invokeinterface 14 34, 3)] (pc' := 19) (S' := ([(0, .ref 206), (1, .int a1), (2, .int a2), (3, .int a3)], [.int (m.1 206 34), .int a3], rf_MM w m)) (by decide +kernel) rfl trivial ?_
  refine rf_icmp_ge C 29 48 (by decide +kernel) (fun hc => ?_) (fun hc => ?_)
  · replace hg := (if_pos hc).symm.trans hg
    refine rf_seg C [(.iload 2, 1)] (pc' := 49) (S' := ([(0, .ref 206), (1, .int a1), (2, .int a2), (3, .int a3)], [.int a2], rf_MM w m)) (by decide +kernel) rfl trivial ?_
    obtain ⟨q01, hg⟩ := rf_g_some hg
    obtain rfl := Option.some.inj hg
    exact rf_zret C hE (rf_01_of q01) (by decide +kernel)
  · replace hg := (if_neg hc).symm.trans hg
    refine rf_seg C [(.iload 2, 1)] (pc' := 23) (S' := ([(0, .ref 206), (1, .int a1), (2, .int a2), (3, .int a3)], [.int a2], rf_MM w m)) (by decide +kernel) rfl trivial ?_
    refine rf_if_ne C 13 36 (by decide +kernel) (fun hc => ?_) (fun hc => ?_)
    · replace hg := (if_neg hc).symm.trans hg
      refine rf_few [0, 1, 3] rfl ?_
      exact s_X14_isKeptNow_36 C hE hr14 a1 a3 m hg
    · replace hg := (if_pos hc).symm.trans hg
      obtain ⟨q0, hg⟩ := rf_g_some hg
      refine rf_seg C [(.aload 0, 1), (.invokeinterface 14 31, 3), (.iload 3, 1), (.iaload, 1), (.iload 1, 1)] (pc' := 33) (S' := ([(0, .ref 206), (1, .int a1), (2, .int a2), (3, .int a3)], [.int a1, .int (m.1 227 (Int32.toNatClampNeg a3))], rf_MM w m)) (by decide +kernel) rfl (rf_in_of q0) ?_
      refine rf_icmp_ne C 7 40 (by decide +kernel) (fun hc => ?_) (fun hc => ?_)
      · replace hg := (if_neg hc).symm.trans hg
        refine rf_seg C [(.iconst 0, 1)] (pc' := 41) (S' := ([(0, .ref 206), (1, .int a1), (2, .int a2), (3, .int a3)], [.int 0], rf_MM w m)) (by decide +kernel) rfl trivial ?_
        refine rf_few [0, 1, 3] rfl ?_
        exact s_X14_isKeptNow_41 C hE hr14 a1 a3 0 m hg
      · replace hg := (if_pos hc).symm.trans hg
        refine rf_few [0, 1, 3] rfl ?_
        exact s_X14_isKeptNow_36 C hE hr14 a1 a3 m hg
theorem s_X14_isKeptNow_14 {w : rf_w} {K : rf_K} {r : Int32 × rf_m} (C : rf_Ctx 14 cX14_isKeptNow 4 8 (rf_sh w) K) (hE : rf_End (some .boolean) K (rf_sh w) 0 0 (some (.int r.1)) (rf_MM w r.2)) (n : Nat) : ∀ (a1 : Int32) (a2 : Int32) (a3 : Int32) (m : rf_m), g_X14_isKeptNow_14 w n a1 a2 a3 m = some r → rf_V 4 (rf_sh w) K 0 0 14 ([(0, .ref 206), (1, .int a1), (2, .int a2), (3, .int a3)], [], rf_MM w m) := by
  induction n with
  | zero => intro a1 a2 a3 m hg; cases hg
  | succ n ih => intro a1 a2 a3 m hg; exact s_X14_isKeptNow_14_b C hE ih a1 a2 a3 m hg
theorem c_X14_isKeptNow {w : rf_w} {m : rf_m} {a1 : Int32} {r : Int32 × rf_m} (hg : g_X14_isKeptNow w m a1 = some r) : rf_Con j_X14_isKeptNow 8 (rf_sh w) [.ref 206, .int a1] (rf_MM w m) (some (.int r.1)) (rf_MM w r.2) := by
  refine rf_con j_X14_isKeptNow 8 ⟨by decide +kernel, rfl, Nat.le_of_ble_eq_true rfl⟩ (fun K C hE => ?_)
  unfold g_X14_isKeptNow at hg
  show rf_V 4 (rf_sh w) K 0 0 0 ([(0, .ref 206), (1, .int a1)], [], rf_MM w m)
  obtain ⟨q0, hg⟩ := rf_g_some hg
  refine rf_seg C [(.aload 0, 1), (.aload 0, 1), (.invokeinterface 14 24, 3), (.iload 1, 1), (.iaload, 1)] (pc' := 7) (S' := ([(0, .ref 206), (1, .int a1)], [.int (m.1 220 (Int32.toNatClampNeg a1)), .ref 206], rf_MM w m)) (by decide +kernel) rfl (rf_in_of q0) ?_
  obtain ⟨m1, hc1, hg⟩ := rf_bv_some hg
  refine rf_callv C rf_fit0 j_X14_now (ci := 14) (As := [.int (m.1 220 (Int32.toNatClampNeg a1))]) (rest := []) mw_X14_now (c_X14_now hc1) (by decide) rfl (by decide) lk_14_469 rfl rfl (Nat.le_of_ble_eq_true rfl) (by decide +kernel) ?_
  show rf_V 4 (rf_sh w) K 0 0 10 ([(0, .ref 206), (1, .int a1)], [], rf_MM w m1)
  refine rf_seg C [(.iconst 0, 1), (.istore 2, 1), (.iconst 0, 1), (.istore 3, 1)] (pc' := 14) (S' := ([(3, .int 0), (2, .int 0), (0, .ref 206), (1, .int a1)], [], rf_MM w m1)) (by decide +kernel) rfl trivial ?_
  refine rf_few [2, 3, 1, 0] rfl ?_
  exact s_X14_isKeptNow_14 C hE rf_fuel a1 0 0 m1 hg
-- X14_suspect
abbrev j_X14_suspect : rf_J := (14, yX14_suspect, cX14_suspect, 4, (some .int))
theorem mw_X14_suspect : rf_mv j_X14_suspect (rf_R 14) 1 := ⟨⟨rf_mem 84 (by decide +kernel), rf_mem 84 (by decide +kernel), rf_mem 0 (by decide +kernel), rf_mem 84 (by decide +kernel)⟩, by decide +kernel, by decide⟩
def g_X14_suspect_131 (w : rf_w) (a1 : Int32) (a3 : Int32) (m : rf_m) : Option (Int32 × rf_m) := rf_g (rf_in a3 12) (rf_b (g_X14_done w (rf_i (rf_i m 282 (Int32.toNatClampNeg a3) a1) 206 116 (((rf_i m 282 (Int32.toNatClampNeg a3) a1).1 206 116) + 1)) ((rf_i (rf_i m 282 (Int32.toNatClampNeg a3) a1) 206 116 (((rf_i m 282 (Int32.toNatClampNeg a3) a1).1 206 116) + 1)).1 206 116)) fun y1 m1 => some (y1, m1))
def g_X14_suspect_95_b (w : rf_w) (rec95 : Int32 → Int32 → rf_m → Option (Int32 × rf_m)) (a1 : Int32) (a3 : Int32) (m : rf_m) : Option (Int32 × rf_m) := (if a3 ≤ 0 then g_X14_suspect_131 w a1 a3 m else rf_g (rf_in (a3 - 1) 12) ((if (m.1 282 (Int32.toNatClampNeg (a3 - 1))) ≤ a1 then g_X14_suspect_131 w a1 a3 m else rf_g (rf_in (a3 - 1) 12) (rf_g (rf_in a3 12) (rec95 a1 (a3 + (-1)) (rf_i m 282 (Int32.toNatClampNeg a3) (m.1 282 (Int32.toNatClampNeg (a3 - 1)))))))))
def g_X14_suspect_95 (w : rf_w) : Nat → Int32 → Int32 → rf_m → Option (Int32 × rf_m)
  | 0, _, _, _ => none
  | n + 1, a1, a3, m => g_X14_suspect_95_b w (g_X14_suspect_95 w n) a1 a3 m
def g_X14_suspect_50 (w : rf_w) (rec23 : Int32 → Int32 → Int32 → rf_m → Option (Int32 × rf_m)) (a1 : Int32) (a3 : Int32) (s0 : Int32) (m : rf_m) : Option (Int32 × rf_m) := rec23 a1 s0 (a3 + 1) m
def g_X14_suspect_45 (w : rf_w) (rec23 : Int32 → Int32 → Int32 → rf_m → Option (Int32 × rf_m)) (a1 : Int32) (a3 : Int32) (m : rf_m) : Option (Int32 × rf_m) := g_X14_suspect_50 w rec23 a1 a3 1 m
def g_X14_suspect_23_b (w : rf_w) (rec23 : Int32 → Int32 → Int32 → rf_m → Option (Int32 × rf_m)) (a1 : Int32) (a2 : Int32) (a3 : Int32) (m : rf_m) : Option (Int32 × rf_m) := (if (m.1 206 116) ≤ a3 then (if a2 = 0 then rf_b (g_X14_isKeptNow w m a1) fun y1 m1 => (if y1 = 0 then rf_b (g_X14_refused w m1 5) fun y3 m3 => some (y3, m3) else (if (m1.1 206 116) = 12 then rf_b (g_X14_refused w m1 3) fun y2 m2 => some (y2, m2) else g_X14_suspect_95 w rf_fuel a1 (m1.1 206 116) m1)) else rf_b (g_X14_refused w m 5) fun y0 m0 => some (y0, m0)) else (if a2 = 0 then rf_g (rf_in a3 12) ((if (m.1 282 (Int32.toNatClampNeg a3)) = a1 then g_X14_suspect_45 w rec23 a1 a3 m else g_X14_suspect_50 w rec23 a1 a3 0 m)) else g_X14_suspect_45 w rec23 a1 a3 m))
def g_X14_suspect_23 (w : rf_w) : Nat → Int32 → Int32 → Int32 → rf_m → Option (Int32 × rf_m)
  | 0, _, _, _, _ => none
  | n + 1, a1, a2, a3, m => g_X14_suspect_23_b w (g_X14_suspect_23 w n) a1 a2 a3 m
def g_X14_suspect (w : rf_w) (m : rf_m) (a1 : Int32) : Option (Int32 × rf_m) := rf_b (g_X14_isReading w (rf_i m 206 0 0) a1) fun y0 m0 => (if y0 = 0 then rf_b (g_X14_refused w m0 1) fun y1 m1 => some (y1, m1) else g_X14_suspect_23 w rf_fuel a1 0 0 m0)
theorem s_X14_suspect_131 {w : rf_w} {K : rf_K} {r : Int32 × rf_m} (C : rf_Ctx 14 cX14_suspect 4 9 (rf_sh w) K) (hE : rf_End (some .int) K (rf_sh w) 0 0 (some (.int r.1)) (rf_MM w r.2)) (a1 : Int32) (a3 : Int32) (m : rf_m) (hg : g_X14_suspect_131 w a1 a3 m = some r) : rf_V 4 (rf_sh w) K 0 0 131 ([(0, .ref 206), (1, .int a1), (3, .int a3)], [], rf_MM w m) := by
  unfold g_X14_suspect_131 at hg
  obtain ⟨q0, hg⟩ := rf_g_some hg
  refine rf_seg C [(.aload 0, 1), (.invokeinterface 14 119, 3), (.iload 3, 1), (.iload 1, 1), (.iastore, 1), (.aload 0, 1), (.dup, 1), (.invokeinterface 14 116, 3), (.iconst 1, 1), (.iadd, 1), (.multianewarray 14 116, 3), (.aload 0, 1), (.aload 0, 1), (.invokeinterface 14 116, 3)] (pc' := 153) (S' := ([(0, .ref 206), (1, .int a1), (3, .int a3)], [.int ((rf_i (rf_i m 282 (Int32.toNatClampNeg a3) a1) 206 116 (((rf_i m 282 (Int32.toNatClampNeg a3) a1).1 206 116) + 1)).1 206 116), .ref 206], rf_MM w (rf_i (rf_i m 282 (Int32.toNatClampNeg a3) a1) 206 116 (((rf_i m 282 (Int32.toNatClampNeg a3) a1).1 206 116) + 1)))) (by decide +kernel) rfl (rf_in_of q0) ?_
  obtain ⟨y1, m1, hc1, hg⟩ := rf_b_some hg
  refine rf_callv C rf_fit0 j_X14_done (ci := 14) (As := [.int ((rf_i (rf_i m 282 (Int32.toNatClampNeg a3) a1) 206 116 (((rf_i m 282 (Int32.toNatClampNeg a3) a1).1 206 116) + 1)).1 206 116)]) (rest := []) mw_X14_done (c_X14_done hc1) (by decide) rfl (by decide) lk_14_357 rfl rfl (Nat.le_of_ble_eq_true rfl) (by decide +kernel) ?_
  show rf_V 4 (rf_sh w) K 0 0 156 ([(0, .ref 206), (1, .int a1), (3, .int a3)], [.int y1], rf_MM w m1)
  obtain rfl := Option.some.inj hg
  exact rf_iret C hE (by decide +kernel)
theorem s_X14_suspect_95_b {w : rf_w} {K : rf_K} {r : Int32 × rf_m} (C : rf_Ctx 14 cX14_suspect 4 9 (rf_sh w) K) (hE : rf_End (some .int) K (rf_sh w) 0 0 (some (.int r.1)) (rf_MM w r.2)) {rec95 : Int32 → Int32 → rf_m → Option (Int32 × rf_m)} (hr95 : ∀ (a1 : Int32) (a3 : Int32) (m : rf_m), rec95 a1 a3 m = some r → rf_V 4 (rf_sh w) K 0 0 95 ([(0, .ref 206), (1, .int a1), (3, .int a3)], [], rf_MM w m)) (a1 : Int32) (a3 : Int32) (m : rf_m) (hg : g_X14_suspect_95_b w rec95 a1 a3 m = some r) : rf_V 4 (rf_sh w) K 0 0 95 ([(0, .ref 206), (1, .int a1), (3, .int a3)], [], rf_MM w m) := by
  unfold g_X14_suspect_95_b at hg
  refine rf_seg C [(.iload 3, 1)] (pc' := 96) (S' := ([(0, .ref 206), (1, .int a1), (3, .int a3)], [.int a3], rf_MM w m)) (by decide +kernel) rfl trivial ?_
  refine rf_if_le C 35 131 (by decide +kernel) (fun hc => ?_) (fun hc => ?_)
  · replace hg := (if_pos hc).symm.trans hg
    refine rf_few [0, 1, 2] rfl ?_
    exact s_X14_suspect_131 C hE a1 a3 m hg
  · replace hg := (if_neg hc).symm.trans hg
    obtain ⟨q0, hg⟩ := rf_g_some hg
    refine rf_seg C [(.aload 0, 1), (.invokeinterface 14 119, 3), (.iload 3, 1), (.iconst 1, 1), (.isub, 1), (.iaload, 1), (.iload 1, 1)] (pc' := 108) (S' := ([(0, .ref 206), (1, .int a1), (3, .int a3)], [.int a1, .int (m.1 282 (Int32.toNatClampNeg (a3 - 1)))], rf_MM w m)) (by decide +kernel) rfl (rf_in_of q0) ?_
    refine rf_icmp_le C 23 131 (by decide +kernel) (fun hc => ?_) (fun hc => ?_)
    · replace hg := (if_pos hc).symm.trans hg
      refine rf_few [0, 1, 2] rfl ?_
      exact s_X14_suspect_131 C hE a1 a3 m hg
    · replace hg := (if_neg hc).symm.trans hg
      obtain ⟨q1, hg⟩ := rf_g_some hg
      obtain ⟨q2, hg⟩ := rf_g_some hg
      refine rf_seg C [(.aload 0, 1), (.invokeinterface 14 119, 3), (.iload 3, 1), (.aload 0, 1), (.invokeinterface 14 119, 3), (.iload 3, 1), (.iconst 1, 1), (.isub, 1), (.iaload, 1), (.iastore, 1), (.iinc 3 (-1), 3)] (pc' := 128) (S' := ([(3, .int (a3 + (-1))), (0, .ref 206), (1, .int a1)], [], rf_MM w (rf_i m 282 (Int32.toNatClampNeg a3) (m.1 282 (Int32.toNatClampNeg (a3 - 1)))))) (by decide +kernel) rfl (by exact ⟨(rf_in_of q1), (rf_in_of q2)⟩) ?_
      refine rf_goto C (-33) 95 (by decide +kernel) ?_
      refine rf_few [1, 2, 0] rfl ?_
      exact hr95 a1 (a3 + (-1)) (rf_i m 282 (Int32.toNatClampNeg a3) (m.1 282 (Int32.toNatClampNeg (a3 - 1)))) hg
theorem s_X14_suspect_95 {w : rf_w} {K : rf_K} {r : Int32 × rf_m} (C : rf_Ctx 14 cX14_suspect 4 9 (rf_sh w) K) (hE : rf_End (some .int) K (rf_sh w) 0 0 (some (.int r.1)) (rf_MM w r.2)) (n : Nat) : ∀ (a1 : Int32) (a3 : Int32) (m : rf_m), g_X14_suspect_95 w n a1 a3 m = some r → rf_V 4 (rf_sh w) K 0 0 95 ([(0, .ref 206), (1, .int a1), (3, .int a3)], [], rf_MM w m) := by
  induction n with
  | zero => intro a1 a3 m hg; cases hg
  | succ n ih => intro a1 a3 m hg; exact s_X14_suspect_95_b C hE ih a1 a3 m hg
theorem s_X14_suspect_50 {w : rf_w} {K : rf_K} {r : Int32 × rf_m} (C : rf_Ctx 14 cX14_suspect 4 9 (rf_sh w) K) (hE : rf_End (some .int) K (rf_sh w) 0 0 (some (.int r.1)) (rf_MM w r.2)) {rec23 : Int32 → Int32 → Int32 → rf_m → Option (Int32 × rf_m)} (hr23 : ∀ (a1 : Int32) (a2 : Int32) (a3 : Int32) (m : rf_m), rec23 a1 a2 a3 m = some r → rf_V 4 (rf_sh w) K 0 0 23 ([(0, .ref 206), (1, .int a1), (2, .int a2), (3, .int a3)], [], rf_MM w m)) (a1 : Int32) (a3 : Int32) (s0 : Int32) (m : rf_m) (hg : g_X14_suspect_50 w rec23 a1 a3 s0 m = some r) : rf_V 4 (rf_sh w) K 0 0 50 ([(0, .ref 206), (1, .int a1), (3, .int a3)], [.int s0], rf_MM w m) := by
  unfold g_X14_suspect_50 at hg
  refine rf_seg C [(.istore 2, 1), (.iinc 3 1, 3)] (pc' := 54) (S' := ([(3, .int (a3 + 1)), (2, .int s0), (0, .ref 206), (1, .int a1)], [], rf_MM w m)) (by decide +kernel) rfl trivial ?_
  refine rf_goto C (-31) 23 (by decide +kernel) ?_
  refine rf_few [2, 3, 1, 0] rfl ?_
  exact hr23 a1 s0 (a3 + 1) m hg
theorem s_X14_suspect_45 {w : rf_w} {K : rf_K} {r : Int32 × rf_m} (C : rf_Ctx 14 cX14_suspect 4 9 (rf_sh w) K) (hE : rf_End (some .int) K (rf_sh w) 0 0 (some (.int r.1)) (rf_MM w r.2)) {rec23 : Int32 → Int32 → Int32 → rf_m → Option (Int32 × rf_m)} (hr23 : ∀ (a1 : Int32) (a2 : Int32) (a3 : Int32) (m : rf_m), rec23 a1 a2 a3 m = some r → rf_V 4 (rf_sh w) K 0 0 23 ([(0, .ref 206), (1, .int a1), (2, .int a2), (3, .int a3)], [], rf_MM w m)) (a1 : Int32) (a3 : Int32) (m : rf_m) (hg : g_X14_suspect_45 w rec23 a1 a3 m = some r) : rf_V 4 (rf_sh w) K 0 0 45 ([(0, .ref 206), (1, .int a1), (3, .int a3)], [], rf_MM w m) := by
  unfold g_X14_suspect_45 at hg
  refine rf_seg C [(.iconst 1, 1)] (pc' := 46) (S' := ([(0, .ref 206), (1, .int a1), (3, .int a3)], [.int 1], rf_MM w m)) (by decide +kernel) rfl trivial ?_
  refine rf_goto C 4 50 (by decide +kernel) ?_
  refine rf_few [0, 1, 2] rfl ?_
  exact s_X14_suspect_50 C hE hr23 a1 a3 1 m hg
theorem s_X14_suspect_23_b {w : rf_w} {K : rf_K} {r : Int32 × rf_m} (C : rf_Ctx 14 cX14_suspect 4 9 (rf_sh w) K) (hE : rf_End (some .int) K (rf_sh w) 0 0 (some (.int r.1)) (rf_MM w r.2)) {rec23 : Int32 → Int32 → Int32 → rf_m → Option (Int32 × rf_m)} (hr23 : ∀ (a1 : Int32) (a2 : Int32) (a3 : Int32) (m : rf_m), rec23 a1 a2 a3 m = some r → rf_V 4 (rf_sh w) K 0 0 23 ([(0, .ref 206), (1, .int a1), (2, .int a2), (3, .int a3)], [], rf_MM w m)) (a1 : Int32) (a2 : Int32) (a3 : Int32) (m : rf_m) (hg : g_X14_suspect_23_b w rec23 a1 a2 a3 m = some r) : rf_V 4 (rf_sh w) K 0 0 23 ([(0, .ref 206), (1, .int a1), (2, .int a2), (3, .int a3)], [], rf_MM w m) := by
  unfold g_X14_suspect_23_b at hg
  refine rf_seg C [(.iload 3, 1), (.aload 0, 1), (.invokeinterface 14 116, 3)] (pc' := 28) (S' := ([(0, .ref 206), (1, .int a1), (2, .int a2), (3, .int a3)], [.int (m.1 206 116), .int a3], rf_MM w m)) (by decide +kernel) rfl trivial ?_
  refine rf_icmp_ge C 29 57 (by decide +kernel) (fun hc => ?_) (fun hc => ?_)
  · replace hg := (if_pos hc).symm.trans hg
    refine rf_seg C [(.iload 2, 1)] (pc' := 58) (S' := ([(0, .ref 206), (1, .int a1), (2, .int a2), (3, .int a3)], [.int a2], rf_MM w m)) (by decide +kernel) rfl trivial ?_
    refine rf_if_ne C 11 69 (by decide +kernel) (fun hc => ?_) (fun hc => ?_)
    · replace hg := (if_neg hc).symm.trans hg
      refine rf_seg C [(.aload 0, 1), (.iconst 5, 1)] (pc' := 71) (S' := ([(0, .ref 206), (1, .int a1), (2, .int a2), (3, .int a3)], [.int 5, .ref 206], rf_MM w m)) (by decide +kernel) rfl trivial ?_
      obtain ⟨y0, m0, hc0, hg⟩ := rf_b_some hg
      refine rf_callv C rf_fit0 j_X14_refused (ci := 14) (As := [.int 5]) (rest := []) mw_X14_refused (c_X14_refused hc0) (by decide) rfl (by decide) lk_14_353 rfl rfl (Nat.le_of_ble_eq_true rfl) (by decide +kernel) ?_
      show rf_V 4 (rf_sh w) K 0 0 74 ([(0, .ref 206), (1, .int a1), (2, .int a2), (3, .int a3)], [.int y0], rf_MM w m0)
      obtain rfl := Option.some.inj hg
      exact rf_iret C hE (by decide +kernel)
    · replace hg := (if_pos hc).symm.trans hg
      refine rf_seg C [(.aload 0, 1), (.iload 1, 1)] (pc' := 63) (S' := ([(0, .ref 206), (1, .int a1), (2, .int a2), (3, .int a3)], [.int a1, .ref 206], rf_MM w m)) (by decide +kernel) rfl trivial ?_
      obtain ⟨y1, m1, hc1, hg⟩ := rf_b_some hg
      refine rf_callv C rf_fit0 j_X14_isKeptNow (ci := 14) (As := [.int a1]) (rest := []) mw_X14_isKeptNow (c_X14_isKeptNow hc1) (by decide) rfl (by decide) lk_14_861 rfl rfl (Nat.le_of_ble_eq_true rfl) (by decide +kernel) ?_
      show rf_V 4 (rf_sh w) K 0 0 66 ([(0, .ref 206), (1, .int a1), (2, .int a2), (3, .int a3)], [.int y1], rf_MM w m1)
      refine rf_if_ne C 9 75 (by decide +kernel) (fun hc => ?_) (fun hc => ?_)
      · replace hg := (if_neg hc).symm.trans hg
        refine rf_seg C [(.aload 0, 1), (.invokeinterface 14 116, 3), (.iconst 12, 2)] (pc' := 81) (S' := ([(0, .ref 206), (1, .int a1), (2, .int a2), (3, .int a3)], [.int 12, .int (m1.1 206 116)], rf_MM w m1)) (by decide +kernel) rfl trivial ?_
        refine rf_icmp_ne C 9 90 (by decide +kernel) (fun hc => ?_) (fun hc => ?_)
        · replace hg := (if_neg hc).symm.trans hg
          refine rf_seg C [(.aload 0, 1), (.invokeinterface 14 116, 3), (.istore 3, 1)] (pc' := 95) (S' := ([(3, .int (m1.1 206 116)), (0, .ref 206), (1, .int a1), (2, .int a2)], [], rf_MM w m1)) (by decide +kernel) rfl trivial ?_
          refine rf_few [1, 2, 0] rfl ?_
          exact s_X14_suspect_95 C hE rf_fuel a1 (m1.1 206 116) m1 hg
        · replace hg := (if_pos hc).symm.trans hg
          refine rf_seg C [(.aload 0, 1), (.iconst 3, 1)] (pc' := 86) (S' := ([(0, .ref 206), (1, .int a1), (2, .int a2), (3, .int a3)], [.int 3, .ref 206], rf_MM w m1)) (by decide +kernel) rfl trivial ?_
          obtain ⟨y2, m2, hc2, hg⟩ := rf_b_some hg
          refine rf_callv C rf_fit0 j_X14_refused (ci := 14) (As := [.int 3]) (rest := []) mw_X14_refused (c_X14_refused hc2) (by decide) rfl (by decide) lk_14_353 rfl rfl (Nat.le_of_ble_eq_true rfl) (by decide +kernel) ?_
          show rf_V 4 (rf_sh w) K 0 0 89 ([(0, .ref 206), (1, .int a1), (2, .int a2), (3, .int a3)], [.int y2], rf_MM w m2)
          obtain rfl := Option.some.inj hg
          exact rf_iret C hE (by decide +kernel)
      · replace hg := (if_pos hc).symm.trans hg
        refine rf_seg C [(.aload 0, 1), (.iconst 5, 1)] (pc' := 71) (S' := ([(0, .ref 206), (1, .int a1), (2, .int a2), (3, .int a3)], [.int 5, .ref 206], rf_MM w m1)) (by decide +kernel) rfl trivial ?_
        obtain ⟨y3, m3, hc3, hg⟩ := rf_b_some hg
        refine rf_callv C rf_fit0 j_X14_refused (ci := 14) (As := [.int 5]) (rest := []) mw_X14_refused (c_X14_refused hc3) (by decide) rfl (by decide) lk_14_353 rfl rfl (Nat.le_of_ble_eq_true rfl) (by decide +kernel) ?_
        show rf_V 4 (rf_sh w) K 0 0 74 ([(0, .ref 206), (1, .int a1), (2, .int a2), (3, .int a3)], [.int y3], rf_MM w m3)
        obtain rfl := Option.some.inj hg
        exact rf_iret C hE (by decide +kernel)
  · replace hg := (if_neg hc).symm.trans hg
    refine rf_seg C [(.iload 2, 1)] (pc' := 32) (S' := ([(0, .ref 206), (1, .int a1), (2, .int a2), (3, .int a3)], [.int a2], rf_MM w m)) (by decide +kernel) rfl trivial ?_
    refine rf_if_ne C 13 45 (by decide +kernel) (fun hc => ?_) (fun hc => ?_)
    · replace hg := (if_neg hc).symm.trans hg
      refine rf_few [0, 1, 3] rfl ?_
      exact s_X14_suspect_45 C hE hr23 a1 a3 m hg
    · replace hg := (if_pos hc).symm.trans hg
      obtain ⟨q4, hg⟩ := rf_g_some hg
      refine rf_seg C [(.aload 0, 1), (.invokeinterface 14 119, 3), (.iload 3, 1), (.iaload, 1), (.iload 1, 1)] (pc' := 42) (S' := ([(0, .ref 206), (1, .int a1), (2, .int a2), (3, .int a3)], [.int a1, .int (m.1 282 (Int32.toNatClampNeg a3))], rf_MM w m)) (by decide +kernel) rfl (rf_in_of q4) ?_
      refine rf_icmp_ne C 7 49 (by decide +kernel) (fun hc => ?_) (fun hc => ?_)
      · replace hg := (if_neg hc).symm.trans hg
        refine rf_seg C [(.iconst 0, 1)] (pc' := 50) (S' := ([(0, .ref 206), (1, .int a1), (2, .int a2), (3, .int a3)], [.int 0], rf_MM w m)) (by decide +kernel) rfl trivial ?_
        refine rf_few [0, 1, 3] rfl ?_
        exact s_X14_suspect_50 C hE hr23 a1 a3 0 m hg
      · replace hg := (if_pos hc).symm.trans hg
        refine rf_few [0, 1, 3] rfl ?_
        exact s_X14_suspect_45 C hE hr23 a1 a3 m hg
theorem s_X14_suspect_23 {w : rf_w} {K : rf_K} {r : Int32 × rf_m} (C : rf_Ctx 14 cX14_suspect 4 9 (rf_sh w) K) (hE : rf_End (some .int) K (rf_sh w) 0 0 (some (.int r.1)) (rf_MM w r.2)) (n : Nat) : ∀ (a1 : Int32) (a2 : Int32) (a3 : Int32) (m : rf_m), g_X14_suspect_23 w n a1 a2 a3 m = some r → rf_V 4 (rf_sh w) K 0 0 23 ([(0, .ref 206), (1, .int a1), (2, .int a2), (3, .int a3)], [], rf_MM w m) := by
  induction n with
  | zero => intro a1 a2 a3 m hg; cases hg
  | succ n ih => intro a1 a2 a3 m hg; exact s_X14_suspect_23_b C hE ih a1 a2 a3 m hg
theorem c_X14_suspect {w : rf_w} {m : rf_m} {a1 : Int32} {r : Int32 × rf_m} (hg : g_X14_suspect w m a1 = some r) : rf_Con j_X14_suspect 9 (rf_sh w) [.ref 206, .int a1] (rf_MM w m) (some (.int r.1)) (rf_MM w r.2) := by
  refine rf_con j_X14_suspect 9 ⟨by decide +kernel, rfl, Nat.le_of_ble_eq_true rfl⟩ (fun K C hE => ?_)
  unfold g_X14_suspect at hg
  show rf_V 4 (rf_sh w) K 0 0 0 ([(0, .ref 206), (1, .int a1)], [], rf_MM w m)
  refine rf_seg C [(.aload 0, 1), (.iconst 0, 1), (.multianewarray 14 0, 3), (.aload 0, 1), (.iload 1, 1)] (pc' := 7) (S' := ([(0, .ref 206), (1, .int a1)], [.int a1, .ref 206], rf_MM w (rf_i m 206 0 0))) (by decide +kernel) rfl trivial ?_
  obtain ⟨y0, m0, hc0, hg⟩ := rf_b_some hg
  refine rf_callv C rf_fit0 j_X14_isReading (ci := 14) (As := [.int a1]) (rest := []) mw_X14_isReading (c_X14_isReading hc0) (by decide) rfl (by decide) lk_14_418 rfl rfl (Nat.le_of_ble_eq_true rfl) (by decide +kernel) ?_
  show rf_V 4 (rf_sh w) K 0 0 10 ([(0, .ref 206), (1, .int a1)], [.int y0], rf_MM w m0)
  refine rf_if_ne C 9 19 (by decide +kernel) (fun hc => ?_) (fun hc => ?_)
  · replace hg := (if_neg hc).symm.trans hg
    refine rf_seg C [(.iconst 0, 1), (.istore 2, 1), (.iconst 0, 1), (.istore 3, 1)] (pc' := 23) (S' := ([(3, .int 0), (2, .int 0), (0, .ref 206), (1, .int a1)], [], rf_MM w m0)) (by decide +kernel) rfl trivial ?_
    refine rf_few [2, 3, 1, 0] rfl ?_
    exact s_X14_suspect_23 C hE rf_fuel a1 0 0 m0 hg
  · replace hg := (if_pos hc).symm.trans hg
    refine rf_seg C [(.aload 0, 1), (.iconst 1, 1)] (pc' := 15) (S' := ([(0, .ref 206), (1, .int a1)], [.int 1, .ref 206], rf_MM w m0)) (by decide +kernel) rfl trivial ?_
    obtain ⟨y1, m1, hc1, hg⟩ := rf_b_some hg
    refine rf_callv C rf_fit0 j_X14_refused (ci := 14) (As := [.int 1]) (rest := []) mw_X14_refused (c_X14_refused hc1) (by decide) rfl (by decide) lk_14_353 rfl rfl (Nat.le_of_ble_eq_true rfl) (by decide +kernel) ?_
    show rf_V 4 (rf_sh w) K 0 0 18 ([(0, .ref 206), (1, .int a1)], [.int y1], rf_MM w m1)
    obtain rfl := Option.some.inj hg
    exact rf_iret C hE (by decide +kernel)
-- X14_clear
abbrev j_X14_clear : rf_J := (14, yX14_clear, cX14_clear, 2, (some .int))
theorem mw_X14_clear : rf_mv j_X14_clear (rf_R 14) 0 := ⟨⟨rf_mem 84 (by decide +kernel), rf_mem 84 (by decide +kernel), rf_mem 0 (by decide +kernel), rf_mem 84 (by decide +kernel)⟩, by decide +kernel, by decide⟩
def g_X14_clear (w : rf_w) (m : rf_m) : Option (Int32 × rf_m) := rf_vi ((rf_i m 206 0 0).1 206 116) fun x0 => some (x0, rf_i (rf_i m 206 0 0) 206 116 0)
theorem c_X14_clear {w : rf_w} {m : rf_m} {r : Int32 × rf_m} (hg : g_X14_clear w m = some r) : rf_Con j_X14_clear 1 (rf_sh w) [.ref 206] (rf_MM w m) (some (.int r.1)) (rf_MM w r.2) := by
  refine rf_con j_X14_clear 1 ⟨by decide +kernel, rfl, Nat.le_of_ble_eq_true rfl⟩ (fun K C hE => ?_)
  unfold g_X14_clear at hg
  show rf_V 2 (rf_sh w) K 0 0 0 ([(0, .ref 206)], [], rf_MM w m)
  refine rf_seg C [(.aload 0, 1), (.iconst 0, 1), (.multianewarray 14 0, 3), (.aload 0, 1), (.invokeinterface 14 116, 3)] (pc' := 9) (S' := ([(0, .ref 206)], [.int ((rf_i m 206 0 0).1 206 116)], rf_MM w (rf_i m 206 0 0))) (by decide +kernel) rfl trivial ?_
  obtain ⟨x0, hx0, hg⟩ := rf_vi_some hg
  refine rf_vi_top hx0 ?_
  refine rf_seg C [(.istore 1, 1), (.aload 0, 1), (.iconst 0, 1), (.multianewarray 14 116, 3), (.iload 1, 1)] (pc' := 16) (S' := ([(1, .int x0), (0, .ref 206)], [.int x0], rf_MM w (rf_i (rf_i m 206 0 0) 206 116 0))) (by decide +kernel) rfl trivial ?_
  obtain rfl := Option.some.inj hg
  exact rf_iret C hE (by decide +kernel)
-- X14_isRight
abbrev j_X14_isRight : rf_J := (14, yX14_isRight, cX14_isRight, 7, (some .boolean))
theorem mw_X14_isRight : rf_mv j_X14_isRight (rf_R 14) 3 := ⟨⟨rf_mem 86 (by decide +kernel), rf_mem 86 (by decide +kernel), rf_mem 0 (by decide +kernel), rf_mem 87 (by decide +kernel)⟩, by decide +kernel, by decide⟩
def g_X14_isRight_203 (w : rf_w) (rec156 : Int32 → Int32 → rf_m → Option (Int32 × rf_m)) (a3 : Int32) (a5 : Int32) (s1 : Int32) (s2 : Int32) (m : rf_m) : Option (Int32 × rf_m) := rf_g (rf_in s1 80) (rec156 a3 (a5 + 1) (rf_i m 248 (Int32.toNatClampNeg s1) s2))
def g_X14_isRight_156_b (w : rf_w) (rec156 : Int32 → Int32 → rf_m → Option (Int32 × rf_m)) (a3 : Int32) (a5 : Int32) (m : rf_m) : Option (Int32 × rf_m) := (if (m.1 206 16) ≤ a5 then rf_b (g_X14_wideOnes w m a3) fun y0 m0 => (if y0 = 0 then some (1, m0) else some (0, m0)) else rf_g (rf_in a5 80) ((if (m.1 286 (Int32.toNatClampNeg a5)) = 0 then g_X14_isRight_203 w rec156 a3 a5 a5 ((-2)) m else rf_g (rf_in a5 80) (rf_g (rf_in a5 80) (rf_g (rf_nzl (Int32.toInt64 (m.1 286 (Int32.toNatClampNeg a5)))) (g_X14_isRight_203 w rec156 a3 a5 a5 (Int64.toInt32 ((m.2 288 (Int32.toNatClampNeg a5)) / (Int32.toInt64 (m.1 286 (Int32.toNatClampNeg a5))))) m))))))
def g_X14_isRight_156 (w : rf_w) : Nat → Int32 → Int32 → rf_m → Option (Int32 × rf_m)
  | 0, _, _, _ => none
  | n + 1, a3, a5, m => g_X14_isRight_156_b w (g_X14_isRight_156 w n) a3 a5 m
def g_X14_isRight_140 (w : rf_w) (rec52 : Int32 → Int32 → Int32 → Int32 → Int32 → rf_m → Option (Int32 × rf_m)) (a1 : Int32) (a2 : Int32) (a3 : Int32) (a4 : Int32) (a5 : Int32) (m : rf_m) : Option (Int32 × rf_m) := rec52 a1 a2 a3 a4 (a5 + 1) m
def g_X14_isRight_138 (w : rf_w) (rec52 : Int32 → Int32 → Int32 → Int32 → Int32 → rf_m → Option (Int32 × rf_m)) (a1 : Int32) (a2 : Int32) (a3 : Int32) (a5 : Int32) (s0 : Int32) (m : rf_m) : Option (Int32 × rf_m) := g_X14_isRight_140 w rec52 a1 a2 a3 s0 a5 m
def g_X14_isRight_137 (w : rf_w) (rec52 : Int32 → Int32 → Int32 → Int32 → Int32 → rf_m → Option (Int32 × rf_m)) (a1 : Int32) (a2 : Int32) (a3 : Int32) (a5 : Int32) (m : rf_m) : Option (Int32 × rf_m) := g_X14_isRight_138 w rec52 a1 a2 a3 a5 0 m
def g_X14_isRight_52_b (w : rf_w) (rec52 : Int32 → Int32 → Int32 → Int32 → Int32 → rf_m → Option (Int32 × rf_m)) (a1 : Int32) (a2 : Int32) (a3 : Int32) (a4 : Int32) (a5 : Int32) (m : rf_m) : Option (Int32 × rf_m) := (if a1 ≤ a5 then (if a4 = 0 then some (0, m) else g_X14_isRight_156 w rf_fuel a3 0 m) else (if ((a2 >>> (a5 &&& 31)) &&& 1) = 0 then g_X14_isRight_140 w rec52 a1 a2 a3 a4 a5 m else rf_g (rf_in a5 12) (rf_g (rf_in (m.1 283 (Int32.toNatClampNeg a5)) 1200) (rf_vi (m.1 220 (Int32.toNatClampNeg (m.1 283 (Int32.toNatClampNeg a5)))) fun x2 => rf_g (rf_in x2 80) (rf_g (rf_in x2 80) (rf_g (rf_in x2 80) (rf_g (rf_in a5 12) (rf_g (rf_in ((rf_i m 286 (Int32.toNatClampNeg x2) ((m.1 286 (Int32.toNatClampNeg x2)) - 1)).1 283 (Int32.toNatClampNeg a5)) 1200) (rf_g (rf_in x2 80) ((if a4 = 0 then g_X14_isRight_137 w rec52 a1 a2 a3 a5 (rf_l (rf_i m 286 (Int32.toNatClampNeg x2) ((m.1 286 (Int32.toNatClampNeg x2)) - 1)) 288 (Int32.toNatClampNeg x2) (((rf_i m 286 (Int32.toNatClampNeg x2) ((m.1 286 (Int32.toNatClampNeg x2)) - 1)).2 288 (Int32.toNatClampNeg x2)) - (Int32.toInt64 ((rf_i m 286 (Int32.toNatClampNeg x2) ((m.1 286 (Int32.toNatClampNeg x2)) - 1)).1 221 (Int32.toNatClampNeg ((rf_i m 286 (Int32.toNatClampNeg x2) ((m.1 286 (Int32.toNatClampNeg x2)) - 1)).1 283 (Int32.toNatClampNeg a5))))))) else rf_g (rf_in x2 80) ((if ((rf_l (rf_i m 286 (Int32.toNatClampNeg x2) ((m.1 286 (Int32.toNatClampNeg x2)) - 1)) 288 (Int32.toNatClampNeg x2) (((rf_i m 286 (Int32.toNatClampNeg x2) ((m.1 286 (Int32.toNatClampNeg x2)) - 1)).2 288 (Int32.toNatClampNeg x2)) - (Int32.toInt64 ((rf_i m 286 (Int32.toNatClampNeg x2) ((m.1 286 (Int32.toNatClampNeg x2)) - 1)).1 221 (Int32.toNatClampNeg ((rf_i m 286 (Int32.toNatClampNeg x2) ((m.1 286 (Int32.toNatClampNeg x2)) - 1)).1 283 (Int32.toNatClampNeg a5))))))).1 286 (Int32.toNatClampNeg x2)) ≤ 0 then g_X14_isRight_137 w rec52 a1 a2 a3 a5 (rf_l (rf_i m 286 (Int32.toNatClampNeg x2) ((m.1 286 (Int32.toNatClampNeg x2)) - 1)) 288 (Int32.toNatClampNeg x2) (((rf_i m 286 (Int32.toNatClampNeg x2) ((m.1 286 (Int32.toNatClampNeg x2)) - 1)).2 288 (Int32.toNatClampNeg x2)) - (Int32.toInt64 ((rf_i m 286 (Int32.toNatClampNeg x2) ((m.1 286 (Int32.toNatClampNeg x2)) - 1)).1 221 (Int32.toNatClampNeg ((rf_i m 286 (Int32.toNatClampNeg x2) ((m.1 286 (Int32.toNatClampNeg x2)) - 1)).1 283 (Int32.toNatClampNeg a5))))))) else g_X14_isRight_138 w rec52 a1 a2 a3 a5 1 (rf_l (rf_i m 286 (Int32.toNatClampNeg x2) ((m.1 286 (Int32.toNatClampNeg x2)) - 1)) 288 (Int32.toNatClampNeg x2) (((rf_i m 286 (Int32.toNatClampNeg x2) ((m.1 286 (Int32.toNatClampNeg x2)) - 1)).2 288 (Int32.toNatClampNeg x2)) - (Int32.toInt64 ((rf_i m 286 (Int32.toNatClampNeg x2) ((m.1 286 (Int32.toNatClampNeg x2)) - 1)).1 221 (Int32.toNatClampNeg ((rf_i m 286 (Int32.toNatClampNeg x2) ((m.1 286 (Int32.toNatClampNeg x2)) - 1)).1 283 (Int32.toNatClampNeg a5))))))))))))))))))))
def g_X14_isRight_52 (w : rf_w) : Nat → Int32 → Int32 → Int32 → Int32 → Int32 → rf_m → Option (Int32 × rf_m)
  | 0, _, _, _, _, _, _ => none
  | n + 1, a1, a2, a3, a4, a5, m => g_X14_isRight_52_b w (g_X14_isRight_52 w n) a1 a2 a3 a4 a5 m
def g_X14_isRight_3_b (w : rf_w) (rec3 : Int32 → Int32 → Int32 → Int32 → rf_m → Option (Int32 × rf_m)) (a1 : Int32) (a2 : Int32) (a3 : Int32) (a4 : Int32) (m : rf_m) : Option (Int32 × rf_m) := (if (m.1 206 16) ≤ a4 then g_X14_isRight_52 w rf_fuel a1 a2 a3 1 0 m else rf_g (rf_in a4 80) (rf_g (rf_in a4 80) (rf_g (rf_in a4 80) (rf_g (rf_in a4 80) (rec3 a1 a2 a3 (a4 + 1) (rf_l (rf_i m 286 (Int32.toNatClampNeg a4) (m.1 285 (Int32.toNatClampNeg a4))) 288 (Int32.toNatClampNeg a4) ((rf_i m 286 (Int32.toNatClampNeg a4) (m.1 285 (Int32.toNatClampNeg a4))).2 287 (Int32.toNatClampNeg a4))))))))
def g_X14_isRight_3 (w : rf_w) : Nat → Int32 → Int32 → Int32 → Int32 → rf_m → Option (Int32 × rf_m)
  | 0, _, _, _, _, _ => none
  | n + 1, a1, a2, a3, a4, m => g_X14_isRight_3_b w (g_X14_isRight_3 w n) a1 a2 a3 a4 m
def g_X14_isRight (w : rf_w) (m : rf_m) (a1 : Int32) (a2 : Int32) (a3 : Int32) : Option (Int32 × rf_m) := g_X14_isRight_3 w rf_fuel a1 a2 a3 0 m
theorem s_X14_isRight_203 {w : rf_w} {K : rf_K} {r : Int32 × rf_m} (C : rf_Ctx 14 cX14_isRight 7 4 (rf_sh w) K) (hE : rf_End (some .boolean) K (rf_sh w) 0 0 (some (.int r.1)) (rf_MM w r.2)) {rec156 : Int32 → Int32 → rf_m → Option (Int32 × rf_m)} (hr156 : ∀ (a3 : Int32) (a5 : Int32) (m : rf_m), rec156 a3 a5 m = some r → rf_V 7 (rf_sh w) K 0 0 156 ([(0, .ref 206), (3, .int a3), (5, .int a5)], [], rf_MM w m)) (a3 : Int32) (a5 : Int32) (s1 : Int32) (s2 : Int32) (m : rf_m) (hg : g_X14_isRight_203 w rec156 a3 a5 s1 s2 m = some r) : rf_V 7 (rf_sh w) K 0 0 203 ([(0, .ref 206), (3, .int a3), (5, .int a5)], [.int s2, .int s1, .ref 248], rf_MM w m) := by
  unfold g_X14_isRight_203 at hg
  obtain ⟨q0, hg⟩ := rf_g_some hg
  refine rf_seg C [(.iastore, 1), (.iinc 5 1, 3)] (pc' := 207) (S' := ([(5, .int (a5 + 1)), (0, .ref 206), (3, .int a3)], [], rf_MM w (rf_i m 248 (Int32.toNatClampNeg s1) s2))) (by decide +kernel) rfl (rf_in_of q0) ?_
  refine rf_goto C (-51) 156 (by decide +kernel) ?_
  refine rf_few [1, 2, 0] rfl ?_
  exact hr156 a3 (a5 + 1) (rf_i m 248 (Int32.toNatClampNeg s1) s2) hg
theorem s_X14_isRight_156_b {w : rf_w} {K : rf_K} {r : Int32 × rf_m} (C : rf_Ctx 14 cX14_isRight 7 4 (rf_sh w) K) (hE : rf_End (some .boolean) K (rf_sh w) 0 0 (some (.int r.1)) (rf_MM w r.2)) {rec156 : Int32 → Int32 → rf_m → Option (Int32 × rf_m)} (hr156 : ∀ (a3 : Int32) (a5 : Int32) (m : rf_m), rec156 a3 a5 m = some r → rf_V 7 (rf_sh w) K 0 0 156 ([(0, .ref 206), (3, .int a3), (5, .int a5)], [], rf_MM w m)) (a3 : Int32) (a5 : Int32) (m : rf_m) (hg : g_X14_isRight_156_b w rec156 a3 a5 m = some r) : rf_V 7 (rf_sh w) K 0 0 156 ([(0, .ref 206), (3, .int a3), (5, .int a5)], [], rf_MM w m) := by
  unfold g_X14_isRight_156_b at hg
  refine rf_seg C [(.iload 5, 2), (.aload 0, 1), (.invokeinterface 14 16, 3)] (pc' := 162) (S' := ([(0, .ref 206), (3, .int a3), (5, .int a5)], [.int (m.1 206 16), .int a5], rf_MM w m)) (by decide +kernel) rfl trivial ?_
  refine rf_icmp_ge C 48 210 (by decide +kernel) (fun hc => ?_) (fun hc => ?_)
  · replace hg := (if_pos hc).symm.trans hg
    refine rf_seg C [(.aload 0, 1), (.iload 3, 1)] (pc' := 212) (S' := ([(0, .ref 206), (3, .int a3), (5, .int a5)], [.int a3, .ref 206], rf_MM w m)) (by decide +kernel) rfl trivial ?_
    obtain ⟨y0, m0, hc0, hg⟩ := rf_b_some hg
    refine rf_callv C rf_fit0 j_X14_wideOnes (ci := 14) (As := [.int a3]) (rest := []) mw_X14_wideOnes (c_X14_wideOnes hc0) (by decide) rfl (by decide) lk_14_728 rfl rfl (Nat.le_of_ble_eq_true rfl) (by decide +kernel) ?_
    show rf_V 7 (rf_sh w) K 0 0 215 ([(0, .ref 206), (3, .int a3), (5, .int a5)], [.int y0], rf_MM w m0)
    refine rf_if_ne C 7 222 (by decide +kernel) (fun hc => ?_) (fun hc => ?_)
    · replace hg := (if_neg hc).symm.trans hg
      refine rf_seg C [(.iconst 0, 1)] (pc' := 223) (S' := ([(0, .ref 206), (3, .int a3), (5, .int a5)], [.int 0], rf_MM w m0)) (by decide +kernel) rfl trivial ?_
      obtain rfl := Option.some.inj hg
      exact rf_zret C hE (by decide) (by decide +kernel)
    · replace hg := (if_pos hc).symm.trans hg
      refine rf_seg C [(.iconst 1, 1)] (pc' := 219) (S' := ([(0, .ref 206), (3, .int a3), (5, .int a5)], [.int 1], rf_MM w m0)) (by decide +kernel) rfl trivial ?_
      refine rf_goto C 4 223 (by decide +kernel) ?_
      obtain rfl := Option.some.inj hg
      exact rf_zret C hE (by decide) (by decide +kernel)
  · replace hg := (if_neg hc).symm.trans hg
    obtain ⟨q1, hg⟩ := rf_g_some hg
    refine rf_seg C [(.aload 0, 1), (.invokeinterface 14 71, 3), (.iload 5, 2), (.aload 0, 1), (.invokeinterface 14 123, 3), (.iload 5, 2), (.iaload, 1)] (pc' := 178) (S' := ([(0, .ref 206), (3, .int a3), (5, .int a5)], [.int (m.1 286 (Int32.toNatClampNeg a5)), .int a5, .ref 248], rf_MM w m)) (by decide +kernel) rfl (rf_in_of q1) ?_
    refine rf_if_ne C 8 186 (by decide +kernel) (fun hc => ?_) (fun hc => ?_)
    · replace hg := (if_neg hc).symm.trans hg
      obtain ⟨q2, hg⟩ := rf_g_some hg
      obtain ⟨q3, hg⟩ := rf_g_some hg
      obtain ⟨q4, hg⟩ := rf_g_some hg
      refine rf_seg C [(.aload 0, 1), (.invokeinterface 14 125, 3), (.iload 5, 2), (.laload, 1), (.aload 0, 1), (.invokeinterface 14 123, 3), (.iload 5, 2), (.iaload, 1), (.i2l, 1), (.ldiv, 1), (.l2i, 1)] (pc' := 203) (S' := ([(0, .ref 206), (3, .int a3), (5, .int a5)], [.int (Int64.toInt32 ((m.2 288 (Int32.toNatClampNeg a5)) / (Int32.toInt64 (m.1 286 (Int32.toNatClampNeg a5))))), .int a5, .ref 248], rf_MM w m)) (by decide +kernel) rfl (by exact ⟨(rf_in_of q2), (rf_in_of q3), (rf_nzl_of q4)⟩) ?_
      refine rf_few [0, 1, 2] rfl ?_
      exact s_X14_isRight_203 C hE hr156 a3 a5 a5 (Int64.toInt32 ((m.2 288 (Int32.toNatClampNeg a5)) / (Int32.toInt64 (m.1 286 (Int32.toNatClampNeg a5))))) m hg
    · replace hg := (if_pos hc).symm.trans hg
      refine rf_seg C [(.iconst (-2), 2)] (pc' := 183) (S' := ([(0, .ref 206), (3, .int a3), (5, .int a5)], [.int ((-2)), .int a5, .ref 248], rf_MM w m)) (by decide +kernel) rfl trivial ?_
      refine rf_goto C 20 203 (by decide +kernel) ?_
      refine rf_few [0, 1, 2] rfl ?_
      exact s_X14_isRight_203 C hE hr156 a3 a5 a5 ((-2)) m hg
theorem s_X14_isRight_156 {w : rf_w} {K : rf_K} {r : Int32 × rf_m} (C : rf_Ctx 14 cX14_isRight 7 4 (rf_sh w) K) (hE : rf_End (some .boolean) K (rf_sh w) 0 0 (some (.int r.1)) (rf_MM w r.2)) (n : Nat) : ∀ (a3 : Int32) (a5 : Int32) (m : rf_m), g_X14_isRight_156 w n a3 a5 m = some r → rf_V 7 (rf_sh w) K 0 0 156 ([(0, .ref 206), (3, .int a3), (5, .int a5)], [], rf_MM w m) := by
  induction n with
  | zero => intro a3 a5 m hg; cases hg
  | succ n ih => intro a3 a5 m hg; exact s_X14_isRight_156_b C hE ih a3 a5 m hg
theorem s_X14_isRight_140 {w : rf_w} {K : rf_K} {r : Int32 × rf_m} (C : rf_Ctx 14 cX14_isRight 7 4 (rf_sh w) K) (hE : rf_End (some .boolean) K (rf_sh w) 0 0 (some (.int r.1)) (rf_MM w r.2)) {rec52 : Int32 → Int32 → Int32 → Int32 → Int32 → rf_m → Option (Int32 × rf_m)} (hr52 : ∀ (a1 : Int32) (a2 : Int32) (a3 : Int32) (a4 : Int32) (a5 : Int32) (m : rf_m), rec52 a1 a2 a3 a4 a5 m = some r → rf_V 7 (rf_sh w) K 0 0 52 ([(0, .ref 206), (1, .int a1), (2, .int a2), (3, .int a3), (4, .int a4), (5, .int a5)], [], rf_MM w m)) (a1 : Int32) (a2 : Int32) (a3 : Int32) (a4 : Int32) (a5 : Int32) (m : rf_m) (hg : g_X14_isRight_140 w rec52 a1 a2 a3 a4 a5 m = some r) : rf_V 7 (rf_sh w) K 0 0 140 ([(0, .ref 206), (1, .int a1), (2, .int a2), (3, .int a3), (4, .int a4), (5, .int a5)], [], rf_MM w m) := by
  unfold g_X14_isRight_140 at hg
  refine rf_seg C [(.iinc 5 1, 3)] (pc' := 143) (S' := ([(5, .int (a5 + 1)), (0, .ref 206), (1, .int a1), (2, .int a2), (3, .int a3), (4, .int a4)], [], rf_MM w m)) (by decide +kernel) rfl trivial ?_
  refine rf_goto C (-91) 52 (by decide +kernel) ?_
  refine rf_few [1, 2, 3, 4, 5, 0] rfl ?_
  exact hr52 a1 a2 a3 a4 (a5 + 1) m hg
theorem s_X14_isRight_138 {w : rf_w} {K : rf_K} {r : Int32 × rf_m} (C : rf_Ctx 14 cX14_isRight 7 4 (rf_sh w) K) (hE : rf_End (some .boolean) K (rf_sh w) 0 0 (some (.int r.1)) (rf_MM w r.2)) {rec52 : Int32 → Int32 → Int32 → Int32 → Int32 → rf_m → Option (Int32 × rf_m)} (hr52 : ∀ (a1 : Int32) (a2 : Int32) (a3 : Int32) (a4 : Int32) (a5 : Int32) (m : rf_m), rec52 a1 a2 a3 a4 a5 m = some r → rf_V 7 (rf_sh w) K 0 0 52 ([(0, .ref 206), (1, .int a1), (2, .int a2), (3, .int a3), (4, .int a4), (5, .int a5)], [], rf_MM w m)) (a1 : Int32) (a2 : Int32) (a3 : Int32) (a5 : Int32) (s0 : Int32) (m : rf_m) (hg : g_X14_isRight_138 w rec52 a1 a2 a3 a5 s0 m = some r) : rf_V 7 (rf_sh w) K 0 0 138 ([(0, .ref 206), (1, .int a1), (2, .int a2), (3, .int a3), (5, .int a5)], [.int s0], rf_MM w m) := by
  unfold g_X14_isRight_138 at hg
  refine rf_seg C [(.istore 4, 2)] (pc' := 140) (S' := ([(4, .int s0), (0, .ref 206), (1, .int a1), (2, .int a2), (3, .int a3), (5, .int a5)], [], rf_MM w m)) (by decide +kernel) rfl trivial ?_
  refine rf_few [1, 2, 3, 4, 0, 5] rfl ?_
  exact s_X14_isRight_140 C hE hr52 a1 a2 a3 s0 a5 m hg
theorem s_X14_isRight_137 {w : rf_w} {K : rf_K} {r : Int32 × rf_m} (C : rf_Ctx 14 cX14_isRight 7 4 (rf_sh w) K) (hE : rf_End (some .boolean) K (rf_sh w) 0 0 (some (.int r.1)) (rf_MM w r.2)) {rec52 : Int32 → Int32 → Int32 → Int32 → Int32 → rf_m → Option (Int32 × rf_m)} (hr52 : ∀ (a1 : Int32) (a2 : Int32) (a3 : Int32) (a4 : Int32) (a5 : Int32) (m : rf_m), rec52 a1 a2 a3 a4 a5 m = some r → rf_V 7 (rf_sh w) K 0 0 52 ([(0, .ref 206), (1, .int a1), (2, .int a2), (3, .int a3), (4, .int a4), (5, .int a5)], [], rf_MM w m)) (a1 : Int32) (a2 : Int32) (a3 : Int32) (a5 : Int32) (m : rf_m) (hg : g_X14_isRight_137 w rec52 a1 a2 a3 a5 m = some r) : rf_V 7 (rf_sh w) K 0 0 137 ([(0, .ref 206), (1, .int a1), (2, .int a2), (3, .int a3), (5, .int a5)], [], rf_MM w m) := by
  unfold g_X14_isRight_137 at hg
  refine rf_seg C [(.iconst 0, 1)] (pc' := 138) (S' := ([(0, .ref 206), (1, .int a1), (2, .int a2), (3, .int a3), (5, .int a5)], [.int 0], rf_MM w m)) (by decide +kernel) rfl trivial ?_
  refine rf_few [0, 1, 2, 3, 4] rfl ?_
  exact s_X14_isRight_138 C hE hr52 a1 a2 a3 a5 0 m hg
theorem s_X14_isRight_52_b {w : rf_w} {K : rf_K} {r : Int32 × rf_m} (C : rf_Ctx 14 cX14_isRight 7 4 (rf_sh w) K) (hE : rf_End (some .boolean) K (rf_sh w) 0 0 (some (.int r.1)) (rf_MM w r.2)) {rec52 : Int32 → Int32 → Int32 → Int32 → Int32 → rf_m → Option (Int32 × rf_m)} (hr52 : ∀ (a1 : Int32) (a2 : Int32) (a3 : Int32) (a4 : Int32) (a5 : Int32) (m : rf_m), rec52 a1 a2 a3 a4 a5 m = some r → rf_V 7 (rf_sh w) K 0 0 52 ([(0, .ref 206), (1, .int a1), (2, .int a2), (3, .int a3), (4, .int a4), (5, .int a5)], [], rf_MM w m)) (a1 : Int32) (a2 : Int32) (a3 : Int32) (a4 : Int32) (a5 : Int32) (m : rf_m) (hg : g_X14_isRight_52_b w rec52 a1 a2 a3 a4 a5 m = some r) : rf_V 7 (rf_sh w) K 0 0 52 ([(0, .ref 206), (1, .int a1), (2, .int a2), (3, .int a3), (4, .int a4), (5, .int a5)], [], rf_MM w m) := by
  unfold g_X14_isRight_52_b at hg
  refine rf_seg C [(.iload 5, 2), (.iload 1, 1)] (pc' := 55) (S' := ([(0, .ref 206), (1, .int a1), (2, .int a2), (3, .int a3), (4, .int a4), (5, .int a5)], [.int a1, .int a5], rf_MM w m)) (by decide +kernel) rfl trivial ?_
  refine rf_icmp_ge C 91 146 (by decide +kernel) (fun hc => ?_) (fun hc => ?_)
  · replace hg := (if_pos hc).symm.trans hg
    refine rf_seg C [(.iload 4, 2)] (pc' := 148) (S' := ([(0, .ref 206), (1, .int a1), (2, .int a2), (3, .int a3), (4, .int a4), (5, .int a5)], [.int a4], rf_MM w m)) (by decide +kernel) rfl trivial ?_
    refine rf_if_ne C 5 153 (by decide +kernel) (fun hc => ?_) (fun hc => ?_)
    · replace hg := (if_neg hc).symm.trans hg
      refine rf_seg C [(.iconst 0, 1), (.istore 5, 2)] (pc' := 156) (S' := ([(5, .int 0), (0, .ref 206), (1, .int a1), (2, .int a2), (3, .int a3), (4, .int a4)], [], rf_MM w m)) (by decide +kernel) rfl trivial ?_
      refine rf_few [1, 4, 0] rfl ?_
      exact s_X14_isRight_156 C hE rf_fuel a3 0 m hg
    · replace hg := (if_pos hc).symm.trans hg
      refine rf_seg C [(.iconst 0, 1)] (pc' := 152) (S' := ([(0, .ref 206), (1, .int a1), (2, .int a2), (3, .int a3), (4, .int a4), (5, .int a5)], [.int 0], rf_MM w m)) (by decide +kernel) rfl trivial ?_
      obtain rfl := Option.some.inj hg
      exact rf_zret C hE (by decide) (by decide +kernel)
  · replace hg := (if_neg hc).symm.trans hg
    refine rf_seg C [(.iload 2, 1), (.iload 5, 2), (.ishr, 1), (.iconst 1, 1), (.iand, 1)] (pc' := 64) (S' := ([(0, .ref 206), (1, .int a1), (2, .int a2), (3, .int a3), (4, .int a4), (5, .int a5)], [.int ((a2 >>> (a5 &&& 31)) &&& 1)], rf_MM w m)) (by decide +kernel) rfl trivial ?_
    refine rf_if_ne C 6 70 (by decide +kernel) (fun hc => ?_) (fun hc => ?_)
    · replace hg := (if_neg hc).symm.trans hg
      obtain ⟨q0, hg⟩ := rf_g_some hg
      obtain ⟨q1, hg⟩ := rf_g_some hg
      refine rf_seg C [(.aload 0, 1), (.invokeinterface 14 24, 3), (.aload 0, 1), (.invokeinterface 14 120, 3), (.iload 5, 2), (.iaload, 1), (.iaload, 1)] (pc' := 82) (S' := ([(0, .ref 206), (1, .int a1), (2, .int a2), (3, .int a3), (4, .int a4), (5, .int a5)], [.int (m.1 220 (Int32.toNatClampNeg (m.1 283 (Int32.toNatClampNeg a5))))], rf_MM w m)) (by decide +kernel) rfl (by exact ⟨(rf_in_of q0), (rf_in_of q1)⟩) ?_
      obtain ⟨x2, hx2, hg⟩ := rf_vi_some hg
      refine rf_vi_top hx2 ?_
      obtain ⟨q3, hg⟩ := rf_g_some hg
      obtain ⟨q4, hg⟩ := rf_g_some hg
      obtain ⟨q5, hg⟩ := rf_g_some hg
      obtain ⟨q6, hg⟩ := rf_g_some hg
      obtain ⟨q7, hg⟩ := rf_g_some hg
      obtain ⟨q8, hg⟩ := rf_g_some hg
      refine rf_seg C [(.istore 6, 2), (.aload 0, 1), (.invokeinterface 14 123, 3), (.iload 6, 2), (.dup2, 1), (.iaload, 1), (.iconst 1, 1), (.isub, 1), (.iastore, 1), (.aload 0, 1), (.invokeinterface 14 125, 3), (.iload 6, 2), (.dup2, 1), (.laload, 1), (.aload 0, 1), (.invokeinterface 14 25, 3), (.aload 0, 1), (.invokeinterface 14 120, 3), (.iload 5, 2), (.iaload, 1), (.iaload, 1), (.i2l, 1), (.lsub, 1), (.lastore, 1), (.iload 4, 2)] (pc' := 120) (S' := ([(6, .int x2), (0, .ref 206), (1, .int a1), (2, .int a2), (3, .int a3), (4, .int a4), (5, .int a5)], [.int a4], rf_MM w (rf_l (rf_i m 286 (Int32.toNatClampNeg x2) ((m.1 286 (Int32.toNatClampNeg x2)) - 1)) 288 (Int32.toNatClampNeg x2) (((rf_i m 286 (Int32.toNatClampNeg x2) ((m.1 286 (Int32.toNatClampNeg x2)) - 1)).2 288 (Int32.toNatClampNeg x2)) - (Int32.toInt64 ((rf_i m 286 (Int32.toNatClampNeg x2) ((m.1 286 (Int32.toNatClampNeg x2)) - 1)).1 221 (Int32.toNatClampNeg ((rf_i m 286 (Int32.toNatClampNeg x2) ((m.1 286 (Int32.toNatClampNeg x2)) - 1)).1 283 (Int32.toNatClampNeg a5))))))))) (by decide +kernel) rfl (by exact ⟨(rf_in_of q3), (rf_in_of q4), (rf_in_of q5), (rf_in_of q6), (rf_in_of q7), (rf_in_of q8)⟩) ?_
      refine rf_if_eq C 17 137 (by decide +kernel) (fun hc => ?_) (fun hc => ?_)
      · replace hg := (if_pos hc).symm.trans hg
        refine rf_few [1, 2, 3, 4, 6] rfl ?_
        exact s_X14_isRight_137 C hE hr52 a1 a2 a3 a5 (rf_l (rf_i m 286 (Int32.toNatClampNeg x2) ((m.1 286 (Int32.toNatClampNeg x2)) - 1)) 288 (Int32.toNatClampNeg x2) (((rf_i m 286 (Int32.toNatClampNeg x2) ((m.1 286 (Int32.toNatClampNeg x2)) - 1)).2 288 (Int32.toNatClampNeg x2)) - (Int32.toInt64 ((rf_i m 286 (Int32.toNatClampNeg x2) ((m.1 286 (Int32.toNatClampNeg x2)) - 1)).1 221 (Int32.toNatClampNeg ((rf_i m 286 (Int32.toNatClampNeg x2) ((m.1 286 (Int32.toNatClampNeg x2)) - 1)).1 283 (Int32.toNatClampNeg a5))))))) hg
      · replace hg := (if_neg hc).symm.trans hg
        obtain ⟨q9, hg⟩ := rf_g_some hg
        refine rf_seg C [(.aload 0, 1), (.invokeinterface 14 123, 3), (.iload 6, 2), (.iaload, 1)] (pc' := 130) (S' := ([(6, .int x2), (0, .ref 206), (1, .int a1), (2, .int a2), (3, .int a3), (4, .int a4), (5, .int a5)], [.int ((rf_l (rf_i m 286 (Int32.toNatClampNeg x2) ((m.1 286 (Int32.toNatClampNeg x2)) - 1)) 288 (Int32.toNatClampNeg x2) (((rf_i m 286 (Int32.toNatClampNeg x2) ((m.1 286 (Int32.toNatClampNeg x2)) - 1)).2 288 (Int32.toNatClampNeg x2)) - (Int32.toInt64 ((rf_i m 286 (Int32.toNatClampNeg x2) ((m.1 286 (Int32.toNatClampNeg x2)) - 1)).1 221 (Int32.toNatClampNeg ((rf_i m 286 (Int32.toNatClampNeg x2) ((m.1 286 (Int32.toNatClampNeg x2)) - 1)).1 283 (Int32.toNatClampNeg a5))))))).1 286 (Int32.toNatClampNeg x2))], rf_MM w (rf_l (rf_i m 286 (Int32.toNatClampNeg x2) ((m.1 286 (Int32.toNatClampNeg x2)) - 1)) 288 (Int32.toNatClampNeg x2) (((rf_i m 286 (Int32.toNatClampNeg x2) ((m.1 286 (Int32.toNatClampNeg x2)) - 1)).2 288 (Int32.toNatClampNeg x2)) - (Int32.toInt64 ((rf_i m 286 (Int32.toNatClampNeg x2) ((m.1 286 (Int32.toNatClampNeg x2)) - 1)).1 221 (Int32.toNatClampNeg ((rf_i m 286 (Int32.toNatClampNeg x2) ((m.1 286 (Int32.toNatClampNeg x2)) - 1)).1 283 (Int32.toNatClampNeg a5))))))))) (by decide +kernel) rfl (rf_in_of q9) ?_
        refine rf_if_le C 7 137 (by decide +kernel) (fun hc => ?_) (fun hc => ?_)
        · replace hg := (if_pos hc).symm.trans hg
          refine rf_few [1, 2, 3, 4, 6] rfl ?_
          exact s_X14_isRight_137 C hE hr52 a1 a2 a3 a5 (rf_l (rf_i m 286 (Int32.toNatClampNeg x2) ((m.1 286 (Int32.toNatClampNeg x2)) - 1)) 288 (Int32.toNatClampNeg x2) (((rf_i m 286 (Int32.toNatClampNeg x2) ((m.1 286 (Int32.toNatClampNeg x2)) - 1)).2 288 (Int32.toNatClampNeg x2)) - (Int32.toInt64 ((rf_i m 286 (Int32.toNatClampNeg x2) ((m.1 286 (Int32.toNatClampNeg x2)) - 1)).1 221 (Int32.toNatClampNeg ((rf_i m 286 (Int32.toNatClampNeg x2) ((m.1 286 (Int32.toNatClampNeg x2)) - 1)).1 283 (Int32.toNatClampNeg a5))))))) hg
        · replace hg := (if_neg hc).symm.trans hg
          refine rf_seg C [(.iconst 1, 1)] (pc' := 134) (S' := ([(6, .int x2), (0, .ref 206), (1, .int a1), (2, .int a2), (3, .int a3), (4, .int a4), (5, .int a5)], [.int 1], rf_MM w (rf_l (rf_i m 286 (Int32.toNatClampNeg x2) ((m.1 286 (Int32.toNatClampNeg x2)) - 1)) 288 (Int32.toNatClampNeg x2) (((rf_i m 286 (Int32.toNatClampNeg x2) ((m.1 286 (Int32.toNatClampNeg x2)) - 1)).2 288 (Int32.toNatClampNeg x2)) - (Int32.toInt64 ((rf_i m 286 (Int32.toNatClampNeg x2) ((m.1 286 (Int32.toNatClampNeg x2)) - 1)).1 221 (Int32.toNatClampNeg ((rf_i m 286 (Int32.toNatClampNeg x2) ((m.1 286 (Int32.toNatClampNeg x2)) - 1)).1 283 (Int32.toNatClampNeg a5))))))))) (by decide +kernel) rfl trivial ?_
          refine rf_goto C 4 138 (by decide +kernel) ?_
          refine rf_few [1, 2, 3, 4, 6] rfl ?_
          exact s_X14_isRight_138 C hE hr52 a1 a2 a3 a5 1 (rf_l (rf_i m 286 (Int32.toNatClampNeg x2) ((m.1 286 (Int32.toNatClampNeg x2)) - 1)) 288 (Int32.toNatClampNeg x2) (((rf_i m 286 (Int32.toNatClampNeg x2) ((m.1 286 (Int32.toNatClampNeg x2)) - 1)).2 288 (Int32.toNatClampNeg x2)) - (Int32.toInt64 ((rf_i m 286 (Int32.toNatClampNeg x2) ((m.1 286 (Int32.toNatClampNeg x2)) - 1)).1 221 (Int32.toNatClampNeg ((rf_i m 286 (Int32.toNatClampNeg x2) ((m.1 286 (Int32.toNatClampNeg x2)) - 1)).1 283 (Int32.toNatClampNeg a5))))))) hg
    · replace hg := (if_pos hc).symm.trans hg
      refine rf_goto C 73 140 (by decide +kernel) ?_
      refine rf_few [0, 1, 2, 3, 4, 5] rfl ?_
      exact s_X14_isRight_140 C hE hr52 a1 a2 a3 a4 a5 m hg
theorem s_X14_isRight_52 {w : rf_w} {K : rf_K} {r : Int32 × rf_m} (C : rf_Ctx 14 cX14_isRight 7 4 (rf_sh w) K) (hE : rf_End (some .boolean) K (rf_sh w) 0 0 (some (.int r.1)) (rf_MM w r.2)) (n : Nat) : ∀ (a1 : Int32) (a2 : Int32) (a3 : Int32) (a4 : Int32) (a5 : Int32) (m : rf_m), g_X14_isRight_52 w n a1 a2 a3 a4 a5 m = some r → rf_V 7 (rf_sh w) K 0 0 52 ([(0, .ref 206), (1, .int a1), (2, .int a2), (3, .int a3), (4, .int a4), (5, .int a5)], [], rf_MM w m) := by
  induction n with
  | zero => intro a1 a2 a3 a4 a5 m hg; cases hg
  | succ n ih => intro a1 a2 a3 a4 a5 m hg; exact s_X14_isRight_52_b C hE ih a1 a2 a3 a4 a5 m hg
theorem s_X14_isRight_3_b {w : rf_w} {K : rf_K} {r : Int32 × rf_m} (C : rf_Ctx 14 cX14_isRight 7 4 (rf_sh w) K) (hE : rf_End (some .boolean) K (rf_sh w) 0 0 (some (.int r.1)) (rf_MM w r.2)) {rec3 : Int32 → Int32 → Int32 → Int32 → rf_m → Option (Int32 × rf_m)} (hr3 : ∀ (a1 : Int32) (a2 : Int32) (a3 : Int32) (a4 : Int32) (m : rf_m), rec3 a1 a2 a3 a4 m = some r → rf_V 7 (rf_sh w) K 0 0 3 ([(0, .ref 206), (1, .int a1), (2, .int a2), (3, .int a3), (4, .int a4)], [], rf_MM w m)) (a1 : Int32) (a2 : Int32) (a3 : Int32) (a4 : Int32) (m : rf_m) (hg : g_X14_isRight_3_b w rec3 a1 a2 a3 a4 m = some r) : rf_V 7 (rf_sh w) K 0 0 3 ([(0, .ref 206), (1, .int a1), (2, .int a2), (3, .int a3), (4, .int a4)], [], rf_MM w m) := by
  unfold g_X14_isRight_3_b at hg
  refine rf_seg C [(.iload 4, 2), (.aload 0, 1), (.invokeinterface 14 16, 3)] (pc' := 9) (S' := ([(0, .ref 206), (1, .int a1), (2, .int a2), (3, .int a3), (4, .int a4)], [.int (m.1 206 16), .int a4], rf_MM w m)) (by decide +kernel) rfl trivial ?_
  refine rf_icmp_ge C 37 46 (by decide +kernel) (fun hc => ?_) (fun hc => ?_)
  · replace hg := (if_pos hc).symm.trans hg
    refine rf_seg C [(.iconst 1, 1), (.istore 4, 2), (.iconst 0, 1), (.istore 5, 2)] (pc' := 52) (S' := ([(5, .int 0), (4, .int 1), (0, .ref 206), (1, .int a1), (2, .int a2), (3, .int a3)], [], rf_MM w m)) (by decide +kernel) rfl trivial ?_
    refine rf_few [2, 3, 4, 5, 1, 0] rfl ?_
    exact s_X14_isRight_52 C hE rf_fuel a1 a2 a3 1 0 m hg
  · replace hg := (if_neg hc).symm.trans hg
    obtain ⟨q0, hg⟩ := rf_g_some hg
    obtain ⟨q1, hg⟩ := rf_g_some hg
    obtain ⟨q2, hg⟩ := rf_g_some hg
    obtain ⟨q3, hg⟩ := rf_g_some hg
    refine rf_seg C [(.aload 0, 1), (.invokeinterface 14 123, 3), (.iload 4, 2), (.aload 0, 1), (.invokeinterface 14 122, 3), (.iload 4, 2), (.iaload, 1), (.iastore, 1), (.aload 0, 1), (.invokeinterface 14 125, 3), (.iload 4, 2), (.aload 0, 1), (.invokeinterface 14 124, 3), (.iload 4, 2), (.laload, 1), (.lastore, 1), (.iinc 4 1, 3)] (pc' := 43) (S' := ([(4, .int (a4 + 1)), (0, .ref 206), (1, .int a1), (2, .int a2), (3, .int a3)], [], rf_MM w (rf_l (rf_i m 286 (Int32.toNatClampNeg a4) (m.1 285 (Int32.toNatClampNeg a4))) 288 (Int32.toNatClampNeg a4) ((rf_i m 286 (Int32.toNatClampNeg a4) (m.1 285 (Int32.toNatClampNeg a4))).2 287 (Int32.toNatClampNeg a4))))) (by decide +kernel) rfl (by exact ⟨(rf_in_of q0), (rf_in_of q1), (rf_in_of q2), (rf_in_of q3)⟩) ?_
    refine rf_goto C (-40) 3 (by decide +kernel) ?_
    refine rf_few [1, 2, 3, 4, 0] rfl ?_
    exact hr3 a1 a2 a3 (a4 + 1) (rf_l (rf_i m 286 (Int32.toNatClampNeg a4) (m.1 285 (Int32.toNatClampNeg a4))) 288 (Int32.toNatClampNeg a4) ((rf_i m 286 (Int32.toNatClampNeg a4) (m.1 285 (Int32.toNatClampNeg a4))).2 287 (Int32.toNatClampNeg a4))) hg
theorem s_X14_isRight_3 {w : rf_w} {K : rf_K} {r : Int32 × rf_m} (C : rf_Ctx 14 cX14_isRight 7 4 (rf_sh w) K) (hE : rf_End (some .boolean) K (rf_sh w) 0 0 (some (.int r.1)) (rf_MM w r.2)) (n : Nat) : ∀ (a1 : Int32) (a2 : Int32) (a3 : Int32) (a4 : Int32) (m : rf_m), g_X14_isRight_3 w n a1 a2 a3 a4 m = some r → rf_V 7 (rf_sh w) K 0 0 3 ([(0, .ref 206), (1, .int a1), (2, .int a2), (3, .int a3), (4, .int a4)], [], rf_MM w m) := by
  induction n with
  | zero => intro a1 a2 a3 a4 m hg; cases hg
  | succ n ih => intro a1 a2 a3 a4 m hg; exact s_X14_isRight_3_b C hE ih a1 a2 a3 a4 m hg
theorem c_X14_isRight {w : rf_w} {m : rf_m} {a1 : Int32} {a2 : Int32} {a3 : Int32} {r : Int32 × rf_m} (hg : g_X14_isRight w m a1 a2 a3 = some r) : rf_Con j_X14_isRight 4 (rf_sh w) [.ref 206, .int a1, .int a2, .int a3] (rf_MM w m) (some (.int r.1)) (rf_MM w r.2) := by
  refine rf_con j_X14_isRight 4 ⟨by decide +kernel, rfl, Nat.le_of_ble_eq_true rfl⟩ (fun K C hE => ?_)
  unfold g_X14_isRight at hg
  show rf_V 7 (rf_sh w) K 0 0 0 ([(0, .ref 206), (1, .int a1), (2, .int a2), (3, .int a3)], [], rf_MM w m)
  refine rf_seg C [(.iconst 0, 1), (.istore 4, 2)] (pc' := 3) (S' := ([(4, .int 0), (0, .ref 206), (1, .int a1), (2, .int a2), (3, .int a3)], [], rf_MM w m)) (by decide +kernel) rfl trivial ?_
  refine rf_few [1, 2, 3, 4, 0] rfl ?_
  exact s_X14_isRight_3 C hE rf_fuel a1 a2 a3 0 m hg
-- X14_blunder
abbrev j_X14_blunder : rf_J := (14, yX14_blunder, cX14_blunder, 7, (some .int))
theorem mw_X14_blunder : rf_mv j_X14_blunder (rf_R 14) 0 := ⟨⟨rf_mem 86 (by decide +kernel), rf_mem 86 (by decide +kernel), rf_mem 0 (by decide +kernel), rf_mem 86 (by decide +kernel)⟩, by decide +kernel, by decide⟩
def g_X14_blunder_297 (w : rf_w) (rec253 : Int32 → Int32 → Int32 → Int32 → rf_m → Option (Int32 × rf_m)) (a1 : Int32) (a3 : Int32) (a4 : Int32) (a5 : Int32) (m : rf_m) : Option (Int32 × rf_m) := rec253 a1 a3 a4 (a5 + 1) m
def g_X14_blunder_253_b (w : rf_w) (rec253 : Int32 → Int32 → Int32 → Int32 → rf_m → Option (Int32 × rf_m)) (a1 : Int32) (a3 : Int32) (a4 : Int32) (a5 : Int32) (m : rf_m) : Option (Int32 × rf_m) := (if a1 ≤ a5 then some ((rf_i m 206 118 a4).1 206 117, rf_i m 206 118 a4) else (if ((a3 >>> (a5 &&& 31)) &&& 1) = 0 then g_X14_blunder_297 w rec253 a1 a3 a4 a5 m else rf_g (rf_in a5 12) (rf_g (rf_in (m.1 206 117) 12) (g_X14_blunder_297 w rec253 a1 a3 a4 a5 (rf_i (rf_i m 284 (Int32.toNatClampNeg (m.1 206 117)) (m.1 283 (Int32.toNatClampNeg a5))) 206 117 (((rf_i m 284 (Int32.toNatClampNeg (m.1 206 117)) (m.1 283 (Int32.toNatClampNeg a5))).1 206 117) + 1))))))
def g_X14_blunder_253 (w : rf_w) : Nat → Int32 → Int32 → Int32 → Int32 → rf_m → Option (Int32 × rf_m)
  | 0, _, _, _, _, _ => none
  | n + 1, a1, a3, a4, a5, m => g_X14_blunder_253_b w (g_X14_blunder_253 w n) a1 a3 a4 a5 m
def g_X14_blunder_231 (w : rf_w) (rec142 : Int32 → Int32 → Int32 → Int32 → Int32 → rf_m → Option (Int32 × rf_m)) (a1 : Int32) (a2 : Int32) (a3 : Int32) (a4 : Int32) (a5 : Int32) (m : rf_m) : Option (Int32 × rf_m) := rec142 a1 a2 a3 a4 (a5 + 1) m
def g_X14_blunder_198 (w : rf_w) (rec142 : Int32 → Int32 → Int32 → Int32 → Int32 → rf_m → Option (Int32 × rf_m)) (a1 : Int32) (a2 : Int32) (a5 : Int32) (m : rf_m) : Option (Int32 × rf_m) := g_X14_blunder_231 w rec142 a1 a2 a5 1 a5 m
def g_X14_blunder_167 (w : rf_w) (rec142 : Int32 → Int32 → Int32 → Int32 → Int32 → rf_m → Option (Int32 × rf_m)) (a1 : Int32) (a2 : Int32) (a3 : Int32) (a4 : Int32) (a5 : Int32) (m : rf_m) : Option (Int32 × rf_m) := rf_b (g_X14_isRight w m a1 a5 a2) fun y0 m0 => (if y0 = 0 then g_X14_blunder_231 w rec142 a1 a2 a3 a4 a5 m0 else (if a3 = ((-1)) then g_X14_blunder_198 w rec142 a1 a2 a5 m0 else rf_b (g_X14_bits w m0 a5) fun y1 m1 => rf_b (g_X14_bits w m1 a3) fun y2 m2 => (if y2 ≤ y1 then (if (((a5 ^^^ a3) &&& (-(a5 ^^^ a3))) &&& a5) = 0 then g_X14_blunder_231 w rec142 a1 a2 a3 (a4 + 1) a5 m2 else g_X14_blunder_231 w rec142 a1 a2 a5 (a4 + 1) a5 m2) else g_X14_blunder_198 w rec142 a1 a2 a5 m2)))
def g_X14_blunder_142_b (w : rf_w) (rec142 : Int32 → Int32 → Int32 → Int32 → Int32 → rf_m → Option (Int32 × rf_m)) (a1 : Int32) (a2 : Int32) (a3 : Int32) (a4 : Int32) (a5 : Int32) (m : rf_m) : Option (Int32 × rf_m) := (if ((1 : Int32) <<< (a1 &&& 31)) ≤ a5 then (if a3 = ((-1)) then some ((-2), m) else g_X14_blunder_253 w rf_fuel a1 a3 a4 0 (rf_i m 206 117 0)) else (if a3 = ((-1)) then g_X14_blunder_167 w rec142 a1 a2 a3 a4 a5 m else rf_b (g_X14_bits w m a5) fun y0 m0 => rf_b (g_X14_bits w m0 a3) fun y1 m1 => (if y1 < y0 then g_X14_blunder_231 w rec142 a1 a2 a3 a4 a5 m1 else g_X14_blunder_167 w rec142 a1 a2 a3 a4 a5 m1)))
def g_X14_blunder_142 (w : rf_w) : Nat → Int32 → Int32 → Int32 → Int32 → Int32 → rf_m → Option (Int32 × rf_m)
  | 0, _, _, _, _, _, _ => none
  | n + 1, a1, a2, a3, a4, a5, m => g_X14_blunder_142_b w (g_X14_blunder_142 w n) a1 a2 a3 a4 a5 m
def g_X14_blunder_88_b (w : rf_w) (rec56 : Int32 → Int32 → rf_m → Option (Int32 × rf_m)) (rec88 : Int32 → Int32 → Int32 → rf_m → Option (Int32 × rf_m)) (a1 : Int32) (a2 : Int32) (a3 : Int32) (m : rf_m) : Option (Int32 × rf_m) := (if (m.1 206 34) ≤ a3 then rec56 a1 (a2 + 1) m else rf_g (rf_in a2 80) (rf_g (rf_in a3 20) (rf_g (rf_in (m.1 227 (Int32.toNatClampNeg a3)) 1200) (rf_g (rf_in a2 80) (rec88 a1 a2 (a3 + 1) (rf_l m 287 (Int32.toNatClampNeg a2) ((m.2 287 (Int32.toNatClampNeg a2)) + (Int32.toInt64 (m.1 221 (Int32.toNatClampNeg (m.1 227 (Int32.toNatClampNeg a3))))))))))))
def g_X14_blunder_88 (w : rf_w) (rec56 : Int32 → Int32 → rf_m → Option (Int32 × rf_m)) : Nat → Int32 → Int32 → Int32 → rf_m → Option (Int32 × rf_m)
  | 0, _, _, _, _ => none
  | n + 1, a1, a2, a3, m => g_X14_blunder_88_b w rec56 (g_X14_blunder_88 w rec56 n) a1 a2 a3 m
def g_X14_blunder_56_b (w : rf_w) (rec56 : Int32 → Int32 → rf_m → Option (Int32 × rf_m)) (a1 : Int32) (a2 : Int32) (m : rf_m) : Option (Int32 × rf_m) := (if (m.1 206 16) ≤ a2 then rf_b (g_X14_allowed w m) fun y0 m0 => g_X14_blunder_142 w rf_fuel a1 y0 ((-1)) 0 0 m0 else rf_bv (g_X14_now w m a2) fun m1 => rf_g (rf_in a2 80) (rf_g (rf_in a2 80) (g_X14_blunder_88 w rec56 rf_fuel a1 a2 0 (rf_l (rf_i m1 285 (Int32.toNatClampNeg a2) (m1.1 206 34)) 287 (Int32.toNatClampNeg a2) 0))))
def g_X14_blunder_56 (w : rf_w) : Nat → Int32 → Int32 → rf_m → Option (Int32 × rf_m)
  | 0, _, _, _ => none
  | n + 1, a1, a2, m => g_X14_blunder_56_b w (g_X14_blunder_56 w n) a1 a2 m
def g_X14_blunder_48 (w : rf_w) (rec9 : Int32 → Int32 → rf_m → Option (Int32 × rf_m)) (a1 : Int32) (a2 : Int32) (m : rf_m) : Option (Int32 × rf_m) := rec9 a1 (a2 + 1) m
def g_X14_blunder_9_b (w : rf_w) (rec9 : Int32 → Int32 → rf_m → Option (Int32 × rf_m)) (a1 : Int32) (a2 : Int32) (m : rf_m) : Option (Int32 × rf_m) := (if (m.1 206 116) ≤ a2 then g_X14_blunder_56 w rf_fuel a1 0 m else rf_g (rf_in a2 12) (rf_b (g_X14_isKeptNow w m (m.1 282 (Int32.toNatClampNeg a2))) fun y1 m1 => (if y1 = 0 then g_X14_blunder_48 w rec9 a1 a2 m1 else rf_g (rf_in a2 12) (rf_g (rf_in a1 12) (g_X14_blunder_48 w rec9 (a1 + 1) a2 (rf_i m1 283 (Int32.toNatClampNeg a1) (m1.1 282 (Int32.toNatClampNeg a2))))))))
def g_X14_blunder_9 (w : rf_w) : Nat → Int32 → Int32 → rf_m → Option (Int32 × rf_m)
  | 0, _, _, _ => none
  | n + 1, a1, a2, m => g_X14_blunder_9_b w (g_X14_blunder_9 w n) a1 a2 m
def g_X14_blunder (w : rf_w) (m : rf_m) : Option (Int32 × rf_m) := g_X14_blunder_9 w rf_fuel 0 0 (rf_i m 206 0 0)
theorem s_X14_blunder_297 {w : rf_w} {K : rf_K} {r : Int32 × rf_m} (C : rf_Ctx 14 cX14_blunder 7 9 (rf_sh w) K) (hE : rf_End (some .int) K (rf_sh w) 0 0 (some (.int r.1)) (rf_MM w r.2)) {rec253 : Int32 → Int32 → Int32 → Int32 → rf_m → Option (Int32 × rf_m)} (hr253 : ∀ (a1 : Int32) (a3 : Int32) (a4 : Int32) (a5 : Int32) (m : rf_m), rec253 a1 a3 a4 a5 m = some r → rf_V 7 (rf_sh w) K 0 0 253 ([(0, .ref 206), (1, .int a1), (3, .int a3), (4, .int a4), (5, .int a5)], [], rf_MM w m)) (a1 : Int32) (a3 : Int32) (a4 : Int32) (a5 : Int32) (m : rf_m) (hg : g_X14_blunder_297 w rec253 a1 a3 a4 a5 m = some r) : rf_V 7 (rf_sh w) K 0 0 297 ([(0, .ref 206), (1, .int a1), (3, .int a3), (4, .int a4), (5, .int a5)], [], rf_MM w m) := by
  unfold g_X14_blunder_297 at hg
  refine rf_seg C [(.iinc 5 1, 3)] (pc' := 300) (S' := ([(5, .int (a5 + 1)), (0, .ref 206), (1, .int a1), (3, .int a3), (4, .int a4)], [], rf_MM w m)) (by decide +kernel) rfl trivial ?_
  refine rf_goto C (-47) 253 (by decide +kernel) ?_
  refine rf_few [1, 2, 3, 4, 0] rfl ?_
  exact hr253 a1 a3 a4 (a5 + 1) m hg
theorem s_X14_blunder_253_b {w : rf_w} {K : rf_K} {r : Int32 × rf_m} (C : rf_Ctx 14 cX14_blunder 7 9 (rf_sh w) K) (hE : rf_End (some .int) K (rf_sh w) 0 0 (some (.int r.1)) (rf_MM w r.2)) {rec253 : Int32 → Int32 → Int32 → Int32 → rf_m → Option (Int32 × rf_m)} (hr253 : ∀ (a1 : Int32) (a3 : Int32) (a4 : Int32) (a5 : Int32) (m : rf_m), rec253 a1 a3 a4 a5 m = some r → rf_V 7 (rf_sh w) K 0 0 253 ([(0, .ref 206), (1, .int a1), (3, .int a3), (4, .int a4), (5, .int a5)], [], rf_MM w m)) (a1 : Int32) (a3 : Int32) (a4 : Int32) (a5 : Int32) (m : rf_m) (hg : g_X14_blunder_253_b w rec253 a1 a3 a4 a5 m = some r) : rf_V 7 (rf_sh w) K 0 0 253 ([(0, .ref 206), (1, .int a1), (3, .int a3), (4, .int a4), (5, .int a5)], [], rf_MM w m) := by
  unfold g_X14_blunder_253_b at hg
  refine rf_seg C [(.iload 5, 2), (.iload 1, 1)] (pc' := 256) (S' := ([(0, .ref 206), (1, .int a1), (3, .int a3), (4, .int a4), (5, .int a5)], [.int a1, .int a5], rf_MM w m)) (by decide +kernel) rfl trivial ?_
  refine rf_icmp_ge C 47 303 (by decide +kernel) (fun hc => ?_) (fun hc => ?_)
  · replace hg := (if_pos hc).symm.trans hg
    refine rf_seg C [(.aload 0, 1), (.iload 4, 2), (.multianewarray 14 118, 3), (.aload 0, 1), (.invokeinterface 14 117, 3)] (pc' := 313) (S' := ([(0, .ref 206), (1, .int a1), (3, .int a3), (4, .int a4), (5, .int a5)], [.int ((rf_i m 206 118 a4).1 206 117)], rf_MM w (rf_i m 206 118 a4))) (by decide +kernel) rfl trivial ?_
    obtain rfl := Option.some.inj hg
    exact rf_iret C hE (by decide +kernel)
  · replace hg := (if_neg hc).symm.trans hg
    refine rf_seg C [(.iload 3, 1), (.iload 5, 2), (.ishr, 1), (.iconst 1, 1), (.iand, 1)] (pc' := 265) (S' := ([(0, .ref 206), (1, .int a1), (3, .int a3), (4, .int a4), (5, .int a5)], [.int ((a3 >>> (a5 &&& 31)) &&& 1)], rf_MM w m)) (by decide +kernel) rfl trivial ?_
    refine rf_if_ne C 6 271 (by decide +kernel) (fun hc => ?_) (fun hc => ?_)
    · replace hg := (if_neg hc).symm.trans hg
      obtain ⟨q0, hg⟩ := rf_g_some hg
      obtain ⟨q1, hg⟩ := rf_g_some hg
      refine rf_seg C [(.aload 0, 1), (.invokeinterface 14 121, 3), (.aload 0, 1), (.invokeinterface 14 117, 3), (.aload 0, 1), (.invokeinterface 14 120, 3), (.iload 5, 2), (.iaload, 1), (.iastore, 1), (.aload 0, 1), (.dup, 1), (.invokeinterface 14 117, 3), (.iconst 1, 1), (.iadd, 1), (.multianewarray 14 117, 3)] (pc' := 297) (S' := ([(0, .ref 206), (1, .int a1), (3, .int a3), (4, .int a4), (5, .int a5)], [], rf_MM w (rf_i (rf_i m 284 (Int32.toNatClampNeg (m.1 206 117)) (m.1 283 (Int32.toNatClampNeg a5))) 206 117 (((rf_i m 284 (Int32.toNatClampNeg (m.1 206 117)) (m.1 283 (Int32.toNatClampNeg a5))).1 206 117) + 1)))) (by decide +kernel) rfl (by exact ⟨(rf_in_of q0), (rf_in_of q1)⟩) ?_
      refine rf_few [0, 1, 2, 3, 4] rfl ?_
      exact s_X14_blunder_297 C hE hr253 a1 a3 a4 a5 (rf_i (rf_i m 284 (Int32.toNatClampNeg (m.1 206 117)) (m.1 283 (Int32.toNatClampNeg a5))) 206 117 (((rf_i m 284 (Int32.toNatClampNeg (m.1 206 117)) (m.1 283 (Int32.toNatClampNeg a5))).1 206 117) + 1)) hg
    · replace hg := (if_pos hc).symm.trans hg
      refine rf_goto C 29 297 (by decide +kernel) ?_
      refine rf_few [0, 1, 2, 3, 4] rfl ?_
      exact s_X14_blunder_297 C hE hr253 a1 a3 a4 a5 m hg
theorem s_X14_blunder_253 {w : rf_w} {K : rf_K} {r : Int32 × rf_m} (C : rf_Ctx 14 cX14_blunder 7 9 (rf_sh w) K) (hE : rf_End (some .int) K (rf_sh w) 0 0 (some (.int r.1)) (rf_MM w r.2)) (n : Nat) : ∀ (a1 : Int32) (a3 : Int32) (a4 : Int32) (a5 : Int32) (m : rf_m), g_X14_blunder_253 w n a1 a3 a4 a5 m = some r → rf_V 7 (rf_sh w) K 0 0 253 ([(0, .ref 206), (1, .int a1), (3, .int a3), (4, .int a4), (5, .int a5)], [], rf_MM w m) := by
  induction n with
  | zero => intro a1 a3 a4 a5 m hg; cases hg
  | succ n ih => intro a1 a3 a4 a5 m hg; exact s_X14_blunder_253_b C hE ih a1 a3 a4 a5 m hg
theorem s_X14_blunder_231 {w : rf_w} {K : rf_K} {r : Int32 × rf_m} (C : rf_Ctx 14 cX14_blunder 7 9 (rf_sh w) K) (hE : rf_End (some .int) K (rf_sh w) 0 0 (some (.int r.1)) (rf_MM w r.2)) {rec142 : Int32 → Int32 → Int32 → Int32 → Int32 → rf_m → Option (Int32 × rf_m)} (hr142 : ∀ (a1 : Int32) (a2 : Int32) (a3 : Int32) (a4 : Int32) (a5 : Int32) (m : rf_m), rec142 a1 a2 a3 a4 a5 m = some r → rf_V 7 (rf_sh w) K 0 0 142 ([(0, .ref 206), (1, .int a1), (2, .int a2), (3, .int a3), (4, .int a4), (5, .int a5)], [], rf_MM w m)) (a1 : Int32) (a2 : Int32) (a3 : Int32) (a4 : Int32) (a5 : Int32) (m : rf_m) (hg : g_X14_blunder_231 w rec142 a1 a2 a3 a4 a5 m = some r) : rf_V 7 (rf_sh w) K 0 0 231 ([(0, .ref 206), (1, .int a1), (2, .int a2), (3, .int a3), (4, .int a4), (5, .int a5)], [], rf_MM w m) := by
  unfold g_X14_blunder_231 at hg
  refine rf_seg C [(.iinc 5 1, 3)] (pc' := 234) (S' := ([(5, .int (a5 + 1)), (0, .ref 206), (1, .int a1), (2, .int a2), (3, .int a3), (4, .int a4)], [], rf_MM w m)) (by decide +kernel) rfl trivial ?_
  refine rf_goto C (-92) 142 (by decide +kernel) ?_
  refine rf_few [1, 2, 3, 4, 5, 0] rfl ?_
  exact hr142 a1 a2 a3 a4 (a5 + 1) m hg
theorem s_X14_blunder_198 {w : rf_w} {K : rf_K} {r : Int32 × rf_m} (C : rf_Ctx 14 cX14_blunder 7 9 (rf_sh w) K) (hE : rf_End (some .int) K (rf_sh w) 0 0 (some (.int r.1)) (rf_MM w r.2)) {rec142 : Int32 → Int32 → Int32 → Int32 → Int32 → rf_m → Option (Int32 × rf_m)} (hr142 : ∀ (a1 : Int32) (a2 : Int32) (a3 : Int32) (a4 : Int32) (a5 : Int32) (m : rf_m), rec142 a1 a2 a3 a4 a5 m = some r → rf_V 7 (rf_sh w) K 0 0 142 ([(0, .ref 206), (1, .int a1), (2, .int a2), (3, .int a3), (4, .int a4), (5, .int a5)], [], rf_MM w m)) (a1 : Int32) (a2 : Int32) (a5 : Int32) (m : rf_m) (hg : g_X14_blunder_198 w rec142 a1 a2 a5 m = some r) : rf_V 7 (rf_sh w) K 0 0 198 ([(0, .ref 206), (1, .int a1), (2, .int a2), (5, .int a5)], [], rf_MM w m) := by
  unfold g_X14_blunder_198 at hg
  refine rf_seg C [(.iload 5, 2), (.istore 3, 1), (.iconst 1, 1), (.istore 4, 2)] (pc' := 204) (S' := ([(4, .int 1), (3, .int a5), (0, .ref 206), (1, .int a1), (2, .int a2), (5, .int a5)], [], rf_MM w m)) (by decide +kernel) rfl trivial ?_
  refine rf_goto C 27 231 (by decide +kernel) ?_
  refine rf_few [2, 3, 4, 1, 0, 5] rfl ?_
  exact s_X14_blunder_231 C hE hr142 a1 a2 a5 1 a5 m hg
theorem s_X14_blunder_167 {w : rf_w} {K : rf_K} {r : Int32 × rf_m} (C : rf_Ctx 14 cX14_blunder 7 9 (rf_sh w) K) (hE : rf_End (some .int) K (rf_sh w) 0 0 (some (.int r.1)) (rf_MM w r.2)) {rec142 : Int32 → Int32 → Int32 → Int32 → Int32 → rf_m → Option (Int32 × rf_m)} (hr142 : ∀ (a1 : Int32) (a2 : Int32) (a3 : Int32) (a4 : Int32) (a5 : Int32) (m : rf_m), rec142 a1 a2 a3 a4 a5 m = some r → rf_V 7 (rf_sh w) K 0 0 142 ([(0, .ref 206), (1, .int a1), (2, .int a2), (3, .int a3), (4, .int a4), (5, .int a5)], [], rf_MM w m)) (a1 : Int32) (a2 : Int32) (a3 : Int32) (a4 : Int32) (a5 : Int32) (m : rf_m) (hg : g_X14_blunder_167 w rec142 a1 a2 a3 a4 a5 m = some r) : rf_V 7 (rf_sh w) K 0 0 167 ([(0, .ref 206), (1, .int a1), (2, .int a2), (3, .int a3), (4, .int a4), (5, .int a5)], [], rf_MM w m) := by
  unfold g_X14_blunder_167 at hg
  refine rf_seg C [(.aload 0, 1), (.iload 1, 1), (.iload 5, 2), (.iload 2, 1)] (pc' := 172) (S' := ([(0, .ref 206), (1, .int a1), (2, .int a2), (3, .int a3), (4, .int a4), (5, .int a5)], [.int a2, .int a5, .int a1, .ref 206], rf_MM w m)) (by decide +kernel) rfl trivial ?_
  obtain ⟨y0, m0, hc0, hg⟩ := rf_b_some hg
  refine rf_callv C rf_fit0 j_X14_isRight (ci := 14) (As := [.int a1, .int a5, .int a2]) (rest := []) mw_X14_isRight (c_X14_isRight hc0) (by decide) rfl (by decide) lk_14_864 rfl rfl (Nat.le_of_ble_eq_true rfl) (by decide +kernel) ?_
  show rf_V 7 (rf_sh w) K 0 0 175 ([(0, .ref 206), (1, .int a1), (2, .int a2), (3, .int a3), (4, .int a4), (5, .int a5)], [.int y0], rf_MM w m0)
  refine rf_if_ne C 6 181 (by decide +kernel) (fun hc => ?_) (fun hc => ?_)
  · replace hg := (if_neg hc).symm.trans hg
    refine rf_seg C [(.iload 3, 1), (.iconst (-1), 1)] (pc' := 183) (S' := ([(0, .ref 206), (1, .int a1), (2, .int a2), (3, .int a3), (4, .int a4), (5, .int a5)], [.int ((-1)), .int a3], rf_MM w m0)) (by decide +kernel) rfl trivial ?_
    refine rf_icmp_eq C 15 198 (by decide +kernel) (fun hc => ?_) (fun hc => ?_)
    · replace hg := (if_pos hc).symm.trans hg
      refine rf_few [0, 1, 2, 5] rfl ?_
      exact s_X14_blunder_198 C hE hr142 a1 a2 a5 m0 hg
    · replace hg := (if_neg hc).symm.trans hg
      refine rf_seg C [(.iload 5, 2)] (pc' := 188) (S' := ([(0, .ref 206), (1, .int a1), (2, .int a2), (3, .int a3), (4, .int a4), (5, .int a5)], [.int a5], rf_MM w m0)) (by decide +kernel) rfl trivial ?_
      obtain ⟨y1, m1, hc1, hg⟩ := rf_b_some hg
      refine rf_calls C rf_fit0 j_X14_bits (As := [.int a5]) (rest := []) mw_X14_bits (c_X14_bits hc1) (by decide) lk_14_767 rfl rfl (Nat.le_of_ble_eq_true rfl) (by decide +kernel) ?_
      show rf_V 7 (rf_sh w) K 0 0 191 ([(0, .ref 206), (1, .int a1), (2, .int a2), (3, .int a3), (4, .int a4), (5, .int a5)], [.int y1], rf_MM w m1)
      refine rf_seg C [(.iload 3, 1)] (pc' := 192) (S' := ([(0, .ref 206), (1, .int a1), (2, .int a2), (3, .int a3), (4, .int a4), (5, .int a5)], [.int a3, .int y1], rf_MM w m1)) (by decide +kernel) rfl trivial ?_
      obtain ⟨y2, m2, hc2, hg⟩ := rf_b_some hg
      refine rf_calls C rf_fit0 j_X14_bits (As := [.int a3]) (rest := [.int y1]) mw_X14_bits (c_X14_bits hc2) (by decide) lk_14_767 rfl rfl (Nat.le_of_ble_eq_true rfl) (by decide +kernel) ?_
      show rf_V 7 (rf_sh w) K 0 0 195 ([(0, .ref 206), (1, .int a1), (2, .int a2), (3, .int a3), (4, .int a4), (5, .int a5)], [.int y2, .int y1], rf_MM w m2)
      refine rf_icmp_ge C 12 207 (by decide +kernel) (fun hc => ?_) (fun hc => ?_)
      · replace hg := (if_pos hc).symm.trans hg
        refine rf_seg C [(.iinc 4 1, 3), (.iload 5, 2), (.iload 3, 1), (.ixor, 1), (.istore 6, 2), (.iload 6, 2), (.iload 6, 2), (.ineg, 1), (.iand, 1), (.iload 5, 2), (.iand, 1)] (pc' := 225) (S' := ([(6, .int (a5 ^^^ a3)), (4, .int (a4 + 1)), (0, .ref 206), (1, .int a1), (2, .int a2), (3, .int a3), (5, .int a5)], [.int (((a5 ^^^ a3) &&& (-(a5 ^^^ a3))) &&& a5)], rf_MM w m2)) (by decide +kernel) rfl trivial ?_
        refine rf_if_eq C 6 231 (by decide +kernel) (fun hc => ?_) (fun hc => ?_)
        · replace hg := (if_pos hc).symm.trans hg
          refine rf_few [2, 3, 4, 5, 1, 6] rfl ?_
          exact s_X14_blunder_231 C hE hr142 a1 a2 a3 (a4 + 1) a5 m2 hg
        · replace hg := (if_neg hc).symm.trans hg
          refine rf_seg C [(.iload 5, 2), (.istore 3, 1)] (pc' := 231) (S' := ([(3, .int a5), (6, .int (a5 ^^^ a3)), (4, .int (a4 + 1)), (0, .ref 206), (1, .int a1), (2, .int a2), (5, .int a5)], [], rf_MM w m2)) (by decide +kernel) rfl trivial ?_
          refine rf_few [3, 4, 5, 0, 2, 6] rfl ?_
          exact s_X14_blunder_231 C hE hr142 a1 a2 a5 (a4 + 1) a5 m2 hg
      · replace hg := (if_neg hc).symm.trans hg
        refine rf_few [0, 1, 2, 5] rfl ?_
        exact s_X14_blunder_198 C hE hr142 a1 a2 a5 m2 hg
  · replace hg := (if_pos hc).symm.trans hg
    refine rf_goto C 53 231 (by decide +kernel) ?_
    refine rf_few [0, 1, 2, 3, 4, 5] rfl ?_
    exact s_X14_blunder_231 C hE hr142 a1 a2 a3 a4 a5 m0 hg
theorem s_X14_blunder_142_b {w : rf_w} {K : rf_K} {r : Int32 × rf_m} (C : rf_Ctx 14 cX14_blunder 7 9 (rf_sh w) K) (hE : rf_End (some .int) K (rf_sh w) 0 0 (some (.int r.1)) (rf_MM w r.2)) {rec142 : Int32 → Int32 → Int32 → Int32 → Int32 → rf_m → Option (Int32 × rf_m)} (hr142 : ∀ (a1 : Int32) (a2 : Int32) (a3 : Int32) (a4 : Int32) (a5 : Int32) (m : rf_m), rec142 a1 a2 a3 a4 a5 m = some r → rf_V 7 (rf_sh w) K 0 0 142 ([(0, .ref 206), (1, .int a1), (2, .int a2), (3, .int a3), (4, .int a4), (5, .int a5)], [], rf_MM w m)) (a1 : Int32) (a2 : Int32) (a3 : Int32) (a4 : Int32) (a5 : Int32) (m : rf_m) (hg : g_X14_blunder_142_b w rec142 a1 a2 a3 a4 a5 m = some r) : rf_V 7 (rf_sh w) K 0 0 142 ([(0, .ref 206), (1, .int a1), (2, .int a2), (3, .int a3), (4, .int a4), (5, .int a5)], [], rf_MM w m) := by
  unfold g_X14_blunder_142_b at hg
  refine rf_seg C [(.iload 5, 2), (.iconst 1, 1), (.iload 1, 1), (.ishl, 1)] (pc' := 147) (S' := ([(0, .ref 206), (1, .int a1), (2, .int a2), (3, .int a3), (4, .int a4), (5, .int a5)], [.int ((1 : Int32) <<< (a1 &&& 31)), .int a5], rf_MM w m)) (by decide +kernel) rfl trivial ?_
  refine rf_icmp_ge C 90 237 (by decide +kernel) (fun hc => ?_) (fun hc => ?_)
  · replace hg := (if_pos hc).symm.trans hg
    refine rf_seg C [(.iload 3, 1), (.iconst (-1), 1)] (pc' := 239) (S' := ([(0, .ref 206), (1, .int a1), (2, .int a2), (3, .int a3), (4, .int a4), (5, .int a5)], [.int ((-1)), .int a3], rf_MM w m)) (by decide +kernel) rfl trivial ?_
    refine rf_icmp_ne C 6 245 (by decide +kernel) (fun hc => ?_) (fun hc => ?_)
    · replace hg := (if_neg hc).symm.trans hg
      refine rf_seg C [(.aload 0, 1), (.iconst 0, 1), (.multianewarray 14 117, 3), (.iconst 0, 1), (.istore 5, 2)] (pc' := 253) (S' := ([(5, .int 0), (0, .ref 206), (1, .int a1), (2, .int a2), (3, .int a3), (4, .int a4)], [], rf_MM w (rf_i m 206 117 0))) (by decide +kernel) rfl trivial ?_
      refine rf_few [1, 2, 4, 5, 0] rfl ?_
      exact s_X14_blunder_253 C hE rf_fuel a1 a3 a4 0 (rf_i m 206 117 0) hg
    · replace hg := (if_pos hc).symm.trans hg
      refine rf_seg C [(.iconst (-2), 2)] (pc' := 244) (S' := ([(0, .ref 206), (1, .int a1), (2, .int a2), (3, .int a3), (4, .int a4), (5, .int a5)], [.int ((-2))], rf_MM w m)) (by decide +kernel) rfl trivial ?_
      obtain rfl := Option.some.inj hg
      exact rf_iret C hE (by decide +kernel)
  · replace hg := (if_neg hc).symm.trans hg
    refine rf_seg C [(.iload 3, 1), (.iconst (-1), 1)] (pc' := 152) (S' := ([(0, .ref 206), (1, .int a1), (2, .int a2), (3, .int a3), (4, .int a4), (5, .int a5)], [.int ((-1)), .int a3], rf_MM w m)) (by decide +kernel) rfl trivial ?_
    refine rf_icmp_eq C 15 167 (by decide +kernel) (fun hc => ?_) (fun hc => ?_)
    · replace hg := (if_pos hc).symm.trans hg
      refine rf_few [0, 1, 2, 3, 4, 5] rfl ?_
      exact s_X14_blunder_167 C hE hr142 a1 a2 a3 a4 a5 m hg
    · replace hg := (if_neg hc).symm.trans hg
      refine rf_seg C [(.iload 5, 2)] (pc' := 157) (S' := ([(0, .ref 206), (1, .int a1), (2, .int a2), (3, .int a3), (4, .int a4), (5, .int a5)], [.int a5], rf_MM w m)) (by decide +kernel) rfl trivial ?_
      obtain ⟨y0, m0, hc0, hg⟩ := rf_b_some hg
      refine rf_calls C rf_fit0 j_X14_bits (As := [.int a5]) (rest := []) mw_X14_bits (c_X14_bits hc0) (by decide) lk_14_767 rfl rfl (Nat.le_of_ble_eq_true rfl) (by decide +kernel) ?_
      show rf_V 7 (rf_sh w) K 0 0 160 ([(0, .ref 206), (1, .int a1), (2, .int a2), (3, .int a3), (4, .int a4), (5, .int a5)], [.int y0], rf_MM w m0)
      refine rf_seg C [(.iload 3, 1)] (pc' := 161) (S' := ([(0, .ref 206), (1, .int a1), (2, .int a2), (3, .int a3), (4, .int a4), (5, .int a5)], [.int a3, .int y0], rf_MM w m0)) (by decide +kernel) rfl trivial ?_
      obtain ⟨y1, m1, hc1, hg⟩ := rf_b_some hg
      refine rf_calls C rf_fit0 j_X14_bits (As := [.int a3]) (rest := [.int y0]) mw_X14_bits (c_X14_bits hc1) (by decide) lk_14_767 rfl rfl (Nat.le_of_ble_eq_true rfl) (by decide +kernel) ?_
      show rf_V 7 (rf_sh w) K 0 0 164 ([(0, .ref 206), (1, .int a1), (2, .int a2), (3, .int a3), (4, .int a4), (5, .int a5)], [.int y1, .int y0], rf_MM w m1)
      refine rf_icmp_gt C 67 231 (by decide +kernel) (fun hc => ?_) (fun hc => ?_)
      · replace hg := (if_pos hc).symm.trans hg
        refine rf_few [0, 1, 2, 3, 4, 5] rfl ?_
        exact s_X14_blunder_231 C hE hr142 a1 a2 a3 a4 a5 m1 hg
      · replace hg := (if_neg hc).symm.trans hg
        refine rf_few [0, 1, 2, 3, 4, 5] rfl ?_
        exact s_X14_blunder_167 C hE hr142 a1 a2 a3 a4 a5 m1 hg
theorem s_X14_blunder_142 {w : rf_w} {K : rf_K} {r : Int32 × rf_m} (C : rf_Ctx 14 cX14_blunder 7 9 (rf_sh w) K) (hE : rf_End (some .int) K (rf_sh w) 0 0 (some (.int r.1)) (rf_MM w r.2)) (n : Nat) : ∀ (a1 : Int32) (a2 : Int32) (a3 : Int32) (a4 : Int32) (a5 : Int32) (m : rf_m), g_X14_blunder_142 w n a1 a2 a3 a4 a5 m = some r → rf_V 7 (rf_sh w) K 0 0 142 ([(0, .ref 206), (1, .int a1), (2, .int a2), (3, .int a3), (4, .int a4), (5, .int a5)], [], rf_MM w m) := by
  induction n with
  | zero => intro a1 a2 a3 a4 a5 m hg; cases hg
  | succ n ih => intro a1 a2 a3 a4 a5 m hg; exact s_X14_blunder_142_b C hE ih a1 a2 a3 a4 a5 m hg
theorem s_X14_blunder_88_b {w : rf_w} {K : rf_K} {r : Int32 × rf_m} (C : rf_Ctx 14 cX14_blunder 7 9 (rf_sh w) K) (hE : rf_End (some .int) K (rf_sh w) 0 0 (some (.int r.1)) (rf_MM w r.2)) {rec56 : Int32 → Int32 → rf_m → Option (Int32 × rf_m)} {rec88 : Int32 → Int32 → Int32 → rf_m → Option (Int32 × rf_m)} (hr56 : ∀ (a1 : Int32) (a2 : Int32) (m : rf_m), rec56 a1 a2 m = some r → rf_V 7 (rf_sh w) K 0 0 56 ([(0, .ref 206), (1, .int a1), (2, .int a2)], [], rf_MM w m)) (hr88 : ∀ (a1 : Int32) (a2 : Int32) (a3 : Int32) (m : rf_m), rec88 a1 a2 a3 m = some r → rf_V 7 (rf_sh w) K 0 0 88 ([(0, .ref 206), (1, .int a1), (2, .int a2), (3, .int a3)], [], rf_MM w m)) (a1 : Int32) (a2 : Int32) (a3 : Int32) (m : rf_m) (hg : g_X14_blunder_88_b w rec56 rec88 a1 a2 a3 m = some r) : rf_V 7 (rf_sh w) K 0 0 88 ([(0, .ref 206), (1, .int a1), (2, .int a2), (3, .int a3)], [], rf_MM w m) := by
  unfold g_X14_blunder_88_b at hg
  refine rf_seg C [(.iload 3, 1), (.aload 0, 1), (.invokeinterface 14 34, 3)] (pc' := 93) (S' := ([(0, .ref 206), (1, .int a1), (2, .int a2), (3, .int a3)], [.int (m.1 206 34), .int a3], rf_MM w m)) (by decide +kernel) rfl trivial ?_
  refine rf_icmp_ge C 30 123 (by decide +kernel) (fun hc => ?_) (fun hc => ?_)
  · replace hg := (if_pos hc).symm.trans hg
    refine rf_seg C [(.iinc 2 1, 3)] (pc' := 126) (S' := ([(2, .int (a2 + 1)), (0, .ref 206), (1, .int a1), (3, .int a3)], [], rf_MM w m)) (by decide +kernel) rfl trivial ?_
    refine rf_goto C (-70) 56 (by decide +kernel) ?_
    refine rf_few [1, 2, 0] rfl ?_
    exact hr56 a1 (a2 + 1) m hg
  · replace hg := (if_neg hc).symm.trans hg
    obtain ⟨q0, hg⟩ := rf_g_some hg
    obtain ⟨q1, hg⟩ := rf_g_some hg
    obtain ⟨q2, hg⟩ := rf_g_some hg
    obtain ⟨q3, hg⟩ := rf_g_some hg
    refine rf_seg C [(.aload 0, 1), (.invokeinterface 14 124, 3), (.iload 2, 1), (.dup2, 1), (.laload, 1), (.aload 0, 1), (.invokeinterface 14 25, 3), (.aload 0, 1), (.invokeinterface 14 31, 3), (.iload 3, 1), (.iaload, 1), (.iaload, 1), (.i2l, 1), (.ladd, 1), (.lastore, 1), (.iinc 3 1, 3)] (pc' := 120) (S' := ([(3, .int (a3 + 1)), (0, .ref 206), (1, .int a1), (2, .int a2)], [], rf_MM w (rf_l m 287 (Int32.toNatClampNeg a2) ((m.2 287 (Int32.toNatClampNeg a2)) + (Int32.toInt64 (m.1 221 (Int32.toNatClampNeg (m.1 227 (Int32.toNatClampNeg a3))))))))) (by decide +kernel) rfl (by exact ⟨(rf_in_of q0), (rf_in_of q1), (rf_in_of q2), (rf_in_of q3)⟩) ?_
    refine rf_goto C (-32) 88 (by decide +kernel) ?_
    refine rf_few [1, 2, 3, 0] rfl ?_
    exact hr88 a1 a2 (a3 + 1) (rf_l m 287 (Int32.toNatClampNeg a2) ((m.2 287 (Int32.toNatClampNeg a2)) + (Int32.toInt64 (m.1 221 (Int32.toNatClampNeg (m.1 227 (Int32.toNatClampNeg a3))))))) hg
theorem s_X14_blunder_88 {w : rf_w} {K : rf_K} {r : Int32 × rf_m} (C : rf_Ctx 14 cX14_blunder 7 9 (rf_sh w) K) (hE : rf_End (some .int) K (rf_sh w) 0 0 (some (.int r.1)) (rf_MM w r.2)) {rec56 : Int32 → Int32 → rf_m → Option (Int32 × rf_m)} (hr56 : ∀ (a1 : Int32) (a2 : Int32) (m : rf_m), rec56 a1 a2 m = some r → rf_V 7 (rf_sh w) K 0 0 56 ([(0, .ref 206), (1, .int a1), (2, .int a2)], [], rf_MM w m)) (n : Nat) : ∀ (a1 : Int32) (a2 : Int32) (a3 : Int32) (m : rf_m), g_X14_blunder_88 w rec56 n a1 a2 a3 m = some r → rf_V 7 (rf_sh w) K 0 0 88 ([(0, .ref 206), (1, .int a1), (2, .int a2), (3, .int a3)], [], rf_MM w m) := by
  induction n with
  | zero => intro a1 a2 a3 m hg; cases hg
  | succ n ih => intro a1 a2 a3 m hg; exact s_X14_blunder_88_b C hE hr56 ih a1 a2 a3 m hg
theorem s_X14_blunder_56_b {w : rf_w} {K : rf_K} {r : Int32 × rf_m} (C : rf_Ctx 14 cX14_blunder 7 9 (rf_sh w) K) (hE : rf_End (some .int) K (rf_sh w) 0 0 (some (.int r.1)) (rf_MM w r.2)) {rec56 : Int32 → Int32 → rf_m → Option (Int32 × rf_m)} (hr56 : ∀ (a1 : Int32) (a2 : Int32) (m : rf_m), rec56 a1 a2 m = some r → rf_V 7 (rf_sh w) K 0 0 56 ([(0, .ref 206), (1, .int a1), (2, .int a2)], [], rf_MM w m)) (a1 : Int32) (a2 : Int32) (m : rf_m) (hg : g_X14_blunder_56_b w rec56 a1 a2 m = some r) : rf_V 7 (rf_sh w) K 0 0 56 ([(0, .ref 206), (1, .int a1), (2, .int a2)], [], rf_MM w m) := by
  unfold g_X14_blunder_56_b at hg
  refine rf_seg C [(.iload 2, 1), (.aload 0, 1), (.invokeinterface 14 16, 3)] (pc' := 61) (S' := ([(0, .ref 206), (1, .int a1), (2, .int a2)], [.int (m.1 206 16), .int a2], rf_MM w m)) (by decide +kernel) rfl trivial ?_
  refine rf_icmp_ge C 68 129 (by decide +kernel) (fun hc => ?_) (fun hc => ?_)
  · replace hg := (if_pos hc).symm.trans hg
    refine rf_seg C [(.aload 0, 1)] (pc' := 130) (S' := ([(0, .ref 206), (1, .int a1), (2, .int a2)], [.ref 206], rf_MM w m)) (by decide +kernel) rfl trivial ?_
    obtain ⟨y0, m0, hc0, hg⟩ := rf_b_some hg
    refine rf_callv C rf_fit0 j_X14_allowed (ci := 14) (As := []) (rest := []) mw_X14_allowed (c_X14_allowed hc0) (by decide) rfl (by decide) lk_14_663 rfl rfl (Nat.le_of_ble_eq_true rfl) (by decide +kernel) ?_
    show rf_V 7 (rf_sh w) K 0 0 133 ([(0, .ref 206), (1, .int a1), (2, .int a2)], [.int y0], rf_MM w m0)
    refine rf_seg C [(.istore 2, 1), (.iconst (-1), 1), (.istore 3, 1), (.iconst 0, 1), (.istore 4, 2), (.iconst 0, 1), (.istore 5, 2)] (pc' := 142) (S' := ([(5, .int 0), (4, .int 0), (3, .int ((-1))), (2, .int y0), (0, .ref 206), (1, .int a1)], [], rf_MM w m0)) (by decide +kernel) rfl trivial ?_
    refine rf_few [4, 5, 3, 2, 1, 0] rfl ?_
    exact s_X14_blunder_142 C hE rf_fuel a1 y0 ((-1)) 0 0 m0 hg
  · replace hg := (if_neg hc).symm.trans hg
    refine rf_seg C [(.aload 0, 1), (.iload 2, 1)] (pc' := 66) (S' := ([(0, .ref 206), (1, .int a1), (2, .int a2)], [.int a2, .ref 206], rf_MM w m)) (by decide +kernel) rfl trivial ?_
    obtain ⟨m1, hc1, hg⟩ := rf_bv_some hg
    refine rf_callv C rf_fit0 j_X14_now (ci := 14) (As := [.int a2]) (rest := []) mw_X14_now (c_X14_now hc1) (by decide) rfl (by decide) lk_14_469 rfl rfl (Nat.le_of_ble_eq_true rfl) (by decide +kernel) ?_
    show rf_V 7 (rf_sh w) K 0 0 69 ([(0, .ref 206), (1, .int a1), (2, .int a2)], [], rf_MM w m1)
    obtain ⟨q2, hg⟩ := rf_g_some hg
    obtain ⟨q3, hg⟩ := rf_g_some hg
    refine rf_seg C [(.aload 0, 1), (.invokeinterface 14 122, 3), (.iload 2, 1), (.aload 0, 1), (.invokeinterface 14 34, 3), (.iastore, 1), (.aload 0, 1), (.invokeinterface 14 124, 3), (.iload 2, 1), (.goto_w 0, 1), (.lastore, 1), (.iconst 0, 1), (.istore 3, 1)] (pc' := 88) (S' := ([(3, .int 0), (0, .ref 206), (1, .int a1), (2, .int a2)], [], rf_MM w (rf_l (rf_i m1 285 (Int32.toNatClampNeg a2) (m1.1 206 34)) 287 (Int32.toNatClampNeg a2) 0))) (by decide +kernel) rfl (by exact ⟨(rf_in_of q2), (rf_in_of q3)⟩) ?_
    refine rf_few [1, 2, 3, 0] rfl ?_
    exact s_X14_blunder_88 C hE hr56 rf_fuel a1 a2 0 (rf_l (rf_i m1 285 (Int32.toNatClampNeg a2) (m1.1 206 34)) 287 (Int32.toNatClampNeg a2) 0) hg
theorem s_X14_blunder_56 {w : rf_w} {K : rf_K} {r : Int32 × rf_m} (C : rf_Ctx 14 cX14_blunder 7 9 (rf_sh w) K) (hE : rf_End (some .int) K (rf_sh w) 0 0 (some (.int r.1)) (rf_MM w r.2)) (n : Nat) : ∀ (a1 : Int32) (a2 : Int32) (m : rf_m), g_X14_blunder_56 w n a1 a2 m = some r → rf_V 7 (rf_sh w) K 0 0 56 ([(0, .ref 206), (1, .int a1), (2, .int a2)], [], rf_MM w m) := by
  induction n with
  | zero => intro a1 a2 m hg; cases hg
  | succ n ih => intro a1 a2 m hg; exact s_X14_blunder_56_b C hE ih a1 a2 m hg
theorem s_X14_blunder_48 {w : rf_w} {K : rf_K} {r : Int32 × rf_m} (C : rf_Ctx 14 cX14_blunder 7 9 (rf_sh w) K) (hE : rf_End (some .int) K (rf_sh w) 0 0 (some (.int r.1)) (rf_MM w r.2)) {rec9 : Int32 → Int32 → rf_m → Option (Int32 × rf_m)} (hr9 : ∀ (a1 : Int32) (a2 : Int32) (m : rf_m), rec9 a1 a2 m = some r → rf_V 7 (rf_sh w) K 0 0 9 ([(0, .ref 206), (1, .int a1), (2, .int a2)], [], rf_MM w m)) (a1 : Int32) (a2 : Int32) (m : rf_m) (hg : g_X14_blunder_48 w rec9 a1 a2 m = some r) : rf_V 7 (rf_sh w) K 0 0 48 ([(0, .ref 206), (1, .int a1), (2, .int a2)], [], rf_MM w m) := by
  unfold g_X14_blunder_48 at hg
  refine rf_seg C [(.iinc 2 1, 3)] (pc' := 51) (S' := ([(2, .int (a2 + 1)), (0, .ref 206), (1, .int a1)], [], rf_MM w m)) (by decide +kernel) rfl trivial ?_
  refine rf_goto C (-42) 9 (by decide +kernel) ?_
  refine rf_few [1, 2, 0] rfl ?_
  exact hr9 a1 (a2 + 1) m hg
theorem s_X14_blunder_9_b {w : rf_w} {K : rf_K} {r : Int32 × rf_m} (C : rf_Ctx 14 cX14_blunder 7 9 (rf_sh w) K) (hE : rf_End (some .int) K (rf_sh w) 0 0 (some (.int r.1)) (rf_MM w r.2)) {rec9 : Int32 → Int32 → rf_m → Option (Int32 × rf_m)} (hr9 : ∀ (a1 : Int32) (a2 : Int32) (m : rf_m), rec9 a1 a2 m = some r → rf_V 7 (rf_sh w) K 0 0 9 ([(0, .ref 206), (1, .int a1), (2, .int a2)], [], rf_MM w m)) (a1 : Int32) (a2 : Int32) (m : rf_m) (hg : g_X14_blunder_9_b w rec9 a1 a2 m = some r) : rf_V 7 (rf_sh w) K 0 0 9 ([(0, .ref 206), (1, .int a1), (2, .int a2)], [], rf_MM w m) := by
  unfold g_X14_blunder_9_b at hg
  refine rf_seg C [(.iload 2, 1), (.aload 0, 1), (.invokeinterface 14 116, 3)] (pc' := 14) (S' := ([(0, .ref 206), (1, .int a1), (2, .int a2)], [.int (m.1 206 116), .int a2], rf_MM w m)) (by decide +kernel) rfl trivial ?_
  refine rf_icmp_ge C 40 54 (by decide +kernel) (fun hc => ?_) (fun hc => ?_)
  · replace hg := (if_pos hc).symm.trans hg
    refine rf_seg C [(.iconst 0, 1), (.istore 2, 1)] (pc' := 56) (S' := ([(2, .int 0), (0, .ref 206), (1, .int a1)], [], rf_MM w m)) (by decide +kernel) rfl trivial ?_
    refine rf_few [1, 2, 0] rfl ?_
    exact s_X14_blunder_56 C hE rf_fuel a1 0 m hg
  · replace hg := (if_neg hc).symm.trans hg
    obtain ⟨q0, hg⟩ := rf_g_some hg
    refine rf_seg C [(.aload 0, 1), (.aload 0, 1), (.invokeinterface 14 119, 3), (.iload 2, 1), (.iaload, 1)] (pc' := 24) (S' := ([(0, .ref 206), (1, .int a1), (2, .int a2)], [.int (m.1 282 (Int32.toNatClampNeg a2)), .ref 206], rf_MM w m)) (by decide +kernel) rfl (rf_in_of q0) ?_
    obtain ⟨y1, m1, hc1, hg⟩ := rf_b_some hg
    refine rf_callv C rf_fit0 j_X14_isKeptNow (ci := 14) (As := [.int (m.1 282 (Int32.toNatClampNeg a2))]) (rest := []) mw_X14_isKeptNow (c_X14_isKeptNow hc1) (by decide) rfl (by decide) lk_14_861 rfl rfl (Nat.le_of_ble_eq_true rfl) (by decide +kernel) ?_
    show rf_V 7 (rf_sh w) K 0 0 27 ([(0, .ref 206), (1, .int a1), (2, .int a2)], [.int y1], rf_MM w m1)
    refine rf_if_ne C 6 33 (by decide +kernel) (fun hc => ?_) (fun hc => ?_)
    · replace hg := (if_neg hc).symm.trans hg
      obtain ⟨q2, hg⟩ := rf_g_some hg
      obtain ⟨q3, hg⟩ := rf_g_some hg
      refine rf_seg C [(.aload 0, 1), (.invokeinterface 14 120, 3), (.iload 1, 1), (.aload 0, 1), (.invokeinterface 14 119, 3), (.iload 2, 1), (.iaload, 1), (.iastore, 1), (.iinc 1 1, 3)] (pc' := 48) (S' := ([(1, .int (a1 + 1)), (0, .ref 206), (2, .int a2)], [], rf_MM w (rf_i m1 283 (Int32.toNatClampNeg a1) (m1.1 282 (Int32.toNatClampNeg a2))))) (by decide +kernel) rfl (by exact ⟨(rf_in_of q2), (rf_in_of q3)⟩) ?_
      refine rf_few [1, 0, 2] rfl ?_
      exact s_X14_blunder_48 C hE hr9 (a1 + 1) a2 (rf_i m1 283 (Int32.toNatClampNeg a1) (m1.1 282 (Int32.toNatClampNeg a2))) hg
    · replace hg := (if_pos hc).symm.trans hg
      refine rf_goto C 18 48 (by decide +kernel) ?_
      refine rf_few [0, 1, 2] rfl ?_
      exact s_X14_blunder_48 C hE hr9 a1 a2 m1 hg
theorem s_X14_blunder_9 {w : rf_w} {K : rf_K} {r : Int32 × rf_m} (C : rf_Ctx 14 cX14_blunder 7 9 (rf_sh w) K) (hE : rf_End (some .int) K (rf_sh w) 0 0 (some (.int r.1)) (rf_MM w r.2)) (n : Nat) : ∀ (a1 : Int32) (a2 : Int32) (m : rf_m), g_X14_blunder_9 w n a1 a2 m = some r → rf_V 7 (rf_sh w) K 0 0 9 ([(0, .ref 206), (1, .int a1), (2, .int a2)], [], rf_MM w m) := by
  induction n with
  | zero => intro a1 a2 m hg; cases hg
  | succ n ih => intro a1 a2 m hg; exact s_X14_blunder_9_b C hE ih a1 a2 m hg
theorem c_X14_blunder {w : rf_w} {m : rf_m} {r : Int32 × rf_m} (hg : g_X14_blunder w m = some r) : rf_Con j_X14_blunder 9 (rf_sh w) [.ref 206] (rf_MM w m) (some (.int r.1)) (rf_MM w r.2) := by
  refine rf_con j_X14_blunder 9 ⟨by decide +kernel, rfl, Nat.le_of_ble_eq_true rfl⟩ (fun K C hE => ?_)
  unfold g_X14_blunder at hg
  show rf_V 7 (rf_sh w) K 0 0 0 ([(0, .ref 206)], [], rf_MM w m)
  refine rf_seg C [(.aload 0, 1), (.iconst 0, 1), (.multianewarray 14 0, 3), (.iconst 0, 1), (.istore 1, 1), (.iconst 0, 1), (.istore 2, 1)] (pc' := 9) (S' := ([(2, .int 0), (1, .int 0), (0, .ref 206)], [], rf_MM w (rf_i m 206 0 0))) (by decide +kernel) rfl trivial ?_
  refine rf_few [2, 1, 0] rfl ?_
  exact s_X14_blunder_9 C hE rf_fuel 0 0 (rf_i m 206 0 0) hg
