/-! methods as functions, and their contracts (written by wip/tool/gen.py) -/
-- X14_allows__281
abbrev j_X14_allows__281 : rf_J := (14, yX14_allows, cX14_allows, 4, none)
theorem mw_X14_allows__281 : rf_mv j_X14_allows__281 (rf_R 14) 3 := ⟨⟨rf_mem 83 (by decide +kernel), rf_mem 83 (by decide +kernel), rf_mem 0 (by decide +kernel), rf_mem 83 (by decide +kernel)⟩, by decide +kernel, by decide⟩
def g_X14_allows__281 (w : rf_w) (m : rf_m) (a2 : Int32) (a3 : Int32) : Option (rf_m) := rf_g (rf_in ((30 * a2) + a3) 900) (rf_g (rf_in ((30 * a3) + a2) 900) (some (rf_i (rf_i m 281 (Int32.toNatClampNeg ((30 * a2) + a3)) (vp_nar .boolean 1)) 281 (Int32.toNatClampNeg ((30 * a3) + a2)) (vp_nar .boolean 1))))
theorem c_X14_allows__281 {w : rf_w} {m : rf_m} {a2 : Int32} {a3 : Int32} {r : rf_m} (hg : g_X14_allows__281 w m a2 a3 = some r) : rf_Con j_X14_allows__281 1 (rf_sh w) [.ref 206, .ref 281, .int a2, .int a3] (rf_MM w m) none (rf_MM w r) := by
  refine rf_con j_X14_allows__281 1 ⟨by decide +kernel, rfl, Nat.le_of_ble_eq_true rfl⟩ (fun K C hE => ?_)
  unfold g_X14_allows__281 at hg
  show rf_V 4 (rf_sh w) K 0 0 0 ([(0, .ref 206), (1, .ref 281), (2, .int a2), (3, .int a3)], [], rf_MM w m)
  obtain ⟨q0, hg⟩ := rf_g_some hg
  obtain ⟨q1, hg⟩ := rf_g_some hg
  refine rf_seg C [(.aload 1, 1), (.iconst 30, 2), (.iload 2, 1), (.imul, 1), (.iload 3, 1), (.iadd, 1), (.iconst 1, 1), (.bastore, 1), (.aload 1, 1), (.iconst 30, 2), (.iload 3, 1), (.imul, 1), (.iload 2, 1), (.iadd, 1), (.iconst 1, 1), (.bastore, 1)] (pc' := 18) (S' := ([(0, .ref 206), (1, .ref 281), (2, .int a2), (3, .int a3)], [], rf_MM w (rf_i (rf_i m 281 (Int32.toNatClampNeg ((30 * a2) + a3)) (vp_nar .boolean 1)) 281 (Int32.toNatClampNeg ((30 * a3) + a2)) (vp_nar .boolean 1)))) (by decide +kernel) rfl (by exact ⟨(rf_in_of q0), (rf_in_of q1)⟩) ?_
  obtain rfl := Option.some.inj hg
  exact rf_vret C hE (by decide +kernel)
-- X14_allows__280
abbrev j_X14_allows__280 : rf_J := (14, yX14_allows, cX14_allows, 4, none)
theorem mw_X14_allows__280 : rf_mv j_X14_allows__280 (rf_R 14) 3 := ⟨⟨rf_mem 83 (by decide +kernel), rf_mem 83 (by decide +kernel), rf_mem 0 (by decide +kernel), rf_mem 83 (by decide +kernel)⟩, by decide +kernel, by decide⟩
def g_X14_allows__280 (w : rf_w) (m : rf_m) (a2 : Int32) (a3 : Int32) : Option (rf_m) := rf_g (rf_in ((30 * a2) + a3) 900) (rf_g (rf_in ((30 * a3) + a2) 900) (some (rf_i (rf_i m 280 (Int32.toNatClampNeg ((30 * a2) + a3)) (vp_nar .boolean 1)) 280 (Int32.toNatClampNeg ((30 * a3) + a2)) (vp_nar .boolean 1))))
theorem c_X14_allows__280 {w : rf_w} {m : rf_m} {a2 : Int32} {a3 : Int32} {r : rf_m} (hg : g_X14_allows__280 w m a2 a3 = some r) : rf_Con j_X14_allows__280 1 (rf_sh w) [.ref 206, .ref 280, .int a2, .int a3] (rf_MM w m) none (rf_MM w r) := by
  refine rf_con j_X14_allows__280 1 ⟨by decide +kernel, rfl, Nat.le_of_ble_eq_true rfl⟩ (fun K C hE => ?_)
  unfold g_X14_allows__280 at hg
  show rf_V 4 (rf_sh w) K 0 0 0 ([(0, .ref 206), (1, .ref 280), (2, .int a2), (3, .int a3)], [], rf_MM w m)
  obtain ⟨q0, hg⟩ := rf_g_some hg
  obtain ⟨q1, hg⟩ := rf_g_some hg
  refine rf_seg C [(.aload 1, 1), (.iconst 30, 2), (.iload 2, 1), (.imul, 1), (.iload 3, 1), (.iadd, 1), (.iconst 1, 1), (.bastore, 1), (.aload 1, 1), (.iconst 30, 2), (.iload 3, 1), (.imul, 1), (.iload 2, 1), (.iadd, 1), (.iconst 1, 1), (.bastore, 1)] (pc' := 18) (S' := ([(0, .ref 206), (1, .ref 280), (2, .int a2), (3, .int a3)], [], rf_MM w (rf_i (rf_i m 280 (Int32.toNatClampNeg ((30 * a2) + a3)) (vp_nar .boolean 1)) 280 (Int32.toNatClampNeg ((30 * a3) + a2)) (vp_nar .boolean 1)))) (by decide +kernel) rfl (by exact ⟨(rf_in_of q0), (rf_in_of q1)⟩) ?_
  obtain rfl := Option.some.inj hg
  exact rf_vret C hE (by decide +kernel)
-- X14_check
abbrev j_X14_check : rf_J := (14, yX14_check, cX14_check, 20, (some .int))
theorem mw_X14_check : rf_mv j_X14_check (rf_R 14) 9 := ⟨⟨rf_mem 83 (by decide +kernel), rf_mem 83 (by decide +kernel), rf_mem 0 (by decide +kernel), rf_mem 83 (by decide +kernel)⟩, by decide +kernel, by decide⟩
def g_X14_check_516_b (w : rf_w) (rec208 : Int32 → Int32 → Int32 → Int32 → Int32 → rf_m → Option (Int32 × rf_m)) (rec516 : Int32 → Int32 → Int32 → Int32 → Int32 → Int32 → rf_m → Option (Int32 × rf_m)) (a2 : Int32) (a3 : Int32) (a10 : Int32) (a11 : Int32) (a12 : Int32) (a16 : Int32) (m : rf_m) : Option (Int32 × rf_m) := (if 900 ≤ a16 then rec208 a2 a3 a10 a11 (a12 + 1) m else rf_g (rf_in a16 900) (rf_g (rf_in a16 900) (rec516 a2 a3 a10 a11 a12 (a16 + 1) (rf_i m 280 (Int32.toNatClampNeg a16) (vp_nar .boolean (m.1 281 (Int32.toNatClampNeg a16)))))))
def g_X14_check_516 (w : rf_w) (rec208 : Int32 → Int32 → Int32 → Int32 → Int32 → rf_m → Option (Int32 × rf_m)) : Nat → Int32 → Int32 → Int32 → Int32 → Int32 → Int32 → rf_m → Option (Int32 × rf_m)
  | 0, _, _, _, _, _, _, _ => none
  | n + 1, a2, a3, a10, a11, a12, a16, m => g_X14_check_516_b w rec208 (g_X14_check_516 w rec208 n) a2 a3 a10 a11 a12 a16 m
def g_X14_check_513 (w : rf_w) (rec208 : Int32 → Int32 → Int32 → Int32 → Int32 → rf_m → Option (Int32 × rf_m)) (a2 : Int32) (a3 : Int32) (a10 : Int32) (a11 : Int32) (a12 : Int32) (m : rf_m) : Option (Int32 × rf_m) := g_X14_check_516 w rec208 rf_fuel a2 a3 a10 a11 a12 0 m
def g_X14_check_465 (w : rf_w) (rec208 : Int32 → Int32 → Int32 → Int32 → Int32 → rf_m → Option (Int32 × rf_m)) (rec335 : Int32 → Int32 → Int32 → Int32 → Int32 → Int32 → Int32 → Int32 → Int32 → rf_m → Option (Int32 × rf_m)) (a2 : Int32) (a3 : Int32) (a10 : Int32) (a11 : Int32) (a12 : Int32) (a13 : Int32) (a14 : Int32) (a15 : Int32) (a16 : Int32) (m : rf_m) : Option (Int32 × rf_m) := rec335 a2 a3 a10 a11 a12 a13 a14 a15 (a16 + 1) m
def g_X14_check_459 (w : rf_w) (rec208 : Int32 → Int32 → Int32 → Int32 → Int32 → rf_m → Option (Int32 × rf_m)) (rec335 : Int32 → Int32 → Int32 → Int32 → Int32 → Int32 → Int32 → Int32 → Int32 → rf_m → Option (Int32 × rf_m)) (rec404 : Int32 → Int32 → Int32 → Int32 → Int32 → Int32 → Int32 → Int32 → Int32 → Int32 → rf_m → Option (Int32 × rf_m)) (a2 : Int32) (a3 : Int32) (a10 : Int32) (a11 : Int32) (a12 : Int32) (a13 : Int32) (a14 : Int32) (a15 : Int32) (a16 : Int32) (a19 : Int32) (m : rf_m) : Option (Int32 × rf_m) := rec404 a2 a3 a10 a11 a12 a13 a14 a15 a16 (a19 + 1) m
def g_X14_check_404_b (w : rf_w) (rec208 : Int32 → Int32 → Int32 → Int32 → Int32 → rf_m → Option (Int32 × rf_m)) (rec335 : Int32 → Int32 → Int32 → Int32 → Int32 → Int32 → Int32 → Int32 → Int32 → rf_m → Option (Int32 × rf_m)) (rec404 : Int32 → Int32 → Int32 → Int32 → Int32 → Int32 → Int32 → Int32 → Int32 → Int32 → rf_m → Option (Int32 × rf_m)) (a2 : Int32) (a3 : Int32) (a10 : Int32) (a11 : Int32) (a12 : Int32) (a13 : Int32) (a14 : Int32) (a15 : Int32) (a16 : Int32) (a19 : Int32) (m : rf_m) : Option (Int32 × rf_m) := (if 3 ≤ a19 then g_X14_check_465 w rec208 rec335 a2 a3 a10 a11 a12 a13 a14 a15 a16 m else (if a19 = a16 then g_X14_check_459 w rec208 rec335 rec404 a2 a3 a10 a11 a12 a13 a14 a15 a16 a19 m else rf_g (rf_in ((3 * a13) + a19) 90) (rf_g (rf_in (m.1 243 (Int32.toNatClampNeg ((3 * a13) + a19))) 80) (rf_g (rf_in ((3 * a13) + a19) 90) (rf_g (rf_in (m.1 243 (Int32.toNatClampNeg ((3 * a13) + a19))) 80) (rf_bv (g_X14_allows__281 w m (m.1 218 (Int32.toNatClampNeg (m.1 243 (Int32.toNatClampNeg ((3 * a13) + a19))))) (m.1 219 (Int32.toNatClampNeg (m.1 243 (Int32.toNatClampNeg ((3 * a13) + a19)))))) fun m4 => g_X14_check_459 w rec208 rec335 rec404 a2 a3 a10 a11 a12 a13 a14 a15 a16 a19 m4))))))
def g_X14_check_404 (w : rf_w) (rec208 : Int32 → Int32 → Int32 → Int32 → Int32 → rf_m → Option (Int32 × rf_m)) (rec335 : Int32 → Int32 → Int32 → Int32 → Int32 → Int32 → Int32 → Int32 → Int32 → rf_m → Option (Int32 × rf_m)) : Nat → Int32 → Int32 → Int32 → Int32 → Int32 → Int32 → Int32 → Int32 → Int32 → Int32 → rf_m → Option (Int32 × rf_m)
  | 0, _, _, _, _, _, _, _, _, _, _, _ => none
  | n + 1, a2, a3, a10, a11, a12, a13, a14, a15, a16, a19, m => g_X14_check_404_b w rec208 rec335 (g_X14_check_404 w rec208 rec335 n) a2 a3 a10 a11 a12 a13 a14 a15 a16 a19 m
def g_X14_check_335_b (w : rf_w) (rec208 : Int32 → Int32 → Int32 → Int32 → Int32 → rf_m → Option (Int32 × rf_m)) (rec335 : Int32 → Int32 → Int32 → Int32 → Int32 → Int32 → Int32 → Int32 → Int32 → rf_m → Option (Int32 × rf_m)) (a2 : Int32) (a3 : Int32) (a10 : Int32) (a11 : Int32) (a12 : Int32) (a13 : Int32) (a14 : Int32) (a15 : Int32) (a16 : Int32) (m : rf_m) : Option (Int32 × rf_m) := (if 3 ≤ a16 then (if a14 = 0 then rf_b (g_X14_done w m (1 + a12)) fun y0 m0 => some (y0, m0) else (if a15 = 0 then rf_b (g_X14_done w m (1 + a12)) fun y1 m1 => some (y1, m1) else (if a12 = (a10 - 1) then rf_g (rf_in ((30 * a2) + a3) 900) ((if (m.1 281 (Int32.toNatClampNeg ((30 * a2) + a3))) = 0 then rf_b (g_X14_done w m (1 + a12)) fun y3 m3 => some (y3, m3) else g_X14_check_513 w rec208 a2 a3 a10 a11 a12 m)) else g_X14_check_513 w rec208 a2 a3 a10 a11 a12 m))) else rf_g (rf_in ((3 * a13) + a16) 90) (rf_g (rf_in (m.1 243 (Int32.toNatClampNeg ((3 * a13) + a16))) 80) (rf_vi (m.1 218 (Int32.toNatClampNeg (m.1 243 (Int32.toNatClampNeg ((3 * a13) + a16))))) fun x6 => rf_g (rf_in ((3 * a13) + a16) 90) (rf_g (rf_in (m.1 243 (Int32.toNatClampNeg ((3 * a13) + a16))) 80) (rf_vi (m.1 219 (Int32.toNatClampNeg (m.1 243 (Int32.toNatClampNeg ((3 * a13) + a16))))) fun x9 => rf_g (rf_in ((30 * x6) + x9) 900) ((if (m.1 280 (Int32.toNatClampNeg ((30 * x6) + x9))) = 0 then g_X14_check_465 w rec208 rec335 a2 a3 a10 a11 a12 a13 a14 a15 a16 m else g_X14_check_404 w rec208 rec335 rf_fuel a2 a3 a10 a11 a12 a13 a14 1 a16 0 m)))))))
def g_X14_check_335 (w : rf_w) (rec208 : Int32 → Int32 → Int32 → Int32 → Int32 → rf_m → Option (Int32 × rf_m)) : Nat → Int32 → Int32 → Int32 → Int32 → Int32 → Int32 → Int32 → Int32 → Int32 → rf_m → Option (Int32 × rf_m)
  | 0, _, _, _, _, _, _, _, _, _, _ => none
  | n + 1, a2, a3, a10, a11, a12, a13, a14, a15, a16, m => g_X14_check_335_b w rec208 (g_X14_check_335 w rec208 n) a2 a3 a10 a11 a12 a13 a14 a15 a16 m
def g_X14_check_307_b (w : rf_w) (rec208 : Int32 → Int32 → Int32 → Int32 → Int32 → rf_m → Option (Int32 × rf_m)) (rec307 : Int32 → Int32 → Int32 → Int32 → Int32 → Int32 → Int32 → Int32 → rf_m → Option (Int32 × rf_m)) (a2 : Int32) (a3 : Int32) (a10 : Int32) (a11 : Int32) (a12 : Int32) (a13 : Int32) (a14 : Int32) (a15 : Int32) (m : rf_m) : Option (Int32 × rf_m) := (if 900 ≤ a15 then g_X14_check_335 w rec208 rf_fuel a2 a3 a10 a11 a12 a13 a14 0 0 m else rf_g (rf_in a15 900) (rec307 a2 a3 a10 a11 a12 a13 a14 (a15 + 1) (rf_i m 281 (Int32.toNatClampNeg a15) (vp_nar .boolean 0))))
def g_X14_check_307 (w : rf_w) (rec208 : Int32 → Int32 → Int32 → Int32 → Int32 → rf_m → Option (Int32 × rf_m)) : Nat → Int32 → Int32 → Int32 → Int32 → Int32 → Int32 → Int32 → Int32 → rf_m → Option (Int32 × rf_m)
  | 0, _, _, _, _, _, _, _, _, _ => none
  | n + 1, a2, a3, a10, a11, a12, a13, a14, a15, m => g_X14_check_307_b w rec208 (g_X14_check_307 w rec208 n) a2 a3 a10 a11 a12 a13 a14 a15 m
def g_X14_check_296 (w : rf_w) (rec208 : Int32 → Int32 → Int32 → Int32 → Int32 → rf_m → Option (Int32 × rf_m)) (rec267 : Int32 → Int32 → Int32 → Int32 → Int32 → Int32 → Int32 → Int32 → rf_m → Option (Int32 × rf_m)) (a2 : Int32) (a3 : Int32) (a10 : Int32) (a11 : Int32) (a12 : Int32) (a13 : Int32) (a15 : Int32) (s0 : Int32) (m : rf_m) : Option (Int32 × rf_m) := rec267 a2 a3 a10 a11 a12 a13 s0 (a15 + 1) m
def g_X14_check_295 (w : rf_w) (rec208 : Int32 → Int32 → Int32 → Int32 → Int32 → rf_m → Option (Int32 × rf_m)) (rec267 : Int32 → Int32 → Int32 → Int32 → Int32 → Int32 → Int32 → Int32 → rf_m → Option (Int32 × rf_m)) (a2 : Int32) (a3 : Int32) (a10 : Int32) (a11 : Int32) (a12 : Int32) (a13 : Int32) (a15 : Int32) (m : rf_m) : Option (Int32 × rf_m) := g_X14_check_296 w rec208 rec267 a2 a3 a10 a11 a12 a13 a15 0 m
def g_X14_check_267_b (w : rf_w) (rec208 : Int32 → Int32 → Int32 → Int32 → Int32 → rf_m → Option (Int32 × rf_m)) (rec267 : Int32 → Int32 → Int32 → Int32 → Int32 → Int32 → Int32 → Int32 → rf_m → Option (Int32 × rf_m)) (a2 : Int32) (a3 : Int32) (a10 : Int32) (a11 : Int32) (a12 : Int32) (a13 : Int32) (a14 : Int32) (a15 : Int32) (m : rf_m) : Option (Int32 × rf_m) := (if a12 ≤ a15 then g_X14_check_307 w rec208 rf_fuel a2 a3 a10 a11 a12 a13 a14 0 m else (if a14 = 0 then g_X14_check_295 w rec208 rec267 a2 a3 a10 a11 a12 a13 a15 m else rf_g (rf_in a15 6) ((if (m.1 279 (Int32.toNatClampNeg a15)) = a13 then g_X14_check_295 w rec208 rec267 a2 a3 a10 a11 a12 a13 a15 m else g_X14_check_296 w rec208 rec267 a2 a3 a10 a11 a12 a13 a15 1 m))))
def g_X14_check_267 (w : rf_w) (rec208 : Int32 → Int32 → Int32 → Int32 → Int32 → rf_m → Option (Int32 × rf_m)) : Nat → Int32 → Int32 → Int32 → Int32 → Int32 → Int32 → Int32 → Int32 → rf_m → Option (Int32 × rf_m)
  | 0, _, _, _, _, _, _, _, _, _ => none
  | n + 1, a2, a3, a10, a11, a12, a13, a14, a15, m => g_X14_check_267_b w rec208 (g_X14_check_267 w rec208 n) a2 a3 a10 a11 a12 a13 a14 a15 m
def g_X14_check_262 (w : rf_w) (rec208 : Int32 → Int32 → Int32 → Int32 → Int32 → rf_m → Option (Int32 × rf_m)) (a2 : Int32) (a3 : Int32) (a10 : Int32) (a11 : Int32) (a12 : Int32) (a13 : Int32) (s0 : Int32) (m : rf_m) : Option (Int32 × rf_m) := g_X14_check_267 w rec208 rf_fuel a2 a3 a10 a11 a12 a13 s0 0 m
def g_X14_check_261 (w : rf_w) (rec208 : Int32 → Int32 → Int32 → Int32 → Int32 → rf_m → Option (Int32 × rf_m)) (a2 : Int32) (a3 : Int32) (a10 : Int32) (a11 : Int32) (a12 : Int32) (a13 : Int32) (m : rf_m) : Option (Int32 × rf_m) := g_X14_check_262 w rec208 a2 a3 a10 a11 a12 a13 0 m
def g_X14_check_208_b (w : rf_w) (rec208 : Int32 → Int32 → Int32 → Int32 → Int32 → rf_m → Option (Int32 × rf_m)) (a2 : Int32) (a3 : Int32) (a10 : Int32) (a11 : Int32) (a12 : Int32) (m : rf_m) : Option (Int32 × rf_m) := (if a10 ≤ a12 then rf_b (g_X14_done w m 0) fun y0 m0 => some (y0, m0) else rf_g (rf_in a12 6) (rf_vi (m.1 279 (Int32.toNatClampNeg a12)) fun x2 => rf_b (g_X14_isWell w m x2) fun y3 m3 => (if y3 = 0 then g_X14_check_261 w rec208 a2 a3 a10 a11 a12 x2 m3 else rf_b (g_X14_missOf w m3 x2 0) fun y4 m4 => rf_b (g_X14_isWide w m4 y4 a11) fun y5 m5 => (if y5 = 0 then rf_b (g_X14_carries w m5 x2) fun y6 m6 => (if y6 = 0 then g_X14_check_261 w rec208 a2 a3 a10 a11 a12 x2 m6 else g_X14_check_262 w rec208 a2 a3 a10 a11 a12 x2 1 m6) else g_X14_check_261 w rec208 a2 a3 a10 a11 a12 x2 m5))))
def g_X14_check_208 (w : rf_w) : Nat → Int32 → Int32 → Int32 → Int32 → Int32 → rf_m → Option (Int32 × rf_m)
  | 0, _, _, _, _, _, _ => none
  | n + 1, a2, a3, a10, a11, a12, m => g_X14_check_208_b w (g_X14_check_208 w n) a2 a3 a10 a11 a12 m
def g_X14_check_163_b (w : rf_w) (rec163 : Int32 → Int32 → Int32 → Int32 → Int32 → Int32 → rf_m → Option (Int32 × rf_m)) (a1 : Int32) (a2 : Int32) (a3 : Int32) (a10 : Int32) (a11 : Int32) (a12 : Int32) (m : rf_m) : Option (Int32 × rf_m) := (if 900 ≤ a12 then rf_g (rf_in a1 6) (rf_g (rf_in a1 6) (rf_bv (g_X14_allows__280 w m (m.1 236 (Int32.toNatClampNeg a1)) (m.1 237 (Int32.toNatClampNeg a1))) fun m2 => g_X14_check_208 w rf_fuel a2 a3 a10 a11 0 m2)) else rf_g (rf_in a12 900) (rec163 a1 a2 a3 a10 a11 (a12 + 1) (rf_i m 280 (Int32.toNatClampNeg a12) (vp_nar .boolean 0))))
def g_X14_check_163 (w : rf_w) : Nat → Int32 → Int32 → Int32 → Int32 → Int32 → Int32 → rf_m → Option (Int32 × rf_m)
  | 0, _, _, _, _, _, _, _ => none
  | n + 1, a1, a2, a3, a10, a11, a12, m => g_X14_check_163_b w (g_X14_check_163 w n) a1 a2 a3 a10 a11 a12 m
def g_X14_check_135 (w : rf_w) (a1 : Int32) (a2 : Int32) (a3 : Int32) (a10 : Int32) (m : rf_m) : Option (Int32 × rf_m) := (if a10 = 0 then rf_b (g_X14_refused w m 1) fun y3 m3 => some (y3, m3) else rf_bv (g_X14_allMeans w m) fun m0 => rf_bv (g_X14_allSines w m0) fun m1 => rf_b (g_X14_allowed w m1) fun y2 m2 => g_X14_check_163 w rf_fuel a1 a2 a3 a10 y2 0 m2)
def g_X14_check_91_b (w : rf_w) (rec91 : Int32 → Int32 → Int32 → Int32 → rf_m → Option (Int32 × rf_m)) (a1 : Int32) (a2 : Int32) (a3 : Int32) (a10 : Int32) (m : rf_m) : Option (Int32 × rf_m) := (if 6 ≤ a10 then g_X14_check_135 w a1 a2 a3 a10 m else rf_g (rf_in a10 6) ((if (m.1 279 (Int32.toNatClampNeg a10)) = ((-1)) then g_X14_check_135 w a1 a2 a3 a10 m else rf_g (rf_in a10 6) (rf_b (g_X14_isTriangle w m (m.1 279 (Int32.toNatClampNeg a10))) fun y2 m2 => (if y2 = 0 then rf_b (g_X14_refused w m2 1) fun y3 m3 => some (y3, m3) else rec91 a1 a2 a3 (a10 + 1) m2)))))
def g_X14_check_91 (w : rf_w) : Nat → Int32 → Int32 → Int32 → Int32 → rf_m → Option (Int32 × rf_m)
  | 0, _, _, _, _, _ => none
  | n + 1, a1, a2, a3, a10, m => g_X14_check_91_b w (g_X14_check_91 w n) a1 a2 a3 a10 m
def g_X14_check (w : rf_w) (m : rf_m) (a1 : Int32) (a2 : Int32) (a3 : Int32) (a4 : Int32) (a5 : Int32) (a6 : Int32) (a7 : Int32) (a8 : Int32) (a9 : Int32) : Option (Int32 × rf_m) := rf_b (g_X14_isBase w (rf_i m 206 0 0) a1) fun y0 m0 => (if y0 = 0 then rf_b (g_X14_refused w m0 1) fun y1 m1 => some (y1, m1) else rf_b (g_X14_isMark w m0 a2) fun y2 m2 => (if y2 = 0 then rf_b (g_X14_refused w m2 1) fun y3 m3 => some (y3, m3) else rf_b (g_X14_isMark w m2 a3) fun y4 m4 => (if y4 = 0 then rf_b (g_X14_refused w m4 1) fun y5 m5 => some (y5, m5) else (if a2 = a3 then rf_b (g_X14_refused w m4 1) fun y6 m6 => some (y6, m6) else g_X14_check_91 w rf_fuel a1 a2 a3 0 (rf_i (rf_i (rf_i (rf_i (rf_i (rf_i m4 279 (Int32.toNatClampNeg 0) a4) 279 (Int32.toNatClampNeg 1) a5) 279 (Int32.toNatClampNeg 2) a6) 279 (Int32.toNatClampNeg 3) a7) 279 (Int32.toNatClampNeg 4) a8) 279 (Int32.toNatClampNeg 5) a9)))))
theorem s_X14_check_516_b {w : rf_w} {K : rf_K} {r : Int32 × rf_m} (C : rf_Ctx 14 cX14_check 20 10 (rf_sh w) K) (hE : rf_End (some .int) K (rf_sh w) 0 0 (some (.int r.1)) (rf_MM w r.2)) {rec208 : Int32 → Int32 → Int32 → Int32 → Int32 → rf_m → Option (Int32 × rf_m)} {rec516 : Int32 → Int32 → Int32 → Int32 → Int32 → Int32 → rf_m → Option (Int32 × rf_m)} (hr208 : ∀ (a2 : Int32) (a3 : Int32) (a10 : Int32) (a11 : Int32) (a12 : Int32) (m : rf_m), rec208 a2 a3 a10 a11 a12 m = some r → rf_V 20 (rf_sh w) K 0 0 208 ([(0, .ref 206), (2, .int a2), (3, .int a3), (10, .int a10), (11, .int a11), (12, .int a12)], [], rf_MM w m)) (hr516 : ∀ (a2 : Int32) (a3 : Int32) (a10 : Int32) (a11 : Int32) (a12 : Int32) (a16 : Int32) (m : rf_m), rec516 a2 a3 a10 a11 a12 a16 m = some r → rf_V 20 (rf_sh w) K 0 0 516 ([(0, .ref 206), (2, .int a2), (3, .int a3), (10, .int a10), (11, .int a11), (12, .int a12), (16, .int a16)], [], rf_MM w m)) (a2 : Int32) (a3 : Int32) (a10 : Int32) (a11 : Int32) (a12 : Int32) (a16 : Int32) (m : rf_m) (hg : g_X14_check_516_b w rec208 rec516 a2 a3 a10 a11 a12 a16 m = some r) : rf_V 20 (rf_sh w) K 0 0 516 ([(0, .ref 206), (2, .int a2), (3, .int a3), (10, .int a10), (11, .int a11), (12, .int a12), (16, .int a16)], [], rf_MM w m) := by
  unfold g_X14_check_516_b at hg
  refine rf_seg C [(.iload 16, 2), (.iconst 900, 3)] (pc' := 521) (S' := ([(0, .ref 206), (2, .int a2), (3, .int a3), (10, .int a10), (11, .int a11), (12, .int a12), (16, .int a16)], [.int 900, .int a16], rf_MM w m)) (by decide +kernel) rfl trivial ?_
  refine rf_icmp_ge C 23 544 (by decide +kernel) (fun hc => ?_) (fun hc => ?_)
  · replace hg := (if_pos hc).symm.trans hg
    refine rf_seg C [(.iinc 12 1, 3)] (pc' := 547) (S' := ([(12, .int (a12 + 1)), (0, .ref 206), (2, .int a2), (3, .int a3), (10, .int a10), (11, .int a11), (16, .int a16)], [], rf_MM w m)) (by decide +kernel) rfl trivial ?_
    refine rf_goto C (-339) 208 (by decide +kernel) ?_
    refine rf_few [1, 2, 3, 4, 5, 0] rfl ?_
    exact hr208 a2 a3 a10 a11 (a12 + 1) m hg
  · replace hg := (if_neg hc).symm.trans hg
    obtain ⟨q0, hg⟩ := rf_g_some hg
    obtain ⟨q1, hg⟩ := rf_g_some hg
    refine rf_seg C [(.aload 0, 1), (.invokeinterface 14 114, 3), (.iload 16, 2), (.aload 0, 1), (.invokeinterface 14 115, 3), (.iload 16, 2), (.baload, 1), (.bastore, 1), (.iinc 16 1, 3)] (pc' := 541) (S' := ([(16, .int (a16 + 1)), (0, .ref 206), (2, .int a2), (3, .int a3), (10, .int a10), (11, .int a11), (12, .int a12)], [], rf_MM w (rf_i m 280 (Int32.toNatClampNeg a16) (vp_nar .boolean (m.1 281 (Int32.toNatClampNeg a16)))))) (by decide +kernel) rfl (by exact ⟨(rf_in_of q0), (rf_in_of q1)⟩) ?_
    refine rf_goto C (-25) 516 (by decide +kernel) ?_
    refine rf_few [1, 2, 3, 4, 5, 6, 0] rfl ?_
    exact hr516 a2 a3 a10 a11 a12 (a16 + 1) (rf_i m 280 (Int32.toNatClampNeg a16) (vp_nar .boolean (m.1 281 (Int32.toNatClampNeg a16)))) hg
theorem s_X14_check_516 {w : rf_w} {K : rf_K} {r : Int32 × rf_m} (C : rf_Ctx 14 cX14_check 20 10 (rf_sh w) K) (hE : rf_End (some .int) K (rf_sh w) 0 0 (some (.int r.1)) (rf_MM w r.2)) {rec208 : Int32 → Int32 → Int32 → Int32 → Int32 → rf_m → Option (Int32 × rf_m)} (hr208 : ∀ (a2 : Int32) (a3 : Int32) (a10 : Int32) (a11 : Int32) (a12 : Int32) (m : rf_m), rec208 a2 a3 a10 a11 a12 m = some r → rf_V 20 (rf_sh w) K 0 0 208 ([(0, .ref 206), (2, .int a2), (3, .int a3), (10, .int a10), (11, .int a11), (12, .int a12)], [], rf_MM w m)) (n : Nat) : ∀ (a2 : Int32) (a3 : Int32) (a10 : Int32) (a11 : Int32) (a12 : Int32) (a16 : Int32) (m : rf_m), g_X14_check_516 w rec208 n a2 a3 a10 a11 a12 a16 m = some r → rf_V 20 (rf_sh w) K 0 0 516 ([(0, .ref 206), (2, .int a2), (3, .int a3), (10, .int a10), (11, .int a11), (12, .int a12), (16, .int a16)], [], rf_MM w m) := by
  induction n with
  | zero => intro a2 a3 a10 a11 a12 a16 m hg; cases hg
  | succ n ih => intro a2 a3 a10 a11 a12 a16 m hg; exact s_X14_check_516_b C hE hr208 ih a2 a3 a10 a11 a12 a16 m hg
theorem s_X14_check_513 {w : rf_w} {K : rf_K} {r : Int32 × rf_m} (C : rf_Ctx 14 cX14_check 20 10 (rf_sh w) K) (hE : rf_End (some .int) K (rf_sh w) 0 0 (some (.int r.1)) (rf_MM w r.2)) {rec208 : Int32 → Int32 → Int32 → Int32 → Int32 → rf_m → Option (Int32 × rf_m)} (hr208 : ∀ (a2 : Int32) (a3 : Int32) (a10 : Int32) (a11 : Int32) (a12 : Int32) (m : rf_m), rec208 a2 a3 a10 a11 a12 m = some r → rf_V 20 (rf_sh w) K 0 0 208 ([(0, .ref 206), (2, .int a2), (3, .int a3), (10, .int a10), (11, .int a11), (12, .int a12)], [], rf_MM w m)) (a2 : Int32) (a3 : Int32) (a10 : Int32) (a11 : Int32) (a12 : Int32) (m : rf_m) (hg : g_X14_check_513 w rec208 a2 a3 a10 a11 a12 m = some r) : rf_V 20 (rf_sh w) K 0 0 513 ([(0, .ref 206), (2, .int a2), (3, .int a3), (10, .int a10), (11, .int a11), (12, .int a12)], [], rf_MM w m) := by
  unfold g_X14_check_513 at hg
  refine rf_seg C [(.iconst 0, 1), (.istore 16, 2)] (pc' := 516) (S' := ([(16, .int 0), (0, .ref 206), (2, .int a2), (3, .int a3), (10, .int a10), (11, .int a11), (12, .int a12)], [], rf_MM w m)) (by decide +kernel) rfl trivial ?_
  refine rf_few [1, 2, 3, 4, 5, 6, 0] rfl ?_
  exact s_X14_check_516 C hE hr208 rf_fuel a2 a3 a10 a11 a12 0 m hg
theorem s_X14_check_465 {w : rf_w} {K : rf_K} {r : Int32 × rf_m} (C : rf_Ctx 14 cX14_check 20 10 (rf_sh w) K) (hE : rf_End (some .int) K (rf_sh w) 0 0 (some (.int r.1)) (rf_MM w r.2)) {rec208 : Int32 → Int32 → Int32 → Int32 → Int32 → rf_m → Option (Int32 × rf_m)} {rec335 : Int32 → Int32 → Int32 → Int32 → Int32 → Int32 → Int32 → Int32 → Int32 → rf_m → Option (Int32 × rf_m)} (hr208 : ∀ (a2 : Int32) (a3 : Int32) (a10 : Int32) (a11 : Int32) (a12 : Int32) (m : rf_m), rec208 a2 a3 a10 a11 a12 m = some r → rf_V 20 (rf_sh w) K 0 0 208 ([(0, .ref 206), (2, .int a2), (3, .int a3), (10, .int a10), (11, .int a11), (12, .int a12)], [], rf_MM w m)) (hr335 : ∀ (a2 : Int32) (a3 : Int32) (a10 : Int32) (a11 : Int32) (a12 : Int32) (a13 : Int32) (a14 : Int32) (a15 : Int32) (a16 : Int32) (m : rf_m), rec335 a2 a3 a10 a11 a12 a13 a14 a15 a16 m = some r → rf_V 20 (rf_sh w) K 0 0 335 ([(0, .ref 206), (2, .int a2), (3, .int a3), (10, .int a10), (11, .int a11), (12, .int a12), (13, .int a13), (14, .int a14), (15, .int a15), (16, .int a16)], [], rf_MM w m)) (a2 : Int32) (a3 : Int32) (a10 : Int32) (a11 : Int32) (a12 : Int32) (a13 : Int32) (a14 : Int32) (a15 : Int32) (a16 : Int32) (m : rf_m) (hg : g_X14_check_465 w rec208 rec335 a2 a3 a10 a11 a12 a13 a14 a15 a16 m = some r) : rf_V 20 (rf_sh w) K 0 0 465 ([(0, .ref 206), (2, .int a2), (3, .int a3), (10, .int a10), (11, .int a11), (12, .int a12), (13, .int a13), (14, .int a14), (15, .int a15), (16, .int a16)], [], rf_MM w m) := by
  unfold g_X14_check_465 at hg
  refine rf_seg C [(.iinc 16 1, 3)] (pc' := 468) (S' := ([(16, .int (a16 + 1)), (0, .ref 206), (2, .int a2), (3, .int a3), (10, .int a10), (11, .int a11), (12, .int a12), (13, .int a13), (14, .int a14), (15, .int a15)], [], rf_MM w m)) (by decide +kernel) rfl trivial ?_
  refine rf_goto C (-133) 335 (by decide +kernel) ?_
  refine rf_few [1, 2, 3, 4, 5, 6, 7, 8, 9, 0] rfl ?_
  exact hr335 a2 a3 a10 a11 a12 a13 a14 a15 (a16 + 1) m hg
theorem s_X14_check_459 {w : rf_w} {K : rf_K} {r : Int32 × rf_m} (C : rf_Ctx 14 cX14_check 20 10 (rf_sh w) K) (hE : rf_End (some .int) K (rf_sh w) 0 0 (some (.int r.1)) (rf_MM w r.2)) {rec208 : Int32 → Int32 → Int32 → Int32 → Int32 → rf_m → Option (Int32 × rf_m)} {rec335 : Int32 → Int32 → Int32 → Int32 → Int32 → Int32 → Int32 → Int32 → Int32 → rf_m → Option (Int32 × rf_m)} {rec404 : Int32 → Int32 → Int32 → Int32 → Int32 → Int32 → Int32 → Int32 → Int32 → Int32 → rf_m → Option (Int32 × rf_m)} (hr208 : ∀ (a2 : Int32) (a3 : Int32) (a10 : Int32) (a11 : Int32) (a12 : Int32) (m : rf_m), rec208 a2 a3 a10 a11 a12 m = some r → rf_V 20 (rf_sh w) K 0 0 208 ([(0, .ref 206), (2, .int a2), (3, .int a3), (10, .int a10), (11, .int a11), (12, .int a12)], [], rf_MM w m)) (hr335 : ∀ (a2 : Int32) (a3 : Int32) (a10 : Int32) (a11 : Int32) (a12 : Int32) (a13 : Int32) (a14 : Int32) (a15 : Int32) (a16 : Int32) (m : rf_m), rec335 a2 a3 a10 a11 a12 a13 a14 a15 a16 m = some r → rf_V 20 (rf_sh w) K 0 0 335 ([(0, .ref 206), (2, .int a2), (3, .int a3), (10, .int a10), (11, .int a11), (12, .int a12), (13, .int a13), (14, .int a14), (15, .int a15), (16, .int a16)], [], rf_MM w m)) (hr404 : ∀ (a2 : Int32) (a3 : Int32) (a10 : Int32) (a11 : Int32) (a12 : Int32) (a13 : Int32) (a14 : Int32) (a15 : Int32) (a16 : Int32) (a19 : Int32) (m : rf_m), rec404 a2 a3 a10 a11 a12 a13 a14 a15 a16 a19 m = some r → rf_V 20 (rf_sh w) K 0 0 404 ([(0, .ref 206), (2, .int a2), (3, .int a3), (10, .int a10), (11, .int a11), (12, .int a12), (13, .int a13), (14, .int a14), (15, .int a15), (16, .int a16), (19, .int a19)], [], rf_MM w m)) (a2 : Int32) (a3 : Int32) (a10 : Int32) (a11 : Int32) (a12 : Int32) (a13 : Int32) (a14 : Int32) (a15 : Int32) (a16 : Int32) (a19 : Int32) (m : rf_m) (hg : g_X14_check_459 w rec208 rec335 rec404 a2 a3 a10 a11 a12 a13 a14 a15 a16 a19 m = some r) : rf_V 20 (rf_sh w) K 0 0 459 ([(0, .ref 206), (2, .int a2), (3, .int a3), (10, .int a10), (11, .int a11), (12, .int a12), (13, .int a13), (14, .int a14), (15, .int a15), (16, .int a16), (19, .int a19)], [], rf_MM w m) := by
  unfold g_X14_check_459 at hg
  refine rf_seg C [(.iinc 19 1, 3)] (pc' := 462) (S' := ([(19, .int (a19 + 1)), (0, .ref 206), (2, .int a2), (3, .int a3), (10, .int a10), (11, .int a11), (12, .int a12), (13, .int a13), (14, .int a14), (15, .int a15), (16, .int a16)], [], rf_MM w m)) (by decide +kernel) rfl trivial ?_
  refine rf_goto C (-58) 404 (by decide +kernel) ?_
  refine rf_few [1, 2, 3, 4, 5, 6, 7, 8, 9, 10, 0] rfl ?_
  exact hr404 a2 a3 a10 a11 a12 a13 a14 a15 a16 (a19 + 1) m hg
theorem s_X14_check_404_b {w : rf_w} {K : rf_K} {r : Int32 × rf_m} (C : rf_Ctx 14 cX14_check 20 10 (rf_sh w) K) (hE : rf_End (some .int) K (rf_sh w) 0 0 (some (.int r.1)) (rf_MM w r.2)) {rec208 : Int32 → Int32 → Int32 → Int32 → Int32 → rf_m → Option (Int32 × rf_m)} {rec335 : Int32 → Int32 → Int32 → Int32 → Int32 → Int32 → Int32 → Int32 → Int32 → rf_m → Option (Int32 × rf_m)} {rec404 : Int32 → Int32 → Int32 → Int32 → Int32 → Int32 → Int32 → Int32 → Int32 → Int32 → rf_m → Option (Int32 × rf_m)} (hr208 : ∀ (a2 : Int32) (a3 : Int32) (a10 : Int32) (a11 : Int32) (a12 : Int32) (m : rf_m), rec208 a2 a3 a10 a11 a12 m = some r → rf_V 20 (rf_sh w) K 0 0 208 ([(0, .ref 206), (2, .int a2), (3, .int a3), (10, .int a10), (11, .int a11), (12, .int a12)], [], rf_MM w m)) (hr335 : ∀ (a2 : Int32) (a3 : Int32) (a10 : Int32) (a11 : Int32) (a12 : Int32) (a13 : Int32) (a14 : Int32) (a15 : Int32) (a16 : Int32) (m : rf_m), rec335 a2 a3 a10 a11 a12 a13 a14 a15 a16 m = some r → rf_V 20 (rf_sh w) K 0 0 335 ([(0, .ref 206), (2, .int a2), (3, .int a3), (10, .int a10), (11, .int a11), (12, .int a12), (13, .int a13), (14, .int a14), (15, .int a15), (16, .int a16)], [], rf_MM w m)) (hr404 : ∀ (a2 : Int32) (a3 : Int32) (a10 : Int32) (a11 : Int32) (a12 : Int32) (a13 : Int32) (a14 : Int32) (a15 : Int32) (a16 : Int32) (a19 : Int32) (m : rf_m), rec404 a2 a3 a10 a11 a12 a13 a14 a15 a16 a19 m = some r → rf_V 20 (rf_sh w) K 0 0 404 ([(0, .ref 206), (2, .int a2), (3, .int a3), (10, .int a10), (11, .int a11), (12, .int a12), (13, .int a13), (14, .int a14), (15, .int a15), (16, .int a16), (19, .int a19)], [], rf_MM w m)) (a2 : Int32) (a3 : Int32) (a10 : Int32) (a11 : Int32) (a12 : Int32) (a13 : Int32) (a14 : Int32) (a15 : Int32) (a16 : Int32) (a19 : Int32) (m : rf_m) (hg : g_X14_check_404_b w rec208 rec335 rec404 a2 a3 a10 a11 a12 a13 a14 a15 a16 a19 m = some r) : rf_V 20 (rf_sh w) K 0 0 404 ([(0, .ref 206), (2, .int a2), (3, .int a3), (10, .int a10), (11, .int a11), (12, .int a12), (13, .int a13), (14, .int a14), (15, .int a15), (16, .int a16), (19, .int a19)], [], rf_MM w m) := by
  unfold g_X14_check_404_b at hg
  refine rf_seg C [(.iload 19, 2), (.iconst 3, 1)] (pc' := 407) (S' := ([(0, .ref 206), (2, .int a2), (3, .int a3), (10, .int a10), (11, .int a11), (12, .int a12), (13, .int a13), (14, .int a14), (15, .int a15), (16, .int a16), (19, .int a19)], [.int 3, .int a19], rf_MM w m)) (by decide +kernel) rfl trivial ?_
  refine rf_icmp_ge C 58 465 (by decide +kernel) (fun hc => ?_) (fun hc => ?_)
  · replace hg := (if_pos hc).symm.trans hg
    refine rf_few [0, 1, 2, 3, 4, 5, 6, 7, 8, 9] rfl ?_
    exact s_X14_check_465 C hE hr208 hr335 a2 a3 a10 a11 a12 a13 a14 a15 a16 m hg
  · replace hg := (if_neg hc).symm.trans hg
    refine rf_seg C [(.iload 19, 2), (.iload 16, 2)] (pc' := 414) (S' := ([(0, .ref 206), (2, .int a2), (3, .int a3), (10, .int a10), (11, .int a11), (12, .int a12), (13, .int a13), (14, .int a14), (15, .int a15), (16, .int a16), (19, .int a19)], [.int a16, .int a19], rf_MM w m)) (by decide +kernel) rfl trivial ?_
    refine rf_icmp_eq C 45 459 (by decide +kernel) (fun hc => ?_) (fun hc => ?_)
    · replace hg := (if_pos hc).symm.trans hg
      refine rf_few [0, 1, 2, 3, 4, 5, 6, 7, 8, 9, 10] rfl ?_
      exact s_X14_check_459 C hE hr208 hr335 hr404 a2 a3 a10 a11 a12 a13 a14 a15 a16 a19 m hg
    · replace hg := (if_neg hc).symm.trans hg
      obtain ⟨q0, hg⟩ := rf_g_some hg
      obtain ⟨q1, hg⟩ := rf_g_some hg
      obtain ⟨q2, hg⟩ := rf_g_some hg
      obtain ⟨q3, hg⟩ := rf_g_some hg
      refine rf_seg C [(.aload 0, 1), (.aload 0, 1), (.invokeinterface 14 115, 3), (.aload 0, 1), (.invokeinterface 14 22, 3), (.aload 0, 1), (.invokeinterface 14 66, 3), (.iconst 3, 1), (.iload 13, 2), (.imul, 1), (.iload 19, 2), (.iadd, 1), (.iaload, 1), (.iaload, 1), (.aload 0, 1), (.invokeinterface 14 23, 3), (.aload 0, 1), (.invokeinterface 14 66, 3), (.iconst 3, 1), (.iload 13, 2), (.imul, 1), (.iload 19, 2), (.iadd, 1), (.iaload, 1), (.iaload, 1)] (pc' := 456) (S' := ([(0, .ref 206), (2, .int a2), (3, .int a3), (10, .int a10), (11, .int a11), (12, .int a12), (13, .int a13), (14, .int a14), (15, .int a15), (16, .int a16), (19, .int a19)], [.int (m.1 219 (Int32.toNatClampNeg (m.1 243 (Int32.toNatClampNeg ((3 * a13) + a19))))), .int (m.1 218 (Int32.toNatClampNeg (m.1 243 (Int32.toNatClampNeg ((3 * a13) + a19))))), .ref 281, .ref 206], rf_MM w m)) (by decide +kernel) rfl (by exact ⟨(rf_in_of q0), (rf_in_of q1), (rf_in_of q2), (rf_in_of q3)⟩) ?_
      obtain ⟨m4, hc4, hg⟩ := rf_bv_some hg
      refine rf_callv C rf_fit0 j_X14_allows__281 (ci := 14) (As := [.ref 281, .int (m.1 218 (Int32.toNatClampNeg (m.1 243 (Int32.toNatClampNeg ((3 * a13) + a19))))), .int (m.1 219 (Int32.toNatClampNeg (m.1 243 (Int32.toNatClampNeg ((3 * a13) + a19)))))]) (rest := []) mw_X14_allows__281 (c_X14_allows__281 hc4) (by decide) rfl (by decide) lk_14_854 rfl rfl (Nat.le_of_ble_eq_true rfl) (by decide +kernel) ?_
      show rf_V 20 (rf_sh w) K 0 0 459 ([(0, .ref 206), (2, .int a2), (3, .int a3), (10, .int a10), (11, .int a11), (12, .int a12), (13, .int a13), (14, .int a14), (15, .int a15), (16, .int a16), (19, .int a19)], [], rf_MM w m4)
      refine rf_few [0, 1, 2, 3, 4, 5, 6, 7, 8, 9, 10] rfl ?_
      exact s_X14_check_459 C hE hr208 hr335 hr404 a2 a3 a10 a11 a12 a13 a14 a15 a16 a19 m4 hg
theorem s_X14_check_404 {w : rf_w} {K : rf_K} {r : Int32 × rf_m} (C : rf_Ctx 14 cX14_check 20 10 (rf_sh w) K) (hE : rf_End (some .int) K (rf_sh w) 0 0 (some (.int r.1)) (rf_MM w r.2)) {rec208 : Int32 → Int32 → Int32 → Int32 → Int32 → rf_m → Option (Int32 × rf_m)} {rec335 : Int32 → Int32 → Int32 → Int32 → Int32 → Int32 → Int32 → Int32 → Int32 → rf_m → Option (Int32 × rf_m)} (hr208 : ∀ (a2 : Int32) (a3 : Int32) (a10 : Int32) (a11 : Int32) (a12 : Int32) (m : rf_m), rec208 a2 a3 a10 a11 a12 m = some r → rf_V 20 (rf_sh w) K 0 0 208 ([(0, .ref 206), (2, .int a2), (3, .int a3), (10, .int a10), (11, .int a11), (12, .int a12)], [], rf_MM w m)) (hr335 : ∀ (a2 : Int32) (a3 : Int32) (a10 : Int32) (a11 : Int32) (a12 : Int32) (a13 : Int32) (a14 : Int32) (a15 : Int32) (a16 : Int32) (m : rf_m), rec335 a2 a3 a10 a11 a12 a13 a14 a15 a16 m = some r → rf_V 20 (rf_sh w) K 0 0 335 ([(0, .ref 206), (2, .int a2), (3, .int a3), (10, .int a10), (11, .int a11), (12, .int a12), (13, .int a13), (14, .int a14), (15, .int a15), (16, .int a16)], [], rf_MM w m)) (n : Nat) : ∀ (a2 : Int32) (a3 : Int32) (a10 : Int32) (a11 : Int32) (a12 : Int32) (a13 : Int32) (a14 : Int32) (a15 : Int32) (a16 : Int32) (a19 : Int32) (m : rf_m), g_X14_check_404 w rec208 rec335 n a2 a3 a10 a11 a12 a13 a14 a15 a16 a19 m = some r → rf_V 20 (rf_sh w) K 0 0 404 ([(0, .ref 206), (2, .int a2), (3, .int a3), (10, .int a10), (11, .int a11), (12, .int a12), (13, .int a13), (14, .int a14), (15, .int a15), (16, .int a16), (19, .int a19)], [], rf_MM w m) := by
  induction n with
  | zero => intro a2 a3 a10 a11 a12 a13 a14 a15 a16 a19 m hg; cases hg
  | succ n ih => intro a2 a3 a10 a11 a12 a13 a14 a15 a16 a19 m hg; exact s_X14_check_404_b C hE hr208 hr335 ih a2 a3 a10 a11 a12 a13 a14 a15 a16 a19 m hg
theorem s_X14_check_335_b {w : rf_w} {K : rf_K} {r : Int32 × rf_m} (C : rf_Ctx 14 cX14_check 20 10 (rf_sh w) K) (hE : rf_End (some .int) K (rf_sh w) 0 0 (some (.int r.1)) (rf_MM w r.2)) {rec208 : Int32 → Int32 → Int32 → Int32 → Int32 → rf_m → Option (Int32 × rf_m)} {rec335 : Int32 → Int32 → Int32 → Int32 → Int32 → Int32 → Int32 → Int32 → Int32 → rf_m → Option (Int32 × rf_m)} (hr208 : ∀ (a2 : Int32) (a3 : Int32) (a10 : Int32) (a11 : Int32) (a12 : Int32) (m : rf_m), rec208 a2 a3 a10 a11 a12 m = some r → rf_V 20 (rf_sh w) K 0 0 208 ([(0, .ref 206), (2, .int a2), (3, .int a3), (10, .int a10), (11, .int a11), (12, .int a12)], [], rf_MM w m)) (hr335 : ∀ (a2 : Int32) (a3 : Int32) (a10 : Int32) (a11 : Int32) (a12 : Int32) (a13 : Int32) (a14 : Int32) (a15 : Int32) (a16 : Int32) (m : rf_m), rec335 a2 a3 a10 a11 a12 a13 a14 a15 a16 m = some r → rf_V 20 (rf_sh w) K 0 0 335 ([(0, .ref 206), (2, .int a2), (3, .int a3), (10, .int a10), (11, .int a11), (12, .int a12), (13, .int a13), (14, .int a14), (15, .int a15), (16, .int a16)], [], rf_MM w m)) (a2 : Int32) (a3 : Int32) (a10 : Int32) (a11 : Int32) (a12 : Int32) (a13 : Int32) (a14 : Int32) (a15 : Int32) (a16 : Int32) (m : rf_m) (hg : g_X14_check_335_b w rec208 rec335 a2 a3 a10 a11 a12 a13 a14 a15 a16 m = some r) : rf_V 20 (rf_sh w) K 0 0 335 ([(0, .ref 206), (2, .int a2), (3, .int a3), (10, .int a10), (11, .int a11), (12, .int a12), (13, .int a13), (14, .int a14), (15, .int a15), (16, .int a16)], [], rf_MM w m) := by
  unfold g_X14_check_335_b at hg
  refine rf_seg C [(.iload 16, 2), (.iconst 3, 1)] (pc' := 338) (S' := ([(0, .ref 206), (2, .int a2), (3, .int a3), (10, .int a10), (11, .int a11), (12, .int a12), (13, .int a13), (14, .int a14), (15, .int a15), (16, .int a16)], [.int 3, .int a16], rf_MM w m)) (by decide +kernel) rfl trivial ?_
  refine rf_icmp_ge C 133 471 (by decide +kernel) (fun hc => ?_) (fun hc => ?_)
  · replace hg := (if_pos hc).symm.trans hg
    refine rf_seg C [(.iload 14, 2)] (pc' := 473) (S' := ([(0, .ref 206), (2, .int a2), (3, .int a3), (10, .int a10), (11, .int a11), (12, .int a12), (13, .int a13), (14, .int a14), (15, .int a15), (16, .int a16)], [.int a14], rf_MM w m)) (by decide +kernel) rfl trivial ?_
    refine rf_if_eq C 31 504 (by decide +kernel) (fun hc => ?_) (fun hc => ?_)
    · replace hg := (if_pos hc).symm.trans hg
      refine rf_seg C [(.aload 0, 1), (.iconst 1, 1), (.iload 12, 2), (.iadd, 1)] (pc' := 509) (S' := ([(0, .ref 206), (2, .int a2), (3, .int a3), (10, .int a10), (11, .int a11), (12, .int a12), (13, .int a13), (14, .int a14), (15, .int a15), (16, .int a16)], [.int (1 + a12), .ref 206], rf_MM w m)) (by decide +kernel) rfl trivial ?_
      obtain ⟨y0, m0, hc0, hg⟩ := rf_b_some hg
      refine rf_callv C rf_fit0 j_X14_done (ci := 14) (As := [.int (1 + a12)]) (rest := []) mw_X14_done (c_X14_done hc0) (by decide) rfl (by decide) lk_14_357 rfl rfl (Nat.le_of_ble_eq_true rfl) (by decide +kernel) ?_
      show rf_V 20 (rf_sh w) K 0 0 512 ([(0, .ref 206), (2, .int a2), (3, .int a3), (10, .int a10), (11, .int a11), (12, .int a12), (13, .int a13), (14, .int a14), (15, .int a15), (16, .int a16)], [.int y0], rf_MM w m0)
      obtain rfl := Option.some.inj hg
      exact rf_iret C hE (by decide +kernel)
    · replace hg := (if_neg hc).symm.trans hg
      refine rf_seg C [(.iload 15, 2)] (pc' := 478) (S' := ([(0, .ref 206), (2, .int a2), (3, .int a3), (10, .int a10), (11, .int a11), (12, .int a12), (13, .int a13), (14, .int a14), (15, .int a15), (16, .int a16)], [.int a15], rf_MM w m)) (by decide +kernel) rfl trivial ?_
      refine rf_if_eq C 26 504 (by decide +kernel) (fun hc => ?_) (fun hc => ?_)
      · replace hg := (if_pos hc).symm.trans hg
        refine rf_seg C [(.aload 0, 1), (.iconst 1, 1), (.iload 12, 2), (.iadd, 1)] (pc' := 509) (S' := ([(0, .ref 206), (2, .int a2), (3, .int a3), (10, .int a10), (11, .int a11), (12, .int a12), (13, .int a13), (14, .int a14), (15, .int a15), (16, .int a16)], [.int (1 + a12), .ref 206], rf_MM w m)) (by decide +kernel) rfl trivial ?_
        obtain ⟨y1, m1, hc1, hg⟩ := rf_b_some hg
        refine rf_callv C rf_fit0 j_X14_done (ci := 14) (As := [.int (1 + a12)]) (rest := []) mw_X14_done (c_X14_done hc1) (by decide) rfl (by decide) lk_14_357 rfl rfl (Nat.le_of_ble_eq_true rfl) (by decide +kernel) ?_
        show rf_V 20 (rf_sh w) K 0 0 512 ([(0, .ref 206), (2, .int a2), (3, .int a3), (10, .int a10), (11, .int a11), (12, .int a12), (13, .int a13), (14, .int a14), (15, .int a15), (16, .int a16)], [.int y1], rf_MM w m1)
        obtain rfl := Option.some.inj hg
        exact rf_iret C hE (by decide +kernel)
      · replace hg := (if_neg hc).symm.trans hg
        refine rf_seg C [(.iload 12, 2), (.iload 10, 2), (.iconst 1, 1), (.isub, 1)] (pc' := 487) (S' := ([(0, .ref 206), (2, .int a2), (3, .int a3), (10, .int a10), (11, .int a11), (12, .int a12), (13, .int a13), (14, .int a14), (15, .int a15), (16, .int a16)], [.int (a10 - 1), .int a12], rf_MM w m)) (by decide +kernel) rfl trivial ?_
        refine rf_icmp_ne C 26 513 (by decide +kernel) (fun hc => ?_) (fun hc => ?_)
        · replace hg := (if_neg hc).symm.trans hg
          refine rf_few [0, 1, 2, 3, 4, 5] rfl ?_
          exact s_X14_check_513 C hE hr208 a2 a3 a10 a11 a12 m hg
        · replace hg := (if_pos hc).symm.trans hg
          obtain ⟨q2, hg⟩ := rf_g_some hg
          refine rf_seg C [(.aload 0, 1), (.invokeinterface 14 115, 3), (.iconst 30, 2), (.iload 2, 1), (.imul, 1), (.iload 3, 1), (.iadd, 1), (.baload, 1)] (pc' := 501) (S' := ([(0, .ref 206), (2, .int a2), (3, .int a3), (10, .int a10), (11, .int a11), (12, .int a12), (13, .int a13), (14, .int a14), (15, .int a15), (16, .int a16)], [.int (m.1 281 (Int32.toNatClampNeg ((30 * a2) + a3)))], rf_MM w m)) (by decide +kernel) rfl (rf_in_of q2) ?_
          refine rf_if_ne C 12 513 (by decide +kernel) (fun hc => ?_) (fun hc => ?_)
          · replace hg := (if_neg hc).symm.trans hg
            refine rf_few [0, 1, 2, 3, 4, 5] rfl ?_
            exact s_X14_check_513 C hE hr208 a2 a3 a10 a11 a12 m hg
          · replace hg := (if_pos hc).symm.trans hg
            refine rf_seg C [(.aload 0, 1), (.iconst 1, 1), (.iload 12, 2), (.iadd, 1)] (pc' := 509) (S' := ([(0, .ref 206), (2, .int a2), (3, .int a3), (10, .int a10), (11, .int a11), (12, .int a12), (13, .int a13), (14, .int a14), (15, .int a15), (16, .int a16)], [.int (1 + a12), .ref 206], rf_MM w m)) (by decide +kernel) rfl trivial ?_
            obtain ⟨y3, m3, hc3, hg⟩ := rf_b_some hg
            refine rf_callv C rf_fit0 j_X14_done (ci := 14) (As := [.int (1 + a12)]) (rest := []) mw_X14_done (c_X14_done hc3) (by decide) rfl (by decide) lk_14_357 rfl rfl (Nat.le_of_ble_eq_true rfl) (by decide +kernel) ?_
            show rf_V 20 (rf_sh w) K 0 0 512 ([(0, .ref 206), (2, .int a2), (3, .int a3), (10, .int a10), (11, .int a11), (12, .int a12), (13, .int a13), (14, .int a14), (15, .int a15), (16, .int a16)], [.int y3], rf_MM w m3)
            obtain rfl := Option.some.inj hg
            exact rf_iret C hE (by decide +kernel)
  · replace hg := (if_neg hc).symm.trans hg
    obtain ⟨q4, hg⟩ := rf_g_some hg
    obtain ⟨q5, hg⟩ := rf_g_some hg
    refine rf_seg C [(.aload 0, 1), (.invokeinterface 14 22, 3), (.aload 0, 1), (.invokeinterface 14 66, 3), (.iconst 3, 1), (.iload 13, 2), (.imul, 1), (.iload 16, 2), (.iadd, 1), (.iaload, 1), (.iaload, 1)] (pc' := 358) (S' := ([(0, .ref 206), (2, .int a2), (3, .int a3), (10, .int a10), (11, .int a11), (12, .int a12), (13, .int a13), (14, .int a14), (15, .int a15), (16, .int a16)], [.int (m.1 218 (Int32.toNatClampNeg (m.1 243 (Int32.toNatClampNeg ((3 * a13) + a16)))))], rf_MM w m)) (by decide +kernel) rfl (by exact ⟨(rf_in_of q4), (rf_in_of q5)⟩) ?_
    obtain ⟨x6, hx6, hg⟩ := rf_vi_some hg
    refine rf_vi_top hx6 ?_
    obtain ⟨q7, hg⟩ := rf_g_some hg
    obtain ⟨q8, hg⟩ := rf_g_some hg
    refine rf_seg C [(.istore 17, 2), (.aload 0, 1), (.invokeinterface 14 23, 3), (.aload 0, 1), (.invokeinterface 14 66, 3), (.iconst 3, 1), (.iload 13, 2), (.imul, 1), (.iload 16, 2), (.iadd, 1), (.iaload, 1), (.iaload, 1)] (pc' := 377) (S' := ([(17, .int x6), (0, .ref 206), (2, .int a2), (3, .int a3), (10, .int a10), (11, .int a11), (12, .int a12), (13, .int a13), (14, .int a14), (15, .int a15), (16, .int a16)], [.int (m.1 219 (Int32.toNatClampNeg (m.1 243 (Int32.toNatClampNeg ((3 * a13) + a16)))))], rf_MM w m)) (by decide +kernel) rfl (by exact ⟨(rf_in_of q7), (rf_in_of q8)⟩) ?_
    obtain ⟨x9, hx9, hg⟩ := rf_vi_some hg
    refine rf_vi_top hx9 ?_
    obtain ⟨q10, hg⟩ := rf_g_some hg
    refine rf_seg C [(.istore 18, 2), (.aload 0, 1), (.invokeinterface 14 114, 3), (.iconst 30, 2), (.iload 17, 2), (.imul, 1), (.iload 18, 2), (.iadd, 1), (.baload, 1)] (pc' := 392) (S' := ([(18, .int x9), (17, .int x6), (0, .ref 206), (2, .int a2), (3, .int a3), (10, .int a10), (11, .int a11), (12, .int a12), (13, .int a13), (14, .int a14), (15, .int a15), (16, .int a16)], [.int (m.1 280 (Int32.toNatClampNeg ((30 * x6) + x9)))], rf_MM w m)) (by decide +kernel) rfl (rf_in_of q10) ?_
    refine rf_if_ne C 6 398 (by decide +kernel) (fun hc => ?_) (fun hc => ?_)
    · replace hg := (if_neg hc).symm.trans hg
      refine rf_seg C [(.iconst 1, 1), (.istore 15, 2), (.iconst 0, 1), (.istore 19, 2)] (pc' := 404) (S' := ([(19, .int 0), (15, .int 1), (18, .int x9), (17, .int x6), (0, .ref 206), (2, .int a2), (3, .int a3), (10, .int a10), (11, .int a11), (12, .int a12), (13, .int a13), (14, .int a14), (16, .int a16)], [], rf_MM w m)) (by decide +kernel) rfl trivial ?_
      refine rf_few [4, 5, 6, 7, 8, 9, 10, 11, 1, 12, 0] rfl ?_
      exact s_X14_check_404 C hE hr208 hr335 rf_fuel a2 a3 a10 a11 a12 a13 a14 1 a16 0 m hg
    · replace hg := (if_pos hc).symm.trans hg
      refine rf_goto C 70 465 (by decide +kernel) ?_
      refine rf_few [2, 3, 4, 5, 6, 7, 8, 9, 10, 11] rfl ?_
      exact s_X14_check_465 C hE hr208 hr335 a2 a3 a10 a11 a12 a13 a14 a15 a16 m hg
theorem s_X14_check_335 {w : rf_w} {K : rf_K} {r : Int32 × rf_m} (C : rf_Ctx 14 cX14_check 20 10 (rf_sh w) K) (hE : rf_End (some .int) K (rf_sh w) 0 0 (some (.int r.1)) (rf_MM w r.2)) {rec208 : Int32 → Int32 → Int32 → Int32 → Int32 → rf_m → Option (Int32 × rf_m)} (hr208 : ∀ (a2 : Int32) (a3 : Int32) (a10 : Int32) (a11 : Int32) (a12 : Int32) (m : rf_m), rec208 a2 a3 a10 a11 a12 m = some r → rf_V 20 (rf_sh w) K 0 0 208 ([(0, .ref 206), (2, .int a2), (3, .int a3), (10, .int a10), (11, .int a11), (12, .int a12)], [], rf_MM w m)) (n : Nat) : ∀ (a2 : Int32) (a3 : Int32) (a10 : Int32) (a11 : Int32) (a12 : Int32) (a13 : Int32) (a14 : Int32) (a15 : Int32) (a16 : Int32) (m : rf_m), g_X14_check_335 w rec208 n a2 a3 a10 a11 a12 a13 a14 a15 a16 m = some r → rf_V 20 (rf_sh w) K 0 0 335 ([(0, .ref 206), (2, .int a2), (3, .int a3), (10, .int a10), (11, .int a11), (12, .int a12), (13, .int a13), (14, .int a14), (15, .int a15), (16, .int a16)], [], rf_MM w m) := by
  induction n with
  | zero => intro a2 a3 a10 a11 a12 a13 a14 a15 a16 m hg; cases hg
  | succ n ih => intro a2 a3 a10 a11 a12 a13 a14 a15 a16 m hg; exact s_X14_check_335_b C hE hr208 ih a2 a3 a10 a11 a12 a13 a14 a15 a16 m hg
theorem s_X14_check_307_b {w : rf_w} {K : rf_K} {r : Int32 × rf_m} (C : rf_Ctx 14 cX14_check 20 10 (rf_sh w) K) (hE : rf_End (some .int) K (rf_sh w) 0 0 (some (.int r.1)) (rf_MM w r.2)) {rec208 : Int32 → Int32 → Int32 → Int32 → Int32 → rf_m → Option (Int32 × rf_m)} {rec307 : Int32 → Int32 → Int32 → Int32 → Int32 → Int32 → Int32 → Int32 → rf_m → Option (Int32 × rf_m)} (hr208 : ∀ (a2 : Int32) (a3 : Int32) (a10 : Int32) (a11 : Int32) (a12 : Int32) (m : rf_m), rec208 a2 a3 a10 a11 a12 m = some r → rf_V 20 (rf_sh w) K 0 0 208 ([(0, .ref 206), (2, .int a2), (3, .int a3), (10, .int a10), (11, .int a11), (12, .int a12)], [], rf_MM w m)) (hr307 : ∀ (a2 : Int32) (a3 : Int32) (a10 : Int32) (a11 : Int32) (a12 : Int32) (a13 : Int32) (a14 : Int32) (a15 : Int32) (m : rf_m), rec307 a2 a3 a10 a11 a12 a13 a14 a15 m = some r → rf_V 20 (rf_sh w) K 0 0 307 ([(0, .ref 206), (2, .int a2), (3, .int a3), (10, .int a10), (11, .int a11), (12, .int a12), (13, .int a13), (14, .int a14), (15, .int a15)], [], rf_MM w m)) (a2 : Int32) (a3 : Int32) (a10 : Int32) (a11 : Int32) (a12 : Int32) (a13 : Int32) (a14 : Int32) (a15 : Int32) (m : rf_m) (hg : g_X14_check_307_b w rec208 rec307 a2 a3 a10 a11 a12 a13 a14 a15 m = some r) : rf_V 20 (rf_sh w) K 0 0 307 ([(0, .ref 206), (2, .int a2), (3, .int a3), (10, .int a10), (11, .int a11), (12, .int a12), (13, .int a13), (14, .int a14), (15, .int a15)], [], rf_MM w m) := by
  unfold g_X14_check_307_b at hg
  refine rf_seg C [(.iload 15, 2), (.iconst 900, 3)] (pc' := 312) (S' := ([(0, .ref 206), (2, .int a2), (3, .int a3), (10, .int a10), (11, .int a11), (12, .int a12), (13, .int a13), (14, .int a14), (15, .int a15)], [.int 900, .int a15], rf_MM w m)) (by decide +kernel) rfl trivial ?_
  refine rf_icmp_ge C 17 329 (by decide +kernel) (fun hc => ?_) (fun hc => ?_)
  · replace hg := (if_pos hc).symm.trans hg
    refine rf_seg C [(.iconst 0, 1), (.istore 15, 2), (.iconst 0, 1), (.istore 16, 2)] (pc' := 335) (S' := ([(16, .int 0), (15, .int 0), (0, .ref 206), (2, .int a2), (3, .int a3), (10, .int a10), (11, .int a11), (12, .int a12), (13, .int a13), (14, .int a14)], [], rf_MM w m)) (by decide +kernel) rfl trivial ?_
    refine rf_few [2, 3, 4, 5, 6, 7, 8, 9, 1, 0] rfl ?_
    exact s_X14_check_335 C hE hr208 rf_fuel a2 a3 a10 a11 a12 a13 a14 0 0 m hg
  · replace hg := (if_neg hc).symm.trans hg
    obtain ⟨q0, hg⟩ := rf_g_some hg
    refine rf_seg C [(.aload 0, 1), (.invokeinterface 14 115, 3), (.iload 15, 2), (.iconst 0, 1), (.bastore, 1), (.iinc 15 1, 3)] (pc' := 326) (S' := ([(15, .int (a15 + 1)), (0, .ref 206), (2, .int a2), (3, .int a3), (10, .int a10), (11, .int a11), (12, .int a12), (13, .int a13), (14, .int a14)], [], rf_MM w (rf_i m 281 (Int32.toNatClampNeg a15) (vp_nar .boolean 0)))) (by decide +kernel) rfl (rf_in_of q0) ?_
    refine rf_goto C (-19) 307 (by decide +kernel) ?_
    refine rf_few [1, 2, 3, 4, 5, 6, 7, 8, 0] rfl ?_
    exact hr307 a2 a3 a10 a11 a12 a13 a14 (a15 + 1) (rf_i m 281 (Int32.toNatClampNeg a15) (vp_nar .boolean 0)) hg
theorem s_X14_check_307 {w : rf_w} {K : rf_K} {r : Int32 × rf_m} (C : rf_Ctx 14 cX14_check 20 10 (rf_sh w) K) (hE : rf_End (some .int) K (rf_sh w) 0 0 (some (.int r.1)) (rf_MM w r.2)) {rec208 : Int32 → Int32 → Int32 → Int32 → Int32 → rf_m → Option (Int32 × rf_m)} (hr208 : ∀ (a2 : Int32) (a3 : Int32) (a10 : Int32) (a11 : Int32) (a12 : Int32) (m : rf_m), rec208 a2 a3 a10 a11 a12 m = some r → rf_V 20 (rf_sh w) K 0 0 208 ([(0, .ref 206), (2, .int a2), (3, .int a3), (10, .int a10), (11, .int a11), (12, .int a12)], [], rf_MM w m)) (n : Nat) : ∀ (a2 : Int32) (a3 : Int32) (a10 : Int32) (a11 : Int32) (a12 : Int32) (a13 : Int32) (a14 : Int32) (a15 : Int32) (m : rf_m), g_X14_check_307 w rec208 n a2 a3 a10 a11 a12 a13 a14 a15 m = some r → rf_V 20 (rf_sh w) K 0 0 307 ([(0, .ref 206), (2, .int a2), (3, .int a3), (10, .int a10), (11, .int a11), (12, .int a12), (13, .int a13), (14, .int a14), (15, .int a15)], [], rf_MM w m) := by
  induction n with
  | zero => intro a2 a3 a10 a11 a12 a13 a14 a15 m hg; cases hg
  | succ n ih => intro a2 a3 a10 a11 a12 a13 a14 a15 m hg; exact s_X14_check_307_b C hE hr208 ih a2 a3 a10 a11 a12 a13 a14 a15 m hg
theorem s_X14_check_296 {w : rf_w} {K : rf_K} {r : Int32 × rf_m} (C : rf_Ctx 14 cX14_check 20 10 (rf_sh w) K) (hE : rf_End (some .int) K (rf_sh w) 0 0 (some (.int r.1)) (rf_MM w r.2)) {rec208 : Int32 → Int32 → Int32 → Int32 → Int32 → rf_m → Option (Int32 × rf_m)} {rec267 : Int32 → Int32 → Int32 → Int32 → Int32 → Int32 → Int32 → Int32 → rf_m → Option (Int32 × rf_m)} (hr208 : ∀ (a2 : Int32) (a3 : Int32) (a10 : Int32) (a11 : Int32) (a12 : Int32) (m : rf_m), rec208 a2 a3 a10 a11 a12 m = some r → rf_V 20 (rf_sh w) K 0 0 208 ([(0, .ref 206), (2, .int a2), (3, .int a3), (10, .int a10), (11, .int a11), (12, .int a12)], [], rf_MM w m)) (hr267 : ∀ (a2 : Int32) (a3 : Int32) (a10 : Int32) (a11 : Int32) (a12 : Int32) (a13 : Int32) (a14 : Int32) (a15 : Int32) (m : rf_m), rec267 a2 a3 a10 a11 a12 a13 a14 a15 m = some r → rf_V 20 (rf_sh w) K 0 0 267 ([(0, .ref 206), (2, .int a2), (3, .int a3), (10, .int a10), (11, .int a11), (12, .int a12), (13, .int a13), (14, .int a14), (15, .int a15)], [], rf_MM w m)) (a2 : Int32) (a3 : Int32) (a10 : Int32) (a11 : Int32) (a12 : Int32) (a13 : Int32) (a15 : Int32) (s0 : Int32) (m : rf_m) (hg : g_X14_check_296 w rec208 rec267 a2 a3 a10 a11 a12 a13 a15 s0 m = some r) : rf_V 20 (rf_sh w) K 0 0 296 ([(0, .ref 206), (2, .int a2), (3, .int a3), (10, .int a10), (11, .int a11), (12, .int a12), (13, .int a13), (15, .int a15)], [.int s0], rf_MM w m) := by
  unfold g_X14_check_296 at hg
  refine rf_seg C [(.istore 14, 2), (.iinc 15 1, 3)] (pc' := 301) (S' := ([(15, .int (a15 + 1)), (14, .int s0), (0, .ref 206), (2, .int a2), (3, .int a3), (10, .int a10), (11, .int a11), (12, .int a12), (13, .int a13)], [], rf_MM w m)) (by decide +kernel) rfl trivial ?_
  refine rf_goto C (-34) 267 (by decide +kernel) ?_
  refine rf_few [2, 3, 4, 5, 6, 7, 8, 1, 0] rfl ?_
  exact hr267 a2 a3 a10 a11 a12 a13 s0 (a15 + 1) m hg
theorem s_X14_check_295 {w : rf_w} {K : rf_K} {r : Int32 × rf_m} (C : rf_Ctx 14 cX14_check 20 10 (rf_sh w) K) (hE : rf_End (some .int) K (rf_sh w) 0 0 (some (.int r.1)) (rf_MM w r.2)) {rec208 : Int32 → Int32 → Int32 → Int32 → Int32 → rf_m → Option (Int32 × rf_m)} {rec267 : Int32 → Int32 → Int32 → Int32 → Int32 → Int32 → Int32 → Int32 → rf_m → Option (Int32 × rf_m)} (hr208 : ∀ (a2 : Int32) (a3 : Int32) (a10 : Int32) (a11 : Int32) (a12 : Int32) (m : rf_m), rec208 a2 a3 a10 a11 a12 m = some r → rf_V 20 (rf_sh w) K 0 0 208 ([(0, .ref 206), (2, .int a2), (3, .int a3), (10, .int a10), (11, .int a11), (12, .int a12)], [], rf_MM w m)) (hr267 : ∀ (a2 : Int32) (a3 : Int32) (a10 : Int32) (a11 : Int32) (a12 : Int32) (a13 : Int32) (a14 : Int32) (a15 : Int32) (m : rf_m), rec267 a2 a3 a10 a11 a12 a13 a14 a15 m = some r → rf_V 20 (rf_sh w) K 0 0 267 ([(0, .ref 206), (2, .int a2), (3, .int a3), (10, .int a10), (11, .int a11), (12, .int a12), (13, .int a13), (14, .int a14), (15, .int a15)], [], rf_MM w m)) (a2 : Int32) (a3 : Int32) (a10 : Int32) (a11 : Int32) (a12 : Int32) (a13 : Int32) (a15 : Int32) (m : rf_m) (hg : g_X14_check_295 w rec208 rec267 a2 a3 a10 a11 a12 a13 a15 m = some r) : rf_V 20 (rf_sh w) K 0 0 295 ([(0, .ref 206), (2, .int a2), (3, .int a3), (10, .int a10), (11, .int a11), (12, .int a12), (13, .int a13), (15, .int a15)], [], rf_MM w m) := by
  unfold g_X14_check_295 at hg
  refine rf_seg C [(.iconst 0, 1)] (pc' := 296) (S' := ([(0, .ref 206), (2, .int a2), (3, .int a3), (10, .int a10), (11, .int a11), (12, .int a12), (13, .int a13), (15, .int a15)], [.int 0], rf_MM w m)) (by decide +kernel) rfl trivial ?_
  refine rf_few [0, 1, 2, 3, 4, 5, 6, 7] rfl ?_
  exact s_X14_check_296 C hE hr208 hr267 a2 a3 a10 a11 a12 a13 a15 0 m hg
theorem s_X14_check_267_b {w : rf_w} {K : rf_K} {r : Int32 × rf_m} (C : rf_Ctx 14 cX14_check 20 10 (rf_sh w) K) (hE : rf_End (some .int) K (rf_sh w) 0 0 (some (.int r.1)) (rf_MM w r.2)) {rec208 : Int32 → Int32 → Int32 → Int32 → Int32 → rf_m → Option (Int32 × rf_m)} {rec267 : Int32 → Int32 → Int32 → Int32 → Int32 → Int32 → Int32 → Int32 → rf_m → Option (Int32 × rf_m)} (hr208 : ∀ (a2 : Int32) (a3 : Int32) (a10 : Int32) (a11 : Int32) (a12 : Int32) (m : rf_m), rec208 a2 a3 a10 a11 a12 m = some r → rf_V 20 (rf_sh w) K 0 0 208 ([(0, .ref 206), (2, .int a2), (3, .int a3), (10, .int a10), (11, .int a11), (12, .int a12)], [], rf_MM w m)) (hr267 : ∀ (a2 : Int32) (a3 : Int32) (a10 : Int32) (a11 : Int32) (a12 : Int32) (a13 : Int32) (a14 : Int32) (a15 : Int32) (m : rf_m), rec267 a2 a3 a10 a11 a12 a13 a14 a15 m = some r → rf_V 20 (rf_sh w) K 0 0 267 ([(0, .ref 206), (2, .int a2), (3, .int a3), (10, .int a10), (11, .int a11), (12, .int a12), (13, .int a13), (14, .int a14), (15, .int a15)], [], rf_MM w m)) (a2 : Int32) (a3 : Int32) (a10 : Int32) (a11 : Int32) (a12 : Int32) (a13 : Int32) (a14 : Int32) (a15 : Int32) (m : rf_m) (hg : g_X14_check_267_b w rec208 rec267 a2 a3 a10 a11 a12 a13 a14 a15 m = some r) : rf_V 20 (rf_sh w) K 0 0 267 ([(0, .ref 206), (2, .int a2), (3, .int a3), (10, .int a10), (11, .int a11), (12, .int a12), (13, .int a13), (14, .int a14), (15, .int a15)], [], rf_MM w m) := by
  unfold g_X14_check_267_b at hg
  refine rf_seg C [(.iload 15, 2), (.iload 12, 2)] (pc' := 271) (S' := ([(0, .ref 206), (2, .int a2), (3, .int a3), (10, .int a10), (11, .int a11), (12, .int a12), (13, .int a13), (14, .int a14), (15, .int a15)], [.int a12, .int a15], rf_MM w m)) (by decide +kernel) rfl trivial ?_
  refine rf_icmp_ge C 33 304 (by decide +kernel) (fun hc => ?_) (fun hc => ?_)
  · replace hg := (if_pos hc).symm.trans hg
    refine rf_seg C [(.iconst 0, 1), (.istore 15, 2)] (pc' := 307) (S' := ([(15, .int 0), (0, .ref 206), (2, .int a2), (3, .int a3), (10, .int a10), (11, .int a11), (12, .int a12), (13, .int a13), (14, .int a14)], [], rf_MM w m)) (by decide +kernel) rfl trivial ?_
    refine rf_few [1, 2, 3, 4, 5, 6, 7, 8, 0] rfl ?_
    exact s_X14_check_307 C hE hr208 rf_fuel a2 a3 a10 a11 a12 a13 a14 0 m hg
  · replace hg := (if_neg hc).symm.trans hg
    refine rf_seg C [(.iload 14, 2)] (pc' := 276) (S' := ([(0, .ref 206), (2, .int a2), (3, .int a3), (10, .int a10), (11, .int a11), (12, .int a12), (13, .int a13), (14, .int a14), (15, .int a15)], [.int a14], rf_MM w m)) (by decide +kernel) rfl trivial ?_
    refine rf_if_eq C 19 295 (by decide +kernel) (fun hc => ?_) (fun hc => ?_)
    · replace hg := (if_pos hc).symm.trans hg
      refine rf_few [0, 1, 2, 3, 4, 5, 6, 8] rfl ?_
      exact s_X14_check_295 C hE hr208 hr267 a2 a3 a10 a11 a12 a13 a15 m hg
    · replace hg := (if_neg hc).symm.trans hg
      obtain ⟨q0, hg⟩ := rf_g_some hg
      refine rf_seg C [(.aload 0, 1), (.invokeinterface 14 113, 3), (.iload 15, 2), (.iaload, 1), (.iload 13, 2)] (pc' := 288) (S' := ([(0, .ref 206), (2, .int a2), (3, .int a3), (10, .int a10), (11, .int a11), (12, .int a12), (13, .int a13), (14, .int a14), (15, .int a15)], [.int a13, .int (m.1 279 (Int32.toNatClampNeg a15))], rf_MM w m)) (by decide +kernel) rfl (rf_in_of q0) ?_
      refine rf_icmp_eq C 7 295 (by decide +kernel) (fun hc => ?_) (fun hc => ?_)
      · replace hg := (if_pos hc).symm.trans hg
        refine rf_few [0, 1, 2, 3, 4, 5, 6, 8] rfl ?_
        exact s_X14_check_295 C hE hr208 hr267 a2 a3 a10 a11 a12 a13 a15 m hg
      · replace hg := (if_neg hc).symm.trans hg
        refine rf_seg C [(.iconst 1, 1)] (pc' := 292) (S' := ([(0, .ref 206), (2, .int a2), (3, .int a3), (10, .int a10), (11, .int a11), (12, .int a12), (13, .int a13), (14, .int a14), (15, .int a15)], [.int 1], rf_MM w m)) (by decide +kernel) rfl trivial ?_
        refine rf_goto C 4 296 (by decide +kernel) ?_
        refine rf_few [0, 1, 2, 3, 4, 5, 6, 8] rfl ?_
        exact s_X14_check_296 C hE hr208 hr267 a2 a3 a10 a11 a12 a13 a15 1 m hg
theorem s_X14_check_267 {w : rf_w} {K : rf_K} {r : Int32 × rf_m} (C : rf_Ctx 14 cX14_check 20 10 (rf_sh w) K) (hE : rf_End (some .int) K (rf_sh w) 0 0 (some (.int r.1)) (rf_MM w r.2)) {rec208 : Int32 → Int32 → Int32 → Int32 → Int32 → rf_m → Option (Int32 × rf_m)} (hr208 : ∀ (a2 : Int32) (a3 : Int32) (a10 : Int32) (a11 : Int32) (a12 : Int32) (m : rf_m), rec208 a2 a3 a10 a11 a12 m = some r → rf_V 20 (rf_sh w) K 0 0 208 ([(0, .ref 206), (2, .int a2), (3, .int a3), (10, .int a10), (11, .int a11), (12, .int a12)], [], rf_MM w m)) (n : Nat) : ∀ (a2 : Int32) (a3 : Int32) (a10 : Int32) (a11 : Int32) (a12 : Int32) (a13 : Int32) (a14 : Int32) (a15 : Int32) (m : rf_m), g_X14_check_267 w rec208 n a2 a3 a10 a11 a12 a13 a14 a15 m = some r → rf_V 20 (rf_sh w) K 0 0 267 ([(0, .ref 206), (2, .int a2), (3, .int a3), (10, .int a10), (11, .int a11), (12, .int a12), (13, .int a13), (14, .int a14), (15, .int a15)], [], rf_MM w m) := by
  induction n with
  | zero => intro a2 a3 a10 a11 a12 a13 a14 a15 m hg; cases hg
  | succ n ih => intro a2 a3 a10 a11 a12 a13 a14 a15 m hg; exact s_X14_check_267_b C hE hr208 ih a2 a3 a10 a11 a12 a13 a14 a15 m hg
theorem s_X14_check_262 {w : rf_w} {K : rf_K} {r : Int32 × rf_m} (C : rf_Ctx 14 cX14_check 20 10 (rf_sh w) K) (hE : rf_End (some .int) K (rf_sh w) 0 0 (some (.int r.1)) (rf_MM w r.2)) {rec208 : Int32 → Int32 → Int32 → Int32 → Int32 → rf_m → Option (Int32 × rf_m)} (hr208 : ∀ (a2 : Int32) (a3 : Int32) (a10 : Int32) (a11 : Int32) (a12 : Int32) (m : rf_m), rec208 a2 a3 a10 a11 a12 m = some r → rf_V 20 (rf_sh w) K 0 0 208 ([(0, .ref 206), (2, .int a2), (3, .int a3), (10, .int a10), (11, .int a11), (12, .int a12)], [], rf_MM w m)) (a2 : Int32) (a3 : Int32) (a10 : Int32) (a11 : Int32) (a12 : Int32) (a13 : Int32) (s0 : Int32) (m : rf_m) (hg : g_X14_check_262 w rec208 a2 a3 a10 a11 a12 a13 s0 m = some r) : rf_V 20 (rf_sh w) K 0 0 262 ([(0, .ref 206), (2, .int a2), (3, .int a3), (10, .int a10), (11, .int a11), (12, .int a12), (13, .int a13)], [.int s0], rf_MM w m) := by
  unfold g_X14_check_262 at hg
  refine rf_seg C [(.istore 14, 2), (.iconst 0, 1), (.istore 15, 2)] (pc' := 267) (S' := ([(15, .int 0), (14, .int s0), (0, .ref 206), (2, .int a2), (3, .int a3), (10, .int a10), (11, .int a11), (12, .int a12), (13, .int a13)], [], rf_MM w m)) (by decide +kernel) rfl trivial ?_
  refine rf_few [2, 3, 4, 5, 6, 7, 8, 1, 0] rfl ?_
  exact s_X14_check_267 C hE hr208 rf_fuel a2 a3 a10 a11 a12 a13 s0 0 m hg
theorem s_X14_check_261 {w : rf_w} {K : rf_K} {r : Int32 × rf_m} (C : rf_Ctx 14 cX14_check 20 10 (rf_sh w) K) (hE : rf_End (some .int) K (rf_sh w) 0 0 (some (.int r.1)) (rf_MM w r.2)) {rec208 : Int32 → Int32 → Int32 → Int32 → Int32 → rf_m → Option (Int32 × rf_m)} (hr208 : ∀ (a2 : Int32) (a3 : Int32) (a10 : Int32) (a11 : Int32) (a12 : Int32) (m : rf_m), rec208 a2 a3 a10 a11 a12 m = some r → rf_V 20 (rf_sh w) K 0 0 208 ([(0, .ref 206), (2, .int a2), (3, .int a3), (10, .int a10), (11, .int a11), (12, .int a12)], [], rf_MM w m)) (a2 : Int32) (a3 : Int32) (a10 : Int32) (a11 : Int32) (a12 : Int32) (a13 : Int32) (m : rf_m) (hg : g_X14_check_261 w rec208 a2 a3 a10 a11 a12 a13 m = some r) : rf_V 20 (rf_sh w) K 0 0 261 ([(0, .ref 206), (2, .int a2), (3, .int a3), (10, .int a10), (11, .int a11), (12, .int a12), (13, .int a13)], [], rf_MM w m) := by
  unfold g_X14_check_261 at hg
  refine rf_seg C [(.iconst 0, 1)] (pc' := 262) (S' := ([(0, .ref 206), (2, .int a2), (3, .int a3), (10, .int a10), (11, .int a11), (12, .int a12), (13, .int a13)], [.int 0], rf_MM w m)) (by decide +kernel) rfl trivial ?_
  refine rf_few [0, 1, 2, 3, 4, 5, 6] rfl ?_
  exact s_X14_check_262 C hE hr208 a2 a3 a10 a11 a12 a13 0 m hg
theorem s_X14_check_208_b {w : rf_w} {K : rf_K} {r : Int32 × rf_m} (C : rf_Ctx 14 cX14_check 20 10 (rf_sh w) K) (hE : rf_End (some .int) K (rf_sh w) 0 0 (some (.int r.1)) (rf_MM w r.2)) {rec208 : Int32 → Int32 → Int32 → Int32 → Int32 → rf_m → Option (Int32 × rf_m)} (hr208 : ∀ (a2 : Int32) (a3 : Int32) (a10 : Int32) (a11 : Int32) (a12 : Int32) (m : rf_m), rec208 a2 a3 a10 a11 a12 m = some r → rf_V 20 (rf_sh w) K 0 0 208 ([(0, .ref 206), (2, .int a2), (3, .int a3), (10, .int a10), (11, .int a11), (12, .int a12)], [], rf_MM w m)) (a2 : Int32) (a3 : Int32) (a10 : Int32) (a11 : Int32) (a12 : Int32) (m : rf_m) (hg : g_X14_check_208_b w rec208 a2 a3 a10 a11 a12 m = some r) : rf_V 20 (rf_sh w) K 0 0 208 ([(0, .ref 206), (2, .int a2), (3, .int a3), (10, .int a10), (11, .int a11), (12, .int a12)], [], rf_MM w m) := by
  unfold g_X14_check_208_b at hg
  refine rf_seg C [(.iload 12, 2), (.iload 10, 2)] (pc' := 212) (S' := ([(0, .ref 206), (2, .int a2), (3, .int a3), (10, .int a10), (11, .int a11), (12, .int a12)], [.int a10, .int a12], rf_MM w m)) (by decide +kernel) rfl trivial ?_
  refine rf_icmp_ge C 338 550 (by decide +kernel) (fun hc => ?_) (fun hc => ?_)
  · replace hg := (if_pos hc).symm.trans hg
    refine rf_seg C [(.aload 0, 1), (.iconst 0, 1)] (pc' := 552) (S' := ([(0, .ref 206), (2, .int a2), (3, .int a3), (10, .int a10), (11, .int a11), (12, .int a12)], [.int 0, .ref 206], rf_MM w m)) (by decide +kernel) rfl trivial ?_
    obtain ⟨y0, m0, hc0, hg⟩ := rf_b_some hg
    refine rf_callv C rf_fit0 j_X14_done (ci := 14) (As := [.int 0]) (rest := []) mw_X14_done (c_X14_done hc0) (by decide) rfl (by decide) lk_14_357 rfl rfl (Nat.le_of_ble_eq_true rfl) (by decide +kernel) ?_
    show rf_V 20 (rf_sh w) K 0 0 555 ([(0, .ref 206), (2, .int a2), (3, .int a3), (10, .int a10), (11, .int a11), (12, .int a12)], [.int y0], rf_MM w m0)
    obtain rfl := Option.some.inj hg
    exact rf_iret C hE (by decide +kernel)
  · replace hg := (if_neg hc).symm.trans hg
    obtain ⟨q1, hg⟩ := rf_g_some hg
    refine rf_seg C [(.aload 0, 1), (.invokeinterface 14 113, 3), (.iload 12, 2), (.iaload, 1)] (pc' := 222) (S' := ([(0, .ref 206), (2, .int a2), (3, .int a3), (10, .int a10), (11, .int a11), (12, .int a12)], [.int (m.1 279 (Int32.toNatClampNeg a12))], rf_MM w m)) (by decide +kernel) rfl (rf_in_of q1) ?_
    obtain ⟨x2, hx2, hg⟩ := rf_vi_some hg
    refine rf_vi_top hx2 ?_
    refine rf_seg C [(.istore 13, 2), (.aload 0, 1), (.iload 13, 2)] (pc' := 227) (S' := ([(13, .int x2), (0, .ref 206), (2, .int a2), (3, .int a3), (10, .int a10), (11, .int a11), (12, .int a12)], [.int x2, .ref 206], rf_MM w m)) (by decide +kernel) rfl trivial ?_
    obtain ⟨y3, m3, hc3, hg⟩ := rf_b_some hg
    refine rf_callv C rf_fit0 j_X14_isWell (ci := 14) (As := [.int x2]) (rest := []) mw_X14_isWell (c_X14_isWell hc3) (by decide) rfl (by decide) lk_14_722 rfl rfl (Nat.le_of_ble_eq_true rfl) (by decide +kernel) ?_
    show rf_V 20 (rf_sh w) K 0 0 230 ([(13, .int x2), (0, .ref 206), (2, .int a2), (3, .int a3), (10, .int a10), (11, .int a11), (12, .int a12)], [.int y3], rf_MM w m3)
    refine rf_if_eq C 31 261 (by decide +kernel) (fun hc => ?_) (fun hc => ?_)
    · replace hg := (if_pos hc).symm.trans hg
      refine rf_few [1, 2, 3, 4, 5, 6, 0] rfl ?_
      exact s_X14_check_261 C hE hr208 a2 a3 a10 a11 a12 x2 m3 hg
    · replace hg := (if_neg hc).symm.trans hg
      refine rf_seg C [(.aload 0, 1), (.iload 13, 2), (.iconst 0, 1)] (pc' := 237) (S' := ([(13, .int x2), (0, .ref 206), (2, .int a2), (3, .int a3), (10, .int a10), (11, .int a11), (12, .int a12)], [.int 0, .int x2, .ref 206], rf_MM w m3)) (by decide +kernel) rfl trivial ?_
      obtain ⟨y4, m4, hc4, hg⟩ := rf_b_some hg
      refine rf_callv C rf_fit0 j_X14_missOf (ci := 14) (As := [.int x2, .int 0]) (rest := []) mw_X14_missOf (c_X14_missOf hc4) (by decide) rfl (by decide) lk_14_716 rfl rfl (Nat.le_of_ble_eq_true rfl) (by decide +kernel) ?_
      show rf_V 20 (rf_sh w) K 0 0 240 ([(13, .int x2), (0, .ref 206), (2, .int a2), (3, .int a3), (10, .int a10), (11, .int a11), (12, .int a12)], [.int y4], rf_MM w m4)
      refine rf_seg C [(.iload 11, 2)] (pc' := 242) (S' := ([(13, .int x2), (0, .ref 206), (2, .int a2), (3, .int a3), (10, .int a10), (11, .int a11), (12, .int a12)], [.int a11, .int y4], rf_MM w m4)) (by decide +kernel) rfl trivial ?_
      obtain ⟨y5, m5, hc5, hg⟩ := rf_b_some hg
      refine rf_calls C rf_fit0 j_X14_isWide (As := [.int y4, .int a11]) (rest := []) mw_X14_isWide (c_X14_isWide hc5) (by decide) lk_14_725 rfl rfl (Nat.le_of_ble_eq_true rfl) (by decide +kernel) ?_
      show rf_V 20 (rf_sh w) K 0 0 245 ([(13, .int x2), (0, .ref 206), (2, .int a2), (3, .int a3), (10, .int a10), (11, .int a11), (12, .int a12)], [.int y5], rf_MM w m5)
      refine rf_if_ne C 16 261 (by decide +kernel) (fun hc => ?_) (fun hc => ?_)
      · replace hg := (if_neg hc).symm.trans hg
        refine rf_few [1, 2, 3, 4, 5, 6, 0] rfl ?_
        exact s_X14_check_261 C hE hr208 a2 a3 a10 a11 a12 x2 m5 hg
      · replace hg := (if_pos hc).symm.trans hg
        refine rf_seg C [(.aload 0, 1), (.iload 13, 2)] (pc' := 251) (S' := ([(13, .int x2), (0, .ref 206), (2, .int a2), (3, .int a3), (10, .int a10), (11, .int a11), (12, .int a12)], [.int x2, .ref 206], rf_MM w m5)) (by decide +kernel) rfl trivial ?_
        obtain ⟨y6, m6, hc6, hg⟩ := rf_b_some hg
        refine rf_callv C rf_fit0 j_X14_carries (ci := 14) (As := [.int x2]) (rest := []) mw_X14_carries (c_X14_carries hc6) (by decide) rfl (by decide) lk_14_831 rfl rfl (Nat.le_of_ble_eq_true rfl) (by decide +kernel) ?_
        show rf_V 20 (rf_sh w) K 0 0 254 ([(13, .int x2), (0, .ref 206), (2, .int a2), (3, .int a3), (10, .int a10), (11, .int a11), (12, .int a12)], [.int y6], rf_MM w m6)
        refine rf_if_eq C 7 261 (by decide +kernel) (fun hc => ?_) (fun hc => ?_)
        · replace hg := (if_pos hc).symm.trans hg
          refine rf_few [1, 2, 3, 4, 5, 6, 0] rfl ?_
          exact s_X14_check_261 C hE hr208 a2 a3 a10 a11 a12 x2 m6 hg
        · replace hg := (if_neg hc).symm.trans hg
          refine rf_seg C [(.iconst 1, 1)] (pc' := 258) (S' := ([(13, .int x2), (0, .ref 206), (2, .int a2), (3, .int a3), (10, .int a10), (11, .int a11), (12, .int a12)], [.int 1], rf_MM w m6)) (by decide +kernel) rfl trivial ?_
          refine rf_goto C 4 262 (by decide +kernel) ?_
          refine rf_few [1, 2, 3, 4, 5, 6, 0] rfl ?_
          exact s_X14_check_262 C hE hr208 a2 a3 a10 a11 a12 x2 1 m6 hg
theorem s_X14_check_208 {w : rf_w} {K : rf_K} {r : Int32 × rf_m} (C : rf_Ctx 14 cX14_check 20 10 (rf_sh w) K) (hE : rf_End (some .int) K (rf_sh w) 0 0 (some (.int r.1)) (rf_MM w r.2)) (n : Nat) : ∀ (a2 : Int32) (a3 : Int32) (a10 : Int32) (a11 : Int32) (a12 : Int32) (m : rf_m), g_X14_check_208 w n a2 a3 a10 a11 a12 m = some r → rf_V 20 (rf_sh w) K 0 0 208 ([(0, .ref 206), (2, .int a2), (3, .int a3), (10, .int a10), (11, .int a11), (12, .int a12)], [], rf_MM w m) := by
  induction n with
  | zero => intro a2 a3 a10 a11 a12 m hg; cases hg
  | succ n ih => intro a2 a3 a10 a11 a12 m hg; exact s_X14_check_208_b C hE ih a2 a3 a10 a11 a12 m hg
theorem s_X14_check_163_b {w : rf_w} {K : rf_K} {r : Int32 × rf_m} (C : rf_Ctx 14 cX14_check 20 10 (rf_sh w) K) (hE : rf_End (some .int) K (rf_sh w) 0 0 (some (.int r.1)) (rf_MM w r.2)) {rec163 : Int32 → Int32 → Int32 → Int32 → Int32 → Int32 → rf_m → Option (Int32 × rf_m)} (hr163 : ∀ (a1 : Int32) (a2 : Int32) (a3 : Int32) (a10 : Int32) (a11 : Int32) (a12 : Int32) (m : rf_m), rec163 a1 a2 a3 a10 a11 a12 m = some r → rf_V 20 (rf_sh w) K 0 0 163 ([(0, .ref 206), (1, .int a1), (2, .int a2), (3, .int a3), (10, .int a10), (11, .int a11), (12, .int a12)], [], rf_MM w m)) (a1 : Int32) (a2 : Int32) (a3 : Int32) (a10 : Int32) (a11 : Int32) (a12 : Int32) (m : rf_m) (hg : g_X14_check_163_b w rec163 a1 a2 a3 a10 a11 a12 m = some r) : rf_V 20 (rf_sh w) K 0 0 163 ([(0, .ref 206), (1, .int a1), (2, .int a2), (3, .int a3), (10, .int a10), (11, .int a11), (12, .int a12)], [], rf_MM w m) := by
  unfold g_X14_check_163_b at hg
  refine rf_seg C [(.iload 12, 2), (.iconst 900, 3)] (pc' := 168) (S' := ([(0, .ref 206), (1, .int a1), (2, .int a2), (3, .int a3), (10, .int a10), (11, .int a11), (12, .int a12)], [.int 900, .int a12], rf_MM w m)) (by decide +kernel) rfl trivial ?_
  refine rf_icmp_ge C 17 185 (by decide +kernel) (fun hc => ?_) (fun hc => ?_)
  · replace hg := (if_pos hc).symm.trans hg
    obtain ⟨q0, hg⟩ := rf_g_some hg
    obtain ⟨q1, hg⟩ := rf_g_some hg
    refine rf_seg C [(.aload 0, 1), (.aload 0, 1), (.invokeinterface 14 114, 3), (.aload 0, 1), (.invokeinterface 14 57, 3), (.iload 1, 1), (.iaload, 1), (.aload 0, 1), (.invokeinterface 14 58, 3), (.iload 1, 1), (.iaload, 1)] (pc' := 202) (S' := ([(0, .ref 206), (1, .int a1), (2, .int a2), (3, .int a3), (10, .int a10), (11, .int a11), (12, .int a12)], [.int (m.1 237 (Int32.toNatClampNeg a1)), .int (m.1 236 (Int32.toNatClampNeg a1)), .ref 280, .ref 206], rf_MM w m)) (by decide +kernel) rfl (by exact ⟨(rf_in_of q0), (rf_in_of q1)⟩) ?_
    obtain ⟨m2, hc2, hg⟩ := rf_bv_some hg
    refine rf_callv C rf_fit0 j_X14_allows__280 (ci := 14) (As := [.ref 280, .int (m.1 236 (Int32.toNatClampNeg a1)), .int (m.1 237 (Int32.toNatClampNeg a1))]) (rest := []) mw_X14_allows__280 (c_X14_allows__280 hc2) (by decide) rfl (by decide) lk_14_854 rfl rfl (Nat.le_of_ble_eq_true rfl) (by decide +kernel) ?_
    show rf_V 20 (rf_sh w) K 0 0 205 ([(0, .ref 206), (1, .int a1), (2, .int a2), (3, .int a3), (10, .int a10), (11, .int a11), (12, .int a12)], [], rf_MM w m2)
    refine rf_seg C [(.iconst 0, 1), (.istore 12, 2)] (pc' := 208) (S' := ([(12, .int 0), (0, .ref 206), (1, .int a1), (2, .int a2), (3, .int a3), (10, .int a10), (11, .int a11)], [], rf_MM w m2)) (by decide +kernel) rfl trivial ?_
    refine rf_few [1, 3, 4, 5, 6, 0] rfl ?_
    exact s_X14_check_208 C hE rf_fuel a2 a3 a10 a11 0 m2 hg
  · replace hg := (if_neg hc).symm.trans hg
    obtain ⟨q3, hg⟩ := rf_g_some hg
    refine rf_seg C [(.aload 0, 1), (.invokeinterface 14 114, 3), (.iload 12, 2), (.iconst 0, 1), (.bastore, 1), (.iinc 12 1, 3)] (pc' := 182) (S' := ([(12, .int (a12 + 1)), (0, .ref 206), (1, .int a1), (2, .int a2), (3, .int a3), (10, .int a10), (11, .int a11)], [], rf_MM w (rf_i m 280 (Int32.toNatClampNeg a12) (vp_nar .boolean 0)))) (by decide +kernel) rfl (rf_in_of q3) ?_
    refine rf_goto C (-19) 163 (by decide +kernel) ?_
    refine rf_few [1, 2, 3, 4, 5, 6, 0] rfl ?_
    exact hr163 a1 a2 a3 a10 a11 (a12 + 1) (rf_i m 280 (Int32.toNatClampNeg a12) (vp_nar .boolean 0)) hg
theorem s_X14_check_163 {w : rf_w} {K : rf_K} {r : Int32 × rf_m} (C : rf_Ctx 14 cX14_check 20 10 (rf_sh w) K) (hE : rf_End (some .int) K (rf_sh w) 0 0 (some (.int r.1)) (rf_MM w r.2)) (n : Nat) : ∀ (a1 : Int32) (a2 : Int32) (a3 : Int32) (a10 : Int32) (a11 : Int32) (a12 : Int32) (m : rf_m), g_X14_check_163 w n a1 a2 a3 a10 a11 a12 m = some r → rf_V 20 (rf_sh w) K 0 0 163 ([(0, .ref 206), (1, .int a1), (2, .int a2), (3, .int a3), (10, .int a10), (11, .int a11), (12, .int a12)], [], rf_MM w m) := by
  induction n with
  | zero => intro a1 a2 a3 a10 a11 a12 m hg; cases hg
  | succ n ih => intro a1 a2 a3 a10 a11 a12 m hg; exact s_X14_check_163_b C hE ih a1 a2 a3 a10 a11 a12 m hg
theorem s_X14_check_135 {w : rf_w} {K : rf_K} {r : Int32 × rf_m} (C : rf_Ctx 14 cX14_check 20 10 (rf_sh w) K) (hE : rf_End (some .int) K (rf_sh w) 0 0 (some (.int r.1)) (rf_MM w r.2)) (a1 : Int32) (a2 : Int32) (a3 : Int32) (a10 : Int32) (m : rf_m) (hg : g_X14_check_135 w a1 a2 a3 a10 m = some r) : rf_V 20 (rf_sh w) K 0 0 135 ([(0, .ref 206), (1, .int a1), (2, .int a2), (3, .int a3), (10, .int a10)], [], rf_MM w m) := by
  unfold g_X14_check_135 at hg
  refine rf_seg C [(.iload 10, 2)] (pc' := 137) (S' := ([(0, .ref 206), (1, .int a1), (2, .int a2), (3, .int a3), (10, .int a10)], [.int a10], rf_MM w m)) (by decide +kernel) rfl trivial ?_
  refine rf_if_ne C 9 146 (by decide +kernel) (fun hc => ?_) (fun hc => ?_)
  · replace hg := (if_neg hc).symm.trans hg
    refine rf_seg C [(.aload 0, 1)] (pc' := 147) (S' := ([(0, .ref 206), (1, .int a1), (2, .int a2), (3, .int a3), (10, .int a10)], [.ref 206], rf_MM w m)) (by decide +kernel) rfl trivial ?_
    obtain ⟨m0, hc0, hg⟩ := rf_bv_some hg
    refine rf_callv C rf_fit0 j_X14_allMeans (ci := 14) (As := []) (rest := []) mw_X14_allMeans (c_X14_allMeans hc0) (by decide) rfl (by decide) lk_14_713 rfl rfl (Nat.le_of_ble_eq_true rfl) (by decide +kernel) ?_
    show rf_V 20 (rf_sh w) K 0 0 150 ([(0, .ref 206), (1, .int a1), (2, .int a2), (3, .int a3), (10, .int a10)], [], rf_MM w m0)
    refine rf_seg C [(.aload 0, 1)] (pc' := 151) (S' := ([(0, .ref 206), (1, .int a1), (2, .int a2), (3, .int a3), (10, .int a10)], [.ref 206], rf_MM w m0)) (by decide +kernel) rfl trivial ?_
    obtain ⟨m1, hc1, hg⟩ := rf_bv_some hg
    refine rf_callv C rf_fit0 j_X14_allSines (ci := 14) (As := []) (rest := []) mw_X14_allSines (c_X14_allSines hc1) (by decide) rfl (by decide) lk_14_842 rfl rfl (Nat.le_of_ble_eq_true rfl) (by decide +kernel) ?_
    show rf_V 20 (rf_sh w) K 0 0 154 ([(0, .ref 206), (1, .int a1), (2, .int a2), (3, .int a3), (10, .int a10)], [], rf_MM w m1)
    refine rf_seg C [(.aload 0, 1)] (pc' := 155) (S' := ([(0, .ref 206), (1, .int a1), (2, .int a2), (3, .int a3), (10, .int a10)], [.ref 206], rf_MM w m1)) (by decide +kernel) rfl trivial ?_
    obtain ⟨y2, m2, hc2, hg⟩ := rf_b_some hg
    refine rf_callv C rf_fit0 j_X14_allowed (ci := 14) (As := []) (rest := []) mw_X14_allowed (c_X14_allowed hc2) (by decide) rfl (by decide) lk_14_663 rfl rfl (Nat.le_of_ble_eq_true rfl) (by decide +kernel) ?_
    show rf_V 20 (rf_sh w) K 0 0 158 ([(0, .ref 206), (1, .int a1), (2, .int a2), (3, .int a3), (10, .int a10)], [.int y2], rf_MM w m2)
    refine rf_seg C [(.istore 11, 2), (.iconst 0, 1), (.istore 12, 2)] (pc' := 163) (S' := ([(12, .int 0), (11, .int y2), (0, .ref 206), (1, .int a1), (2, .int a2), (3, .int a3), (10, .int a10)], [], rf_MM w m2)) (by decide +kernel) rfl trivial ?_
    refine rf_few [2, 3, 4, 5, 6, 1, 0] rfl ?_
    exact s_X14_check_163 C hE rf_fuel a1 a2 a3 a10 y2 0 m2 hg
  · replace hg := (if_pos hc).symm.trans hg
    refine rf_seg C [(.aload 0, 1), (.iconst 1, 1)] (pc' := 142) (S' := ([(0, .ref 206), (1, .int a1), (2, .int a2), (3, .int a3), (10, .int a10)], [.int 1, .ref 206], rf_MM w m)) (by decide +kernel) rfl trivial ?_
    obtain ⟨y3, m3, hc3, hg⟩ := rf_b_some hg
    refine rf_callv C rf_fit0 j_X14_refused (ci := 14) (As := [.int 1]) (rest := []) mw_X14_refused (c_X14_refused hc3) (by decide) rfl (by decide) lk_14_353 rfl rfl (Nat.le_of_ble_eq_true rfl) (by decide +kernel) ?_
    show rf_V 20 (rf_sh w) K 0 0 145 ([(0, .ref 206), (1, .int a1), (2, .int a2), (3, .int a3), (10, .int a10)], [.int y3], rf_MM w m3)
    obtain rfl := Option.some.inj hg
    exact rf_iret C hE (by decide +kernel)
theorem s_X14_check_91_b {w : rf_w} {K : rf_K} {r : Int32 × rf_m} (C : rf_Ctx 14 cX14_check 20 10 (rf_sh w) K) (hE : rf_End (some .int) K (rf_sh w) 0 0 (some (.int r.1)) (rf_MM w r.2)) {rec91 : Int32 → Int32 → Int32 → Int32 → rf_m → Option (Int32 × rf_m)} (hr91 : ∀ (a1 : Int32) (a2 : Int32) (a3 : Int32) (a10 : Int32) (m : rf_m), rec91 a1 a2 a3 a10 m = some r → rf_V 20 (rf_sh w) K 0 0 91 ([(0, .ref 206), (1, .int a1), (2, .int a2), (3, .int a3), (10, .int a10)], [], rf_MM w m)) (a1 : Int32) (a2 : Int32) (a3 : Int32) (a10 : Int32) (m : rf_m) (hg : g_X14_check_91_b w rec91 a1 a2 a3 a10 m = some r) : rf_V 20 (rf_sh w) K 0 0 91 ([(0, .ref 206), (1, .int a1), (2, .int a2), (3, .int a3), (10, .int a10)], [], rf_MM w m) := by
  unfold g_X14_check_91_b at hg
  refine rf_seg C [(.iload 10, 2), (.iconst 6, 2)] (pc' := 95) (S' := ([(0, .ref 206), (1, .int a1), (2, .int a2), (3, .int a3), (10, .int a10)], [.int 6, .int a10], rf_MM w m)) (by decide +kernel) rfl trivial ?_
  refine rf_icmp_ge C 40 135 (by decide +kernel) (fun hc => ?_) (fun hc => ?_)
  · replace hg := (if_pos hc).symm.trans hg
    refine rf_few [0, 1, 2, 3, 4] rfl ?_
    exact s_X14_check_135 C hE a1 a2 a3 a10 m hg
  · replace hg := (if_neg hc).symm.trans hg
    obtain ⟨q0, hg⟩ := rf_g_some hg
    refine rf_seg C [(.aload 0, 1), (.invokeinterface 14 113, 3), (.iload 10, 2), (.iaload, 1), (.iconst (-1), 1)] (pc' := 106) (S' := ([(0, .ref 206), (1, .int a1), (2, .int a2), (3, .int a3), (10, .int a10)], [.int ((-1)), .int (m.1 279 (Int32.toNatClampNeg a10))], rf_MM w m)) (by decide +kernel) rfl (rf_in_of q0) ?_
    refine rf_icmp_eq C 29 135 (by decide +kernel) (fun hc => ?_) (fun hc => ?_)
    · replace hg := (if_pos hc).symm.trans hg
      refine rf_few [0, 1, 2, 3, 4] rfl ?_
      exact s_X14_check_135 C hE a1 a2 a3 a10 m hg
    · replace hg := (if_neg hc).symm.trans hg
      obtain ⟨q1, hg⟩ := rf_g_some hg
      refine rf_seg C [(.aload 0, 1), (.aload 0, 1), (.invokeinterface 14 113, 3), (.iload 10, 2), (.iaload, 1)] (pc' := 117) (S' := ([(0, .ref 206), (1, .int a1), (2, .int a2), (3, .int a3), (10, .int a10)], [.int (m.1 279 (Int32.toNatClampNeg a10)), .ref 206], rf_MM w m)) (by decide +kernel) rfl (rf_in_of q1) ?_
      obtain ⟨y2, m2, hc2, hg⟩ := rf_b_some hg
      refine rf_callv C rf_fit0 j_X14_isTriangle (ci := 14) (As := [.int (m.1 279 (Int32.toNatClampNeg a10))]) (rest := []) mw_X14_isTriangle (c_X14_isTriangle hc2) (by decide) rfl (by decide) lk_14_719 rfl rfl (Nat.le_of_ble_eq_true rfl) (by decide +kernel) ?_
      show rf_V 20 (rf_sh w) K 0 0 120 ([(0, .ref 206), (1, .int a1), (2, .int a2), (3, .int a3), (10, .int a10)], [.int y2], rf_MM w m2)
      refine rf_if_ne C 9 129 (by decide +kernel) (fun hc => ?_) (fun hc => ?_)
      · replace hg := (if_neg hc).symm.trans hg
        refine rf_seg C [(.iinc 10 1, 3)] (pc' := 132) (S' := ([(10, .int (a10 + 1)), (0, .ref 206), (1, .int a1), (2, .int a2), (3, .int a3)], [], rf_MM w m2)) (by decide +kernel) rfl trivial ?_
        refine rf_goto C (-41) 91 (by decide +kernel) ?_
        refine rf_few [1, 2, 3, 4, 0] rfl ?_
        exact hr91 a1 a2 a3 (a10 + 1) m2 hg
      · replace hg := (if_pos hc).symm.trans hg
        refine rf_seg C [(.aload 0, 1), (.iconst 1, 1)] (pc' := 125) (S' := ([(0, .ref 206), (1, .int a1), (2, .int a2), (3, .int a3), (10, .int a10)], [.int 1, .ref 206], rf_MM w m2)) (by decide +kernel) rfl trivial ?_
        obtain ⟨y3, m3, hc3, hg⟩ := rf_b_some hg
        refine rf_callv C rf_fit0 j_X14_refused (ci := 14) (As := [.int 1]) (rest := []) mw_X14_refused (c_X14_refused hc3) (by decide) rfl (by decide) lk_14_353 rfl rfl (Nat.le_of_ble_eq_true rfl) (by decide +kernel) ?_
        show rf_V 20 (rf_sh w) K 0 0 128 ([(0, .ref 206), (1, .int a1), (2, .int a2), (3, .int a3), (10, .int a10)], [.int y3], rf_MM w m3)
        obtain rfl := Option.some.inj hg
        exact rf_iret C hE (by decide +kernel)
theorem s_X14_check_91 {w : rf_w} {K : rf_K} {r : Int32 × rf_m} (C : rf_Ctx 14 cX14_check 20 10 (rf_sh w) K) (hE : rf_End (some .int) K (rf_sh w) 0 0 (some (.int r.1)) (rf_MM w r.2)) (n : Nat) : ∀ (a1 : Int32) (a2 : Int32) (a3 : Int32) (a10 : Int32) (m : rf_m), g_X14_check_91 w n a1 a2 a3 a10 m = some r → rf_V 20 (rf_sh w) K 0 0 91 ([(0, .ref 206), (1, .int a1), (2, .int a2), (3, .int a3), (10, .int a10)], [], rf_MM w m) := by
  induction n with
  | zero => intro a1 a2 a3 a10 m hg; cases hg
  | succ n ih => intro a1 a2 a3 a10 m hg; exact s_X14_check_91_b C hE ih a1 a2 a3 a10 m hg
theorem c_X14_check {w : rf_w} {m : rf_m} {a1 : Int32} {a2 : Int32} {a3 : Int32} {a4 : Int32} {a5 : Int32} {a6 : Int32} {a7 : Int32} {a8 : Int32} {a9 : Int32} {r : Int32 × rf_m} (hg : g_X14_check w m a1 a2 a3 a4 a5 a6 a7 a8 a9 = some r) : rf_Con j_X14_check 10 (rf_sh w) [.ref 206, .int a1, .int a2, .int a3, .int a4, .int a5, .int a6, .int a7, .int a8, .int a9] (rf_MM w m) (some (.int r.1)) (rf_MM w r.2) := by
  refine rf_con j_X14_check 10 ⟨by decide +kernel, rfl, Nat.le_of_ble_eq_true rfl⟩ (fun K C hE => ?_)
  unfold g_X14_check at hg
  show rf_V 20 (rf_sh w) K 0 0 0 ([(0, .ref 206), (1, .int a1), (2, .int a2), (3, .int a3), (4, .int a4), (5, .int a5), (6, .int a6), (7, .int a7), (8, .int a8), (9, .int a9)], [], rf_MM w m)
  refine rf_seg C [(.aload 0, 1), (.iconst 0, 1), (.multianewarray 14 0, 3), (.aload 0, 1), (.iload 1, 1)] (pc' := 7) (S' := ([(0, .ref 206), (1, .int a1), (2, .int a2), (3, .int a3), (4, .int a4), (5, .int a5), (6, .int a6), (7, .int a7), (8, .int a8), (9, .int a9)], [.int a1, .ref 206], rf_MM w (rf_i m 206 0 0))) (by decide +kernel) rfl trivial ?_
  obtain ⟨y0, m0, hc0, hg⟩ := rf_b_some hg
  refine rf_callv C rf_fit0 j_X14_isBase (ci := 14) (As := [.int a1]) (rest := []) mw_X14_isBase (c_X14_isBase hc0) (by decide) rfl (by decide) lk_14_672 rfl rfl (Nat.le_of_ble_eq_true rfl) (by decide +kernel) ?_
  show rf_V 20 (rf_sh w) K 0 0 10 ([(0, .ref 206), (1, .int a1), (2, .int a2), (3, .int a3), (4, .int a4), (5, .int a5), (6, .int a6), (7, .int a7), (8, .int a8), (9, .int a9)], [.int y0], rf_MM w m0)
  refine rf_if_eq C 24 34 (by decide +kernel) (fun hc => ?_) (fun hc => ?_)
  · replace hg := (if_pos hc).symm.trans hg
    refine rf_seg C [(.aload 0, 1), (.iconst 1, 1)] (pc' := 36) (S' := ([(0, .ref 206), (1, .int a1), (2, .int a2), (3, .int a3), (4, .int a4), (5, .int a5), (6, .int a6), (7, .int a7), (8, .int a8), (9, .int a9)], [.int 1, .ref 206], rf_MM w m0)) (by decide +kernel) rfl trivial ?_
    obtain ⟨y1, m1, hc1, hg⟩ := rf_b_some hg
    refine rf_callv C rf_fit0 j_X14_refused (ci := 14) (As := [.int 1]) (rest := []) mw_X14_refused (c_X14_refused hc1) (by decide) rfl (by decide) lk_14_353 rfl rfl (Nat.le_of_ble_eq_true rfl) (by decide +kernel) ?_
    show rf_V 20 (rf_sh w) K 0 0 39 ([(0, .ref 206), (1, .int a1), (2, .int a2), (3, .int a3), (4, .int a4), (5, .int a5), (6, .int a6), (7, .int a7), (8, .int a8), (9, .int a9)], [.int y1], rf_MM w m1)
    obtain rfl := Option.some.inj hg
    exact rf_iret C hE (by decide +kernel)
  · replace hg := (if_neg hc).symm.trans hg
    refine rf_seg C [(.aload 0, 1), (.iload 2, 1)] (pc' := 15) (S' := ([(0, .ref 206), (1, .int a1), (2, .int a2), (3, .int a3), (4, .int a4), (5, .int a5), (6, .int a6), (7, .int a7), (8, .int a8), (9, .int a9)], [.int a2, .ref 206], rf_MM w m0)) (by decide +kernel) rfl trivial ?_
    obtain ⟨y2, m2, hc2, hg⟩ := rf_b_some hg
    refine rf_callv C rf_fit0 j_X14_isMark (ci := 14) (As := [.int a2]) (rest := []) mw_X14_isMark (c_X14_isMark hc2) (by decide) rfl (by decide) lk_14_360 rfl rfl (Nat.le_of_ble_eq_true rfl) (by decide +kernel) ?_
    show rf_V 20 (rf_sh w) K 0 0 18 ([(0, .ref 206), (1, .int a1), (2, .int a2), (3, .int a3), (4, .int a4), (5, .int a5), (6, .int a6), (7, .int a7), (8, .int a8), (9, .int a9)], [.int y2], rf_MM w m2)
    refine rf_if_eq C 16 34 (by decide +kernel) (fun hc => ?_) (fun hc => ?_)
    · replace hg := (if_pos hc).symm.trans hg
      refine rf_seg C [(.aload 0, 1), (.iconst 1, 1)] (pc' := 36) (S' := ([(0, .ref 206), (1, .int a1), (2, .int a2), (3, .int a3), (4, .int a4), (5, .int a5), (6, .int a6), (7, .int a7), (8, .int a8), (9, .int a9)], [.int 1, .ref 206], rf_MM w m2)) (by decide +kernel) rfl trivial ?_
      obtain ⟨y3, m3, hc3, hg⟩ := rf_b_some hg
      refine rf_callv C rf_fit0 j_X14_refused (ci := 14) (As := [.int 1]) (rest := []) mw_X14_refused (c_X14_refused hc3) (by decide) rfl (by decide) lk_14_353 rfl rfl (Nat.le_of_ble_eq_true rfl) (by decide +kernel) ?_
      show rf_V 20 (rf_sh w) K 0 0 39 ([(0, .ref 206), (1, .int a1), (2, .int a2), (3, .int a3), (4, .int a4), (5, .int a5), (6, .int a6), (7, .int a7), (8, .int a8), (9, .int a9)], [.int y3], rf_MM w m3)
      obtain rfl := Option.some.inj hg
      exact rf_iret C hE (by decide +kernel)
    · replace hg := (if_neg hc).symm.trans hg
      refine rf_seg C [(.aload 0, 1), (.iload 3, 1)] (pc' := 23) (S' := ([(0, .ref 206), (1, .int a1), (2, .int a2), (3, .int a3), (4, .int a4), (5, .int a5), (6, .int a6), (7, .int a7), (8, .int a8), (9, .int a9)], [.int a3, .ref 206], rf_MM w m2)) (by decide +kernel) rfl trivial ?_
      obtain ⟨y4, m4, hc4, hg⟩ := rf_b_some hg
      refine rf_callv C rf_fit0 j_X14_isMark (ci := 14) (As := [.int a3]) (rest := []) mw_X14_isMark (c_X14_isMark hc4) (by decide) rfl (by decide) lk_14_360 rfl rfl (Nat.le_of_ble_eq_true rfl) (by decide +kernel) ?_
      show rf_V 20 (rf_sh w) K 0 0 26 ([(0, .ref 206), (1, .int a1), (2, .int a2), (3, .int a3), (4, .int a4), (5, .int a5), (6, .int a6), (7, .int a7), (8, .int a8), (9, .int a9)], [.int y4], rf_MM w m4)
      refine rf_if_eq C 8 34 (by decide +kernel) (fun hc => ?_) (fun hc => ?_)
      · replace hg := (if_pos hc).symm.trans hg
        refine rf_seg C [(.aload 0, 1), (.iconst 1, 1)] (pc' := 36) (S' := ([(0, .ref 206), (1, .int a1), (2, .int a2), (3, .int a3), (4, .int a4), (5, .int a5), (6, .int a6), (7, .int a7), (8, .int a8), (9, .int a9)], [.int 1, .ref 206], rf_MM w m4)) (by decide +kernel) rfl trivial ?_
        obtain ⟨y5, m5, hc5, hg⟩ := rf_b_some hg
        refine rf_callv C rf_fit0 j_X14_refused (ci := 14) (As := [.int 1]) (rest := []) mw_X14_refused (c_X14_refused hc5) (by decide) rfl (by decide) lk_14_353 rfl rfl (Nat.le_of_ble_eq_true rfl) (by decide +kernel) ?_
        show rf_V 20 (rf_sh w) K 0 0 39 ([(0, .ref 206), (1, .int a1), (2, .int a2), (3, .int a3), (4, .int a4), (5, .int a5), (6, .int a6), (7, .int a7), (8, .int a8), (9, .int a9)], [.int y5], rf_MM w m5)
        obtain rfl := Option.some.inj hg
        exact rf_iret C hE (by decide +kernel)
      · replace hg := (if_neg hc).symm.trans hg
        refine rf_seg C [(.iload 2, 1), (.iload 3, 1)] (pc' := 31) (S' := ([(0, .ref 206), (1, .int a1), (2, .int a2), (3, .int a3), (4, .int a4), (5, .int a5), (6, .int a6), (7, .int a7), (8, .int a8), (9, .int a9)], [.int a3, .int a2], rf_MM w m4)) (by decide +kernel) rfl trivial ?_
        refine rf_icmp_ne C 9 40 (by decide +kernel) (fun hc => ?_) (fun hc => ?_)
        · replace hg := (if_neg hc).symm.trans hg
          refine rf_seg C [(.aload 0, 1), (.invokeinterface 14 113, 3), (.iconst 0, 1), (.iload 4, 2), (.iastore, 1), (.aload 0, 1), (.invokeinterface 14 113, 3), (.iconst 1, 1), (.iload 5, 2), (.iastore, 1), (.aload 0, 1), (.invokeinterface 14 113, 3), (.iconst 2, 1), (.iload 6, 2), (.iastore, 1), (.aload 0, 1), (.invokeinterface 14 113, 3), (.iconst 3, 1), (.iload 7, 2), (.iastore, 1), (.aload 0, 1), (.invokeinterface 14 113, 3), (.iconst 4, 1), (.iload 8, 2), (.iastore, 1), (.aload 0, 1), (.invokeinterface 14 113, 3), (.iconst 5, 1), (.iload 9, 2), (.iastore, 1), (.iconst 0, 1), (.istore 10, 2)] (pc' := 91) (S' := ([(10, .int 0), (0, .ref 206), (1, .int a1), (2, .int a2), (3, .int a3), (4, .int a4), (5, .int a5), (6, .int a6), (7, .int a7), (8, .int a8), (9, .int a9)], [], rf_MM w (rf_i (rf_i (rf_i (rf_i (rf_i (rf_i m4 279 (Int32.toNatClampNeg 0) a4) 279 (Int32.toNatClampNeg 1) a5) 279 (Int32.toNatClampNeg 2) a6) 279 (Int32.toNatClampNeg 3) a7) 279 (Int32.toNatClampNeg 4) a8) 279 (Int32.toNatClampNeg 5) a9))) (by decide +kernel) rfl (by exact ⟨(rf_in_of (by decide)), (rf_in_of (by decide)), (rf_in_of (by decide)), (rf_in_of (by decide)), (rf_in_of (by decide)), (rf_in_of (by decide))⟩) ?_
          refine rf_few [1, 2, 3, 4, 0] rfl ?_
          exact s_X14_check_91 C hE rf_fuel a1 a2 a3 0 (rf_i (rf_i (rf_i (rf_i (rf_i (rf_i m4 279 (Int32.toNatClampNeg 0) a4) 279 (Int32.toNatClampNeg 1) a5) 279 (Int32.toNatClampNeg 2) a6) 279 (Int32.toNatClampNeg 3) a7) 279 (Int32.toNatClampNeg 4) a8) 279 (Int32.toNatClampNeg 5) a9) hg
        · replace hg := (if_pos hc).symm.trans hg
          refine rf_seg C [(.aload 0, 1), (.iconst 1, 1)] (pc' := 36) (S' := ([(0, .ref 206), (1, .int a1), (2, .int a2), (3, .int a3), (4, .int a4), (5, .int a5), (6, .int a6), (7, .int a7), (8, .int a8), (9, .int a9)], [.int 1, .ref 206], rf_MM w m4)) (by decide +kernel) rfl trivial ?_
          obtain ⟨y6, m6, hc6, hg⟩ := rf_b_some hg
          refine rf_callv C rf_fit0 j_X14_refused (ci := 14) (As := [.int 1]) (rest := []) mw_X14_refused (c_X14_refused hc6) (by decide) rfl (by decide) lk_14_353 rfl rfl (Nat.le_of_ble_eq_true rfl) (by decide +kernel) ?_
          show rf_V 20 (rf_sh w) K 0 0 39 ([(0, .ref 206), (1, .int a1), (2, .int a2), (3, .int a3), (4, .int a4), (5, .int a5), (6, .int a6), (7, .int a7), (8, .int a8), (9, .int a9)], [.int y6], rf_MM w m6)
          obtain rfl := Option.some.inj hg
          exact rf_iret C hE (by decide +kernel)
-- X14_isKeptNow
abbrev j_X14_isKeptNow : rf_J := (14, yX14_isKeptNow, cX14_isKeptNow, 4, (some .boolean))
theorem mw_X14_isKeptNow : rf_mv j_X14_isKeptNow (rf_R 14) 1 := ⟨⟨rf_mem 84 (by decide +kernel), rf_mem 84 (by decide +kernel), rf_mem 0 (by decide +kernel), rf_mem 84 (by decide +kernel)⟩, by decide +kernel, by decide⟩
def g_X14_isKeptNow_41 (w : rf_w) (rec14 : Int32 → Int32 → Int32 → rf_m → Option (Int32 × rf_m)) (a1 : Int32) (a3 : Int32) (s0 : Int32) (m : rf_m) : Option (Int32 × rf_m) := rec14 a1 s0 (a3 + 1) m
def g_X14_isKeptNow_36 (w : rf_w) (rec14 : Int32 → Int32 → Int32 → rf_m → Option (Int32 × rf_m)) (a1 : Int32) (a3 : Int32) (m : rf_m) : Option (Int32 × rf_m) := g_X14_isKeptNow_41 w rec14 a1 a3 1 m
def g_X14_isKeptNow_14_b (w : rf_w) (rec14 : Int32 → Int32 → Int32 → rf_m → Option (Int32 × rf_m)) (a1 : Int32) (a2 : Int32) (a3 : Int32) (m : rf_m) : Option (Int32 × rf_m) := (if (m.1 206 34) ≤ a3 then rf_g (rf_01 a2) (some (a2, m)) else (if a2 = 0 then rf_g (rf_in a3 20) ((if (m.1 227 (Int32.toNatClampNeg a3)) = a1 then g_X14_isKeptNow_36 w rec14 a1 a3 m else g_X14_isKeptNow_41 w rec14 a1 a3 0 m)) else g_X14_isKeptNow_36 w rec14 a1 a3 m))
def g_X14_isKeptNow_14 (w : rf_w) : Nat → Int32 → Int32 → Int32 → rf_m → Option (Int32 × rf_m)
  | 0, _, _, _, _ => none
  | n + 1, a1, a2, a3, m => g_X14_isKeptNow_14_b w (g_X14_isKeptNow_14 w n) a1 a2 a3 m
def g_X14_isKeptNow (w : rf_w) (m : rf_m) (a1 : Int32) : Option (Int32 × rf_m) := rf_g (rf_in a1 1200) (rf_bv (g_X14_now w m (m.1 220 (Int32.toNatClampNeg a1))) fun m1 => g_X14_isKeptNow_14 w rf_fuel a1 0 0 m1)
theorem s_X14_isKeptNow_41 {w : rf_w} {K : rf_K} {r : Int32 × rf_m} (C : rf_Ctx 14 cX14_isKeptNow 4 8 (rf_sh w) K) (hE : rf_End (some .boolean) K (rf_sh w) 0 0 (some (.int r.1)) (rf_MM w r.2)) {rec14 : Int32 → Int32 → Int32 → rf_m → Option (Int32 × rf_m)} (hr14 : ∀ (a1 : Int32) (a2 : Int32) (a3 : Int32) (m : rf_m), rec14 a1 a2 a3 m = some r → rf_V 4 (rf_sh w) K 0 0 14 ([(0, .ref 206), (1, .int a1), (2, .int a2), (3, .int a3)], [], rf_MM w m)) (a1 : Int32) (a3 : Int32) (s0 : Int32) (m : rf_m) (hg : g_X14_isKeptNow_41 w rec14 a1 a3 s0 m = some r) : rf_V 4 (rf_sh w) K 0 0 41 ([(0, .ref 206), (1, .int a1), (3, .int a3)], [.int s0], rf_MM w m) := by
  unfold g_X14_isKeptNow_41 at hg
  refine rf_seg C [(.istore 2, 1), (.iinc 3 1, 3)] (pc' := 45) (S' := ([(3, .int (a3 + 1)), (2, .int s0), (0, .ref 206), (1, .int a1)], [], rf_MM w m)) (by decide +kernel) rfl trivial ?_
  refine rf_goto C (-31) 14 (by decide +kernel) ?_
  refine rf_few [2, 3, 1, 0] rfl ?_
  exact hr14 a1 s0 (a3 + 1) m hg
theorem s_X14_isKeptNow_36 {w : rf_w} {K : rf_K} {r : Int32 × rf_m} (C : rf_Ctx 14 cX14_isKeptNow 4 8 (rf_sh w) K) (hE : rf_End (some .boolean) K (rf_sh w) 0 0 (some (.int r.1)) (rf_MM w r.2)) {rec14 : Int32 → Int32 → Int32 → rf_m → Option (Int32 × rf_m)} (hr14 : ∀ (a1 : Int32) (a2 : Int32) (a3 : Int32) (m : rf_m), rec14 a1 a2 a3 m = some r → rf_V 4 (rf_sh w) K 0 0 14 ([(0, .ref 206), (1, .int a1), (2, .int a2), (3, .int a3)], [], rf_MM w m)) (a1 : Int32) (a3 : Int32) (m : rf_m) (hg : g_X14_isKeptNow_36 w rec14 a1 a3 m = some r) : rf_V 4 (rf_sh w) K 0 0 36 ([(0, .ref 206), (1, .int a1), (3, .int a3)], [], rf_MM w m) := by
  unfold g_X14_isKeptNow_36 at hg
  refine rf_seg C [(.iconst 1, 1)] (pc' := 37) (S' := ([(0, .ref 206), (1, .int a1), (3, .int a3)], [.int 1], rf_MM w m)) (by decide +kernel) rfl trivial ?_
  refine rf_goto C 4 41 (by decide +kernel) ?_
  refine rf_few [0, 1, 2] rfl ?_
  exact s_X14_isKeptNow_41 C hE hr14 a1 a3 1 m hg
theorem s_X14_isKeptNow_14_b {w : rf_w} {K : rf_K} {r : Int32 × rf_m} (C : rf_Ctx 14 cX14_isKeptNow 4 8 (rf_sh w) K) (hE : rf_End (some .boolean) K (rf_sh w) 0 0 (some (.int r.1)) (rf_MM w r.2)) {rec14 : Int32 → Int32 → Int32 → rf_m → Option (Int32 × rf_m)} (hr14 : ∀ (a1 : Int32) (a2 : Int32) (a3 : Int32) (m : rf_m), rec14 a1 a2 a3 m = some r → rf_V 4 (rf_sh w) K 0 0 14 ([(0, .ref 206), (1, .int a1), (2, .int a2), (3, .int a3)], [], rf_MM w m)) (a1 : Int32) (a2 : Int32) (a3 : Int32) (m : rf_m) (hg : g_X14_isKeptNow_14_b w rec14 a1 a2 a3 m = some r) : rf_V 4 (rf_sh w) K 0 0 14 ([(0, .ref 206), (1, .int a1), (2, .int a2), (3, .int a3)], [], rf_MM w m) := by
  unfold g_X14_isKeptNow_14_b at hg
  refine rf_seg C [(.iload 3, 1), (.aload 0, 1), (.invokeinterface 14 34, 3)] (pc' := 19) (S' := ([(0, .ref 206), (1, .int a1), (2, .int a2), (3, .int a3)], [.int (m.1 206 34), .int a3], rf_MM w m)) (by decide +kernel) rfl trivial ?_
  refine rf_icmp_ge C 29 48 (by decide +kernel) (fun hc => ?_) (fun hc => ?_)
  · replace hg := (if_pos hc).symm.trans hg
    refine rf_seg C [(.iload 2, 1)] (pc' := 49) (S' := ([(0, .ref 206), (1, .int a1), (2, .int a2), (3, .int a3)], [.int a2], rf_MM w m)) (by decide +kernel) rfl trivial ?_
    obtain ⟨q01, hg⟩ := rf_g_some hg
    obtain rfl := Option.some.inj hg
    exact rf_zret C hE (rf_01_of q01) (by decide +kernel)
  · replace hg := (if_neg hc).symm.trans hg
    refine rf_seg C [(.iload 2, 1)] (pc' := 23) (S' := ([(0, .ref 206), (1, .int a1), (2, .int a2), (3, .int a3)], [.int a2], rf_MM w m)) (by decide +kernel) rfl trivial ?_
    refine rf_if_ne C 13 36 (by decide +kernel) (fun hc => ?_) (fun hc => ?_)
    · replace hg := (if_neg hc).symm.trans hg
      refine rf_few [0, 1, 3] rfl ?_
      exact s_X14_isKeptNow_36 C hE hr14 a1 a3 m hg
    · replace hg := (if_pos hc).symm.trans hg
      obtain ⟨q0, hg⟩ := rf_g_some hg
      refine rf_seg C [(.aload 0, 1), (.invokeinterface 14 31, 3), (.iload 3, 1), (.iaload, 1), (.iload 1, 1)] (pc' := 33) (S' := ([(0, .ref 206), (1, .int a1), (2, .int a2), (3, .int a3)], [.int a1, .int (m.1 227 (Int32.toNatClampNeg a3))], rf_MM w m)) (by decide +kernel) rfl (rf_in_of q0) ?_
      refine rf_icmp_ne C 7 40 (by decide +kernel) (fun hc => ?_) (fun hc => ?_)
      · replace hg := (if_neg hc).symm.trans hg
        refine rf_seg C [(.iconst 0, 1)] (pc' := 41) (S' := ([(0, .ref 206), (1, .int a1), (2, .int a2), (3, .int a3)], [.int 0], rf_MM w m)) (by decide +kernel) rfl trivial ?_
        refine rf_few [0, 1, 3] rfl ?_
        exact s_X14_isKeptNow_41 C hE hr14 a1 a3 0 m hg
      · replace hg := (if_pos hc).symm.trans hg
        refine rf_few [0, 1, 3] rfl ?_
        exact s_X14_isKeptNow_36 C hE hr14 a1 a3 m hg
theorem s_X14_isKeptNow_14 {w : rf_w} {K : rf_K} {r : Int32 × rf_m} (C : rf_Ctx 14 cX14_isKeptNow 4 8 (rf_sh w) K) (hE : rf_End (some .boolean) K (rf_sh w) 0 0 (some (.int r.1)) (rf_MM w r.2)) (n : Nat) : ∀ (a1 : Int32) (a2 : Int32) (a3 : Int32) (m : rf_m), g_X14_isKeptNow_14 w n a1 a2 a3 m = some r → rf_V 4 (rf_sh w) K 0 0 14 ([(0, .ref 206), (1, .int a1), (2, .int a2), (3, .int a3)], [], rf_MM w m) := by
  induction n with
  | zero => intro a1 a2 a3 m hg; cases hg
  | succ n ih => intro a1 a2 a3 m hg; exact s_X14_isKeptNow_14_b C hE ih a1 a2 a3 m hg
theorem c_X14_isKeptNow {w : rf_w} {m : rf_m} {a1 : Int32} {r : Int32 × rf_m} (hg : g_X14_isKeptNow w m a1 = some r) : rf_Con j_X14_isKeptNow 8 (rf_sh w) [.ref 206, .int a1] (rf_MM w m) (some (.int r.1)) (rf_MM w r.2) := by
  refine rf_con j_X14_isKeptNow 8 ⟨by decide +kernel, rfl, Nat.le_of_ble_eq_true rfl⟩ (fun K C hE => ?_)
  unfold g_X14_isKeptNow at hg
  show rf_V 4 (rf_sh w) K 0 0 0 ([(0, .ref 206), (1, .int a1)], [], rf_MM w m)
  obtain ⟨q0, hg⟩ := rf_g_some hg
  refine rf_seg C [(.aload 0, 1), (.aload 0, 1), (.invokeinterface 14 24, 3), (.iload 1, 1), (.iaload, 1)] (pc' := 7) (S' := ([(0, .ref 206), (1, .int a1)], [.int (m.1 220 (Int32.toNatClampNeg a1)), .ref 206], rf_MM w m)) (by decide +kernel) rfl (rf_in_of q0) ?_
  obtain ⟨m1, hc1, hg⟩ := rf_bv_some hg
  refine rf_callv C rf_fit0 j_X14_now (ci := 14) (As := [.int (m.1 220 (Int32.toNatClampNeg a1))]) (rest := []) mw_X14_now (c_X14_now hc1) (by decide) rfl (by decide) lk_14_469 rfl rfl (Nat.le_of_ble_eq_true rfl) (by decide +kernel) ?_
  show rf_V 4 (rf_sh w) K 0 0 10 ([(0, .ref 206), (1, .int a1)], [], rf_MM w m1)
  refine rf_seg C [(.iconst 0, 1), (.istore 2, 1), (.iconst 0, 1), (.istore 3, 1)] (pc' := 14) (S' := ([(3, .int 0), (2, .int 0), (0, .ref 206), (1, .int a1)], [], rf_MM w m1)) (by decide +kernel) rfl trivial ?_
  refine rf_few [2, 3, 1, 0] rfl ?_
  exact s_X14_isKeptNow_14 C hE rf_fuel a1 0 0 m1 hg
-- X14_suspect
abbrev j_X14_suspect : rf_J := (14, yX14_suspect, cX14_suspect, 4, (some .int))
theorem mw_X14_suspect : rf_mv j_X14_suspect (rf_R 14) 1 := ⟨⟨rf_mem 84 (by decide +kernel), rf_mem 84 (by decide +kernel), rf_mem 0 (by decide +kernel), rf_mem 84 (by decide +kernel)⟩, by decide +kernel, by decide⟩
def g_X14_suspect_131 (w : rf_w) (a1 : Int32) (a3 : Int32) (m : rf_m) : Option (Int32 × rf_m) := rf_g (rf_in a3 12) (rf_b (g_X14_done w (rf_i (rf_i m 282 (Int32.toNatClampNeg a3) a1) 206 116 (((rf_i m 282 (Int32.toNatClampNeg a3) a1).1 206 116) + 1)) ((rf_i (rf_i m 282 (Int32.toNatClampNeg a3) a1) 206 116 (((rf_i m 282 (Int32.toNatClampNeg a3) a1).1 206 116) + 1)).1 206 116)) fun y1 m1 => some (y1, m1))
def g_X14_suspect_95_b (w : rf_w) (rec95 : Int32 → Int32 → rf_m → Option (Int32 × rf_m)) (a1 : Int32) (a3 : Int32) (m : rf_m) : Option (Int32 × rf_m) := (if a3 ≤ 0 then g_X14_suspect_131 w a1 a3 m else rf_g (rf_in (a3 - 1) 12) ((if (m.1 282 (Int32.toNatClampNeg (a3 - 1))) ≤ a1 then g_X14_suspect_131 w a1 a3 m else rf_g (rf_in (a3 - 1) 12) (rf_g (rf_in a3 12) (rec95 a1 (a3 + (-1)) (rf_i m 282 (Int32.toNatClampNeg a3) (m.1 282 (Int32.toNatClampNeg (a3 - 1)))))))))
def g_X14_suspect_95 (w : rf_w) : Nat → Int32 → Int32 → rf_m → Option (Int32 × rf_m)
  | 0, _, _, _ => none
  | n + 1, a1, a3, m => g_X14_suspect_95_b w (g_X14_suspect_95 w n) a1 a3 m
def g_X14_suspect_50 (w : rf_w) (rec23 : Int32 → Int32 → Int32 → rf_m → Option (Int32 × rf_m)) (a1 : Int32) (a3 : Int32) (s0 : Int32) (m : rf_m) : Option (Int32 × rf_m) := rec23 a1 s0 (a3 + 1) m
def g_X14_suspect_45 (w : rf_w) (rec23 : Int32 → Int32 → Int32 → rf_m → Option (Int32 × rf_m)) (a1 : Int32) (a3 : Int32) (m : rf_m) : Option (Int32 × rf_m) := g_X14_suspect_50 w rec23 a1 a3 1 m
def g_X14_suspect_23_b (w : rf_w) (rec23 : Int32 → Int32 → Int32 → rf_m → Option (Int32 × rf_m)) (a1 : Int32) (a2 : Int32) (a3 : Int32) (m : rf_m) : Option (Int32 × rf_m) := (if (m.1 206 116) ≤ a3 then (if a2 = 0 then rf_b (g_X14_isKeptNow w m a1) fun y1 m1 => (if y1 = 0 then rf_b (g_X14_refused w m1 5) fun y3 m3 => some (y3, m3) else (if (m1.1 206 116) = 12 then rf_b (g_X14_refused w m1 3) fun y2 m2 => some (y2, m2) else g_X14_suspect_95 w rf_fuel a1 (m1.1 206 116) m1)) else rf_b (g_X14_refused w m 5) fun y0 m0 => some (y0, m0)) else (if a2 = 0 then rf_g (rf_in a3 12) ((if (m.1 282 (Int32.toNatClampNeg a3)) = a1 then g_X14_suspect_45 w rec23 a1 a3 m else g_X14_suspect_50 w rec23 a1 a3 0 m)) else g_X14_suspect_45 w rec23 a1 a3 m))
def g_X14_suspect_23 (w : rf_w) : Nat → Int32 → Int32 → Int32 → rf_m → Option (Int32 × rf_m)
  | 0, _, _, _, _ => none
  | n + 1, a1, a2, a3, m => g_X14_suspect_23_b w (g_X14_suspect_23 w n) a1 a2 a3 m
def g_X14_suspect (w : rf_w) (m : rf_m) (a1 : Int32) : Option (Int32 × rf_m) := rf_b (g_X14_isReading w (rf_i m 206 0 0) a1) fun y0 m0 => (if y0 = 0 then rf_b (g_X14_refused w m0 1) fun y1 m1 => some (y1, m1) else g_X14_suspect_23 w rf_fuel a1 0 0 m0)
theorem s_X14_suspect_131 {w : rf_w} {K : rf_K} {r : Int32 × rf_m} (C : rf_Ctx 14 cX14_suspect 4 9 (rf_sh w) K) (hE : rf_End (some .int) K (rf_sh w) 0 0 (some (.int r.1)) (rf_MM w r.2)) (a1 : Int32) (a3 : Int32) (m : rf_m) (hg : g_X14_suspect_131 w a1 a3 m = some r) : rf_V 4 (rf_sh w) K 0 0 131 ([(0, .ref 206), (1, .int a1), (3, .int a3)], [], rf_MM w m) := by
  unfold g_X14_suspect_131 at hg
  obtain ⟨q0, hg⟩ := rf_g_some hg
  refine rf_seg C [(.aload 0, 1), (.invokeinterface 14 119, 3), (.iload 3, 1), (.iload 1, 1), (.iastore, 1), (.aload 0, 1), (.dup, 1), (.invokeinterface 14 116, 3), (.iconst 1, 1), (.iadd, 1), (.multianewarray 14 116, 3), (.aload 0, 1), (.aload 0, 1), (.invokeinterface 14 116, 3)] (pc' := 153) (S' := ([(0, .ref 206), (1, .int a1), (3, .int a3)], [.int ((rf_i (rf_i m 282 (Int32.toNatClampNeg a3) a1) 206 116 (((rf_i m 282 (Int32.toNatClampNeg a3) a1).1 206 116) + 1)).1 206 116), .ref 206], rf_MM w (rf_i (rf_i m 282 (Int32.toNatClampNeg a3) a1) 206 116 (((rf_i m 282 (Int32.toNatClampNeg a3) a1).1 206 116) + 1)))) (by decide +kernel) rfl (rf_in_of q0) ?_
  obtain ⟨y1, m1, hc1, hg⟩ := rf_b_some hg
  refine rf_callv C rf_fit0 j_X14_done (ci := 14) (As := [.int ((rf_i (rf_i m 282 (Int32.toNatClampNeg a3) a1) 206 116 (((rf_i m 282 (Int32.toNatClampNeg a3) a1).1 206 116) + 1)).1 206 116)]) (rest := []) mw_X14_done (c_X14_done hc1) (by decide) rfl (by decide) lk_14_357 rfl rfl (Nat.le_of_ble_eq_true rfl) (by decide +kernel) ?_
  show rf_V 4 (rf_sh w) K 0 0 156 ([(0, .ref 206), (1, .int a1), (3, .int a3)], [.int y1], rf_MM w m1)
  obtain rfl := Option.some.inj hg
  exact rf_iret C hE (by decide +kernel)
theorem s_X14_suspect_95_b {w : rf_w} {K : rf_K} {r : Int32 × rf_m} (C : rf_Ctx 14 cX14_suspect 4 9 (rf_sh w) K) (hE : rf_End (some .int) K (rf_sh w) 0 0 (some (.int r.1)) (rf_MM w r.2)) {rec95 : Int32 → Int32 → rf_m → Option (Int32 × rf_m)} (hr95 : ∀ (a1 : Int32) (a3 : Int32) (m : rf_m), rec95 a1 a3 m = some r → rf_V 4 (rf_sh w) K 0 0 95 ([(0, .ref 206), (1, .int a1), (3, .int a3)], [], rf_MM w m)) (a1 : Int32) (a3 : Int32) (m : rf_m) (hg : g_X14_suspect_95_b w rec95 a1 a3 m = some r) : rf_V 4 (rf_sh w) K 0 0 95 ([(0, .ref 206), (1, .int a1), (3, .int a3)], [], rf_MM w m) := by
  unfold g_X14_suspect_95_b at hg
  refine rf_seg C [(.iload 3, 1)] (pc' := 96) (S' := ([(0, .ref 206), (1, .int a1), (3, .int a3)], [.int a3], rf_MM w m)) (by decide +kernel) rfl trivial ?_
  refine rf_if_le C 35 131 (by decide +kernel) (fun hc => ?_) (fun hc => ?_)
  · replace hg := (if_pos hc).symm.trans hg
    refine rf_few [0, 1, 2] rfl ?_
    exact s_X14_suspect_131 C hE a1 a3 m hg
  · replace hg := (if_neg hc).symm.trans hg
    obtain ⟨q0, hg⟩ := rf_g_some hg
    refine rf_seg C [(.aload 0, 1), (.invokeinterface 14 119, 3), (.iload 3, 1), (.iconst 1, 1), (.isub, 1), (.iaload, 1), (.iload 1, 1)] (pc' := 108) (S' := ([(0, .ref 206), (1, .int a1), (3, .int a3)], [.int a1, .int (m.1 282 (Int32.toNatClampNeg (a3 - 1)))], rf_MM w m)) (by decide +kernel) rfl (rf_in_of q0) ?_
    refine rf_icmp_le C 23 131 (by decide +kernel) (fun hc => ?_) (fun hc => ?_)
    · replace hg := (if_pos hc).symm.trans hg
      refine rf_few [0, 1, 2] rfl ?_
      exact s_X14_suspect_131 C hE a1 a3 m hg
    · replace hg := (if_neg hc).symm.trans hg
      obtain ⟨q1, hg⟩ := rf_g_some hg
      obtain ⟨q2, hg⟩ := rf_g_some hg
      refine rf_seg C [(.aload 0, 1), (.invokeinterface 14 119, 3), (.iload 3, 1), (.aload 0, 1), (.invokeinterface 14 119, 3), (.iload 3, 1), (.iconst 1, 1), (.isub, 1), (.iaload, 1), (.iastore, 1), (.iinc 3 (-1), 3)] (pc' := 128) (S' := ([(3, .int (a3 + (-1))), (0, .ref 206), (1, .int a1)], [], rf_MM w (rf_i m 282 (Int32.toNatClampNeg a3) (m.1 282 (Int32.toNatClampNeg (a3 - 1)))))) (by decide +kernel) rfl (by exact ⟨(rf_in_of q1), (rf_in_of q2)⟩) ?_
      refine rf_goto C (-33) 95 (by decide +kernel) ?_
      refine rf_few [1, 2, 0] rfl ?_
      exact hr95 a1 (a3 + (-1)) (rf_i m 282 (Int32.toNatClampNeg a3) (m.1 282 (Int32.toNatClampNeg (a3 - 1)))) hg
theorem s_X14_suspect_95 {w : rf_w} {K : rf_K} {r : Int32 × rf_m} (C : rf_Ctx 14 cX14_suspect 4 9 (rf_sh w) K) (hE : rf_End (some .int) K (rf_sh w) 0 0 (some (.int r.1)) (rf_MM w r.2)) (n : Nat) : ∀ (a1 : Int32) (a3 : Int32) (m : rf_m), g_X14_suspect_95 w n a1 a3 m = some r → rf_V 4 (rf_sh w) K 0 0 95 ([(0, .ref 206), (1, .int a1), (3, .int a3)], [], rf_MM w m) := by
  induction n with
  | zero => intro a1 a3 m hg; cases hg
  | succ n ih => intro a1 a3 m hg; exact s_X14_suspect_95_b C hE ih a1 a3 m hg
theorem s_X14_suspect_50 {w : rf_w} {K : rf_K} {r : Int32 × rf_m} (C : rf_Ctx 14 cX14_suspect 4 9 (rf_sh w) K) (hE : rf_End (some .int) K (rf_sh w) 0 0 (some (.int r.1)) (rf_MM w r.2)) {rec23 : Int32 → Int32 → Int32 → rf_m → Option (Int32 × rf_m)} (hr23 : ∀ (a1 : Int32) (a2 : Int32) (a3 : Int32) (m : rf_m), rec23 a1 a2 a3 m = some r → rf_V 4 (rf_sh w) K 0 0 23 ([(0, .ref 206), (1, .int a1), (2, .int a2), (3, .int a3)], [], rf_MM w m)) (a1 : Int32) (a3 : Int32) (s0 : Int32) (m : rf_m) (hg : g_X14_suspect_50 w rec23 a1 a3 s0 m = some r) : rf_V 4 (rf_sh w) K 0 0 50 ([(0, .ref 206), (1, .int a1), (3, .int a3)], [.int s0], rf_MM w m) := by
  unfold g_X14_suspect_50 at hg
  refine rf_seg C [(.istore 2, 1), (.iinc 3 1, 3)] (pc' := 54) (S' := ([(3, .int (a3 + 1)), (2, .int s0), (0, .ref 206), (1, .int a1)], [], rf_MM w m)) (by decide +kernel) rfl trivial ?_
  refine rf_goto C (-31) 23 (by decide +kernel) ?_
  refine rf_few [2, 3, 1, 0] rfl ?_
  exact hr23 a1 s0 (a3 + 1) m hg
theorem s_X14_suspect_45 {w : rf_w} {K : rf_K} {r : Int32 × rf_m} (C : rf_Ctx 14 cX14_suspect 4 9 (rf_sh w) K) (hE : rf_End (some .int) K (rf_sh w) 0 0 (some (.int r.1)) (rf_MM w r.2)) {rec23 : Int32 → Int32 → Int32 → rf_m → Option (Int32 × rf_m)} (hr23 : ∀ (a1 : Int32) (a2 : Int32) (a3 : Int32) (m : rf_m), rec23 a1 a2 a3 m = some r → rf_V 4 (rf_sh w) K 0 0 23 ([(0, .ref 206), (1, .int a1), (2, .int a2), (3, .int a3)], [], rf_MM w m)) (a1 : Int32) (a3 : Int32) (m : rf_m) (hg : g_X14_suspect_45 w rec23 a1 a3 m = some r) : rf_V 4 (rf_sh w) K 0 0 45 ([(0, .ref 206), (1, .int a1), (3, .int a3)], [], rf_MM w m) := by
  unfold g_X14_suspect_45 at hg
  refine rf_seg C [(.iconst 1, 1)] (pc' := 46) (S' := ([(0, .ref 206), (1, .int a1), (3, .int a3)], [.int 1], rf_MM w m)) (by decide +kernel) rfl trivial ?_
  refine rf_goto C 4 50 (by decide +kernel) ?_
  refine rf_few [0, 1, 2] rfl ?_
  exact s_X14_suspect_50 C hE hr23 a1 a3 1 m hg
theorem s_X14_suspect_23_b {w : rf_w} {K : rf_K} {r : Int32 × rf_m} (C : rf_Ctx 14 cX14_suspect 4 9 (rf_sh w) K) (hE : rf_End (some .int) K (rf_sh w) 0 0 (some (.int r.1)) (rf_MM w r.2)) {rec23 : Int32 → Int32 → Int32 → rf_m → Option (Int32 × rf_m)} (hr23 : ∀ (a1 : Int32) (a2 : Int32) (a3 : Int32) (m : rf_m), rec23 a1 a2 a3 m = some r → rf_V 4 (rf_sh w) K 0 0 23 ([(0, .ref 206), (1, .int a1), (2, .int a2), (3, .int a3)], [], rf_MM w m)) (a1 : Int32) (a2 : Int32) (a3 : Int32) (m : rf_m) (hg : g_X14_suspect_23_b w rec23 a1 a2 a3 m = some r) : rf_V 4 (rf_sh w) K 0 0 23 ([(0, .ref 206), (1, .int a1), (2, .int a2), (3, .int a3)], [], rf_MM w m) := by
  unfold g_X14_suspect_23_b at hg
  refine rf_seg C [(.iload 3, 1), (.aload 0, 1), (.invokeinterface 14 116, 3)] (pc' := 28) (S' := ([(0, .ref 206), (1, .int a1), (2, .int a2), (3, .int a3)], [.int (m.1 206 116), .int a3], rf_MM w m)) (by decide +kernel) rfl trivial ?_
  refine rf_icmp_ge C 29 57 (by decide +kernel) (fun hc => ?_) (fun hc => ?_)
  · replace hg := (if_pos hc).symm.trans hg
    refine rf_seg C [(.iload 2, 1)] (pc' := 58) (S' := ([(0, .ref 206), (1, .int a1), (2, .int a2), (3, .int a3)], [.int a2], rf_MM w m)) (by decide +kernel) rfl trivial ?_
    refine rf_if_ne C 11 69 (by decide +kernel) (fun hc => ?_) (fun hc => ?_)
    · replace hg := (if_neg hc).symm.trans hg
      refine rf_seg C [(.aload 0, 1), (.iconst 5, 1)] (pc' := 71) (S' := ([(0, .ref 206), (1, .int a1), (2, .int a2), (3, .int a3)], [.int 5, .ref 206], rf_MM w m)) (by decide +kernel) rfl trivial ?_
      obtain ⟨y0, m0, hc0, hg⟩ := rf_b_some hg
      refine rf_callv C rf_fit0 j_X14_refused (ci := 14) (As := [.int 5]) (rest := []) mw_X14_refused (c_X14_refused hc0) (by decide) rfl (by decide) lk_14_353 rfl rfl (Nat.le_of_ble_eq_true rfl) (by decide +kernel) ?_
      show rf_V 4 (rf_sh w) K 0 0 74 ([(0, .ref 206), (1, .int a1), (2, .int a2), (3, .int a3)], [.int y0], rf_MM w m0)
      obtain rfl := Option.some.inj hg
      exact rf_iret C hE (by decide +kernel)
    · replace hg := (if_pos hc).symm.trans hg
      refine rf_seg C [(.aload 0, 1), (.iload 1, 1)] (pc' := 63) (S' := ([(0, .ref 206), (1, .int a1), (2, .int a2), (3, .int a3)], [.int a1, .ref 206], rf_MM w m)) (by decide +kernel) rfl trivial ?_
      obtain ⟨y1, m1, hc1, hg⟩ := rf_b_some hg
      refine rf_callv C rf_fit0 j_X14_isKeptNow (ci := 14) (As := [.int a1]) (rest := []) mw_X14_isKeptNow (c_X14_isKeptNow hc1) (by decide) rfl (by decide) lk_14_861 rfl rfl (Nat.le_of_ble_eq_true rfl) (by decide +kernel) ?_
      show rf_V 4 (rf_sh w) K 0 0 66 ([(0, .ref 206), (1, .int a1), (2, .int a2), (3, .int a3)], [.int y1], rf_MM w m1)
      refine rf_if_ne C 9 75 (by decide +kernel) (fun hc => ?_) (fun hc => ?_)
      · replace hg := (if_neg hc).symm.trans hg
        refine rf_seg C [(.aload 0, 1), (.invokeinterface 14 116, 3), (.iconst 12, 2)] (pc' := 81) (S' := ([(0, .ref 206), (1, .int a1), (2, .int a2), (3, .int a3)], [.int 12, .int (m1.1 206 116)], rf_MM w m1)) (by decide +kernel) rfl trivial ?_
        refine rf_icmp_ne C 9 90 (by decide +kernel) (fun hc => ?_) (fun hc => ?_)
        · replace hg := (if_neg hc).symm.trans hg
          refine rf_seg C [(.aload 0, 1), (.invokeinterface 14 116, 3), (.istore 3, 1)] (pc' := 95) (S' := ([(3, .int (m1.1 206 116)), (0, .ref 206), (1, .int a1), (2, .int a2)], [], rf_MM w m1)) (by decide +kernel) rfl trivial ?_
          refine rf_few [1, 2, 0] rfl ?_
          exact s_X14_suspect_95 C hE rf_fuel a1 (m1.1 206 116) m1 hg
        · replace hg := (if_pos hc).symm.trans hg
          refine rf_seg C [(.aload 0, 1), (.iconst 3, 1)] (pc' := 86) (S' := ([(0, .ref 206), (1, .int a1), (2, .int a2), (3, .int a3)], [.int 3, .ref 206], rf_MM w m1)) (by decide +kernel) rfl trivial ?_
          obtain ⟨y2, m2, hc2, hg⟩ := rf_b_some hg
          refine rf_callv C rf_fit0 j_X14_refused (ci := 14) (As := [.int 3]) (rest := []) mw_X14_refused (c_X14_refused hc2) (by decide) rfl (by decide) lk_14_353 rfl rfl (Nat.le_of_ble_eq_true rfl) (by decide +kernel) ?_
          show rf_V 4 (rf_sh w) K 0 0 89 ([(0, .ref 206), (1, .int a1), (2, .int a2), (3, .int a3)], [.int y2], rf_MM w m2)
          obtain rfl := Option.some.inj hg
          exact rf_iret C hE (by decide +kernel)
      · replace hg := (if_pos hc).symm.trans hg
        refine rf_seg C [(.aload 0, 1), (.iconst 5, 1)] (pc' := 71) (S' := ([(0, .ref 206), (1, .int a1), (2, .int a2), (3, .int a3)], [.int 5, .ref 206], rf_MM w m1)) (by decide +kernel) rfl trivial ?_
        obtain ⟨y3, m3, hc3, hg⟩ := rf_b_some hg
        refine rf_callv C rf_fit0 j_X14_refused (ci := 14) (As := [.int 5]) (rest := []) mw_X14_refused (c_X14_refused hc3) (by decide) rfl (by decide) lk_14_353 rfl rfl (Nat.le_of_ble_eq_true rfl) (by decide +kernel) ?_
        show rf_V 4 (rf_sh w) K 0 0 74 ([(0, .ref 206), (1, .int a1), (2, .int a2), (3, .int a3)], [.int y3], rf_MM w m3)
        obtain rfl := Option.some.inj hg
        exact rf_iret C hE (by decide +kernel)
  · replace hg := (if_neg hc).symm.trans hg
    refine rf_seg C [(.iload 2, 1)] (pc' := 32) (S' := ([(0, .ref 206), (1, .int a1), (2, .int a2), (3, .int a3)], [.int a2], rf_MM w m)) (by decide +kernel) rfl trivial ?_
    refine rf_if_ne C 13 45 (by decide +kernel) (fun hc => ?_) (fun hc => ?_)
    · replace hg := (if_neg hc).symm.trans hg
      refine rf_few [0, 1, 3] rfl ?_
      exact s_X14_suspect_45 C hE hr23 a1 a3 m hg
    · replace hg := (if_pos hc).symm.trans hg
      obtain ⟨q4, hg⟩ := rf_g_some hg
      refine rf_seg C [(.aload 0, 1), (.invokeinterface 14 119, 3), (.iload 3, 1), (.iaload, 1), (.iload 1, 1)] (pc' := 42) (S' := ([(0, .ref 206), (1, .int a1), (2, .int a2), (3, .int a3)], [.int a1, .int (m.1 282 (Int32.toNatClampNeg a3))], rf_MM w m)) (by decide +kernel) rfl (rf_in_of q4) ?_
      refine rf_icmp_ne C 7 49 (by decide +kernel) (fun hc => ?_) (fun hc => ?_)
      · replace hg := (if_neg hc).symm.trans hg
        refine rf_seg C [(.iconst 0, 1)] (pc' := 50) (S' := ([(0, .ref 206), (1, .int a1), (2, .int a2), (3, .int a3)], [.int 0], rf_MM w m)) (by decide +kernel) rfl trivial ?_
        refine rf_few [0, 1, 3] rfl ?_
        exact s_X14_suspect_50 C hE hr23 a1 a3 0 m hg
      · replace hg := (if_pos hc).symm.trans hg
        refine rf_few [0, 1, 3] rfl ?_
        exact s_X14_suspect_45 C hE hr23 a1 a3 m hg
theorem s_X14_suspect_23 {w : rf_w} {K : rf_K} {r : Int32 × rf_m} (C : rf_Ctx 14 cX14_suspect 4 9 (rf_sh w) K) (hE : rf_End (some .int) K (rf_sh w) 0 0 (some (.int r.1)) (rf_MM w r.2)) (n : Nat) : ∀ (a1 : Int32) (a2 : Int32) (a3 : Int32) (m : rf_m), g_X14_suspect_23 w n a1 a2 a3 m = some r → rf_V 4 (rf_sh w) K 0 0 23 ([(0, .ref 206), (1, .int a1), (2, .int a2), (3, .int a3)], [], rf_MM w m) := by
  induction n with
  | zero => intro a1 a2 a3 m hg; cases hg
  | succ n ih => intro a1 a2 a3 m hg; exact s_X14_suspect_23_b C hE ih a1 a2 a3 m hg
theorem c_X14_suspect {w : rf_w} {m : rf_m} {a1 : Int32} {r : Int32 × rf_m} (hg : g_X14_suspect w m a1 = some r) : rf_Con j_X14_suspect 9 (rf_sh w) [.ref 206, .int a1] (rf_MM w m) (some (.int r.1)) (rf_MM w r.2) := by
  refine rf_con j_X14_suspect 9 ⟨by decide +kernel, rfl, Nat.le_of_ble_eq_true rfl⟩ (fun K C hE => ?_)
  unfold g_X14_suspect at hg
  show rf_V 4 (rf_sh w) K 0 0 0 ([(0, .ref 206), (1, .int a1)], [], rf_MM w m)
  refine rf_seg C [(.aload 0, 1), (.iconst 0, 1), (.multianewarray 14 0, 3), (.aload 0, 1), (.iload 1, 1)] (pc' := 7) (S' := ([(0, .ref 206), (1, .int a1)], [.int a1, .ref 206], rf_MM w (rf_i m 206 0 0))) (by decide +kernel) rfl trivial ?_
  obtain ⟨y0, m0, hc0, hg⟩ := rf_b_some hg
  refine rf_callv C rf_fit0 j_X14_isReading (ci := 14) (As := [.int a1]) (rest := []) mw_X14_isReading (c_X14_isReading hc0) (by decide) rfl (by decide) lk_14_418 rfl rfl (Nat.le_of_ble_eq_true rfl) (by decide +kernel) ?_
  show rf_V 4 (rf_sh w) K 0 0 10 ([(0, .ref 206), (1, .int a1)], [.int y0], rf_MM w m0)
  refine rf_if_ne C 9 19 (by decide +kernel) (fun hc => ?_) (fun hc => ?_)
  · replace hg := (if_neg hc).symm.trans hg
    refine rf_seg C [(.iconst 0, 1), (.istore 2, 1), (.iconst 0, 1), (.istore 3, 1)] (pc' := 23) (S' := ([(3, .int 0), (2, .int 0), (0, .ref 206), (1, .int a1)], [], rf_MM w m0)) (by decide +kernel) rfl trivial ?_
    refine rf_few [2, 3, 1, 0] rfl ?_
    exact s_X14_suspect_23 C hE rf_fuel a1 0 0 m0 hg
  · replace hg := (if_pos hc).symm.trans hg
    refine rf_seg C [(.aload 0, 1), (.iconst 1, 1)] (pc' := 15) (S' := ([(0, .ref 206), (1, .int a1)], [.int 1, .ref 206], rf_MM w m0)) (by decide +kernel) rfl trivial ?_
    obtain ⟨y1, m1, hc1, hg⟩ := rf_b_some hg
    refine rf_callv C rf_fit0 j_X14_refused (ci := 14) (As := [.int 1]) (rest := []) mw_X14_refused (c_X14_refused hc1) (by decide) rfl (by decide) lk_14_353 rfl rfl (Nat.le_of_ble_eq_true rfl) (by decide +kernel) ?_
    show rf_V 4 (rf_sh w) K 0 0 18 ([(0, .ref 206), (1, .int a1)], [.int y1], rf_MM w m1)
    obtain rfl := Option.some.inj hg
    exact rf_iret C hE (by decide +kernel)
-- X14_clear
abbrev j_X14_clear : rf_J := (14, yX14_clear, cX14_clear, 2, (some .int))
theorem mw_X14_clear : rf_mv j_X14_clear (rf_R 14) 0 := ⟨⟨rf_mem 84 (by decide +kernel), rf_mem 84 (by decide +kernel), rf_mem 0 (by decide +kernel), rf_mem 84 (by decide +kernel)⟩, by decide +kernel, by decide⟩
def g_X14_clear (w : rf_w) (m : rf_m) : Option (Int32 × rf_m) := rf_vi ((rf_i m 206 0 0).1 206 116) fun x0 => some (x0, rf_i (rf_i m 206 0 0) 206 116 0)
theorem c_X14_clear {w : rf_w} {m : rf_m} {r : Int32 × rf_m} (hg : g_X14_clear w m = some r) : rf_Con j_X14_clear 1 (rf_sh w) [.ref 206] (rf_MM w m) (some (.int r.1)) (rf_MM w r.2) := by
  refine rf_con j_X14_clear 1 ⟨by decide +kernel, rfl, Nat.le_of_ble_eq_true rfl⟩ (fun K C hE => ?_)
  unfold g_X14_clear at hg
  show rf_V 2 (rf_sh w) K 0 0 0 ([(0, .ref 206)], [], rf_MM w m)
  refine rf_seg C [(.aload 0, 1), (.iconst 0, 1), (.multianewarray 14 0, 3), (.aload 0, 1), (.invokeinterface 14 116, 3)] (pc' := 9) (S' := ([(0, .ref 206)], [.int ((rf_i m 206 0 0).1 206 116)], rf_MM w (rf_i m 206 0 0))) (by decide +kernel) rfl trivial ?_
  obtain ⟨x0, hx0, hg⟩ := rf_vi_some hg
  refine rf_vi_top hx0 ?_
  refine rf_seg C [(.istore 1, 1), (.aload 0, 1), (.iconst 0, 1), (.multianewarray 14 116, 3), (.iload 1, 1)] (pc' := 16) (S' := ([(1, .int x0), (0, .ref 206)], [.int x0], rf_MM w (rf_i (rf_i m 206 0 0) 206 116 0))) (by decide +kernel) rfl trivial ?_
  obtain rfl := Option.some.inj hg
  exact rf_iret C hE (by decide +kernel)
-- X14_isRight
abbrev j_X14_isRight : rf_J := (14, yX14_isRight, cX14_isRight, 7, (some .boolean))
theorem mw_X14_isRight : rf_mv j_X14_isRight (rf_R 14) 3 := ⟨⟨rf_mem 86 (by decide +kernel), rf_mem 86 (by decide +kernel), rf_mem 0 (by decide +kernel), rf_mem 87 (by decide +kernel)⟩, by decide +kernel, by decide⟩
def g_X14_isRight_203 (w : rf_w) (rec156 : Int32 → Int32 → rf_m → Option (Int32 × rf_m)) (a3 : Int32) (a5 : Int32) (s1 : Int32) (s2 : Int32) (m : rf_m) : Option (Int32 × rf_m) := rf_g (rf_in s1 80) (rec156 a3 (a5 + 1) (rf_i m 248 (Int32.toNatClampNeg s1) s2))
def g_X14_isRight_156_b (w : rf_w) (rec156 : Int32 → Int32 → rf_m → Option (Int32 × rf_m)) (a3 : Int32) (a5 : Int32) (m : rf_m) : Option (Int32 × rf_m) := (if (m.1 206 16) ≤ a5 then rf_b (g_X14_wideOnes w m a3) fun y0 m0 => (if y0 = 0 then some (1, m0) else some (0, m0)) else rf_g (rf_in a5 80) ((if (m.1 286 (Int32.toNatClampNeg a5)) = 0 then g_X14_isRight_203 w rec156 a3 a5 a5 ((-2)) m else rf_g (rf_in a5 80) (rf_g (rf_in a5 80) (rf_g (rf_nzl (Int32.toInt64 (m.1 286 (Int32.toNatClampNeg a5)))) (g_X14_isRight_203 w rec156 a3 a5 a5 (Int64.toInt32 ((m.2 288 (Int32.toNatClampNeg a5)) / (Int32.toInt64 (m.1 286 (Int32.toNatClampNeg a5))))) m))))))
def g_X14_isRight_156 (w : rf_w) : Nat → Int32 → Int32 → rf_m → Option (Int32 × rf_m)
  | 0, _, _, _ => none
  | n + 1, a3, a5, m => g_X14_isRight_156_b w (g_X14_isRight_156 w n) a3 a5 m
def g_X14_isRight_140 (w : rf_w) (rec52 : Int32 → Int32 → Int32 → Int32 → Int32 → rf_m → Option (Int32 × rf_m)) (a1 : Int32) (a2 : Int32) (a3 : Int32) (a4 : Int32) (a5 : Int32) (m : rf_m) : Option (Int32 × rf_m) := rec52 a1 a2 a3 a4 (a5 + 1) m
def g_X14_isRight_138 (w : rf_w) (rec52 : Int32 → Int32 → Int32 → Int32 → Int32 → rf_m → Option (Int32 × rf_m)) (a1 : Int32) (a2 : Int32) (a3 : Int32) (a5 : Int32) (s0 : Int32) (m : rf_m) : Option (Int32 × rf_m) := g_X14_isRight_140 w rec52 a1 a2 a3 s0 a5 m
def g_X14_isRight_137 (w : rf_w) (rec52 : Int32 → Int32 → Int32 → Int32 → Int32 → rf_m → Option (Int32 × rf_m)) (a1 : Int32) (a2 : Int32) (a3 : Int32) (a5 : Int32) (m : rf_m) : Option (Int32 × rf_m) := g_X14_isRight_138 w rec52 a1 a2 a3 a5 0 m
def g_X14_isRight_52_b (w : rf_w) (rec52 : Int32 → Int32 → Int32 → Int32 → Int32 → rf_m → Option (Int32 × rf_m)) (a1 : Int32) (a2 : Int32) (a3 : Int32) (a4 : Int32) (a5 : Int32) (m : rf_m) : Option (Int32 × rf_m) := (if a1 ≤ a5 then (if a4 = 0 then some (0, m) else g_X14_isRight_156 w rf_fuel a3 0 m) else (if ((a2 >>> (a5 &&& 31)) &&& 1) = 0 then g_X14_isRight_140 w rec52 a1 a2 a3 a4 a5 m else rf_g (rf_in a5 12) (rf_g (rf_in (m.1 283 (Int32.toNatClampNeg a5)) 1200) (rf_vi (m.1 220 (Int32.toNatClampNeg (m.1 283 (Int32.toNatClampNeg a5)))) fun x2 => rf_g (rf_in x2 80) (rf_g (rf_in x2 80) (rf_g (rf_in x2 80) (rf_g (rf_in a5 12) (rf_g (rf_in ((rf_i m 286 (Int32.toNatClampNeg x2) ((m.1 286 (Int32.toNatClampNeg x2)) - 1)).1 283 (Int32.toNatClampNeg a5)) 1200) (rf_g (rf_in x2 80) ((if a4 = 0 then g_X14_isRight_137 w rec52 a1 a2 a3 a5 (rf_l (rf_i m 286 (Int32.toNatClampNeg x2) ((m.1 286 (Int32.toNatClampNeg x2)) - 1)) 288 (Int32.toNatClampNeg x2) (((rf_i m 286 (Int32.toNatClampNeg x2) ((m.1 286 (Int32.toNatClampNeg x2)) - 1)).2 288 (Int32.toNatClampNeg x2)) - (Int32.toInt64 ((rf_i m 286 (Int32.toNatClampNeg x2) ((m.1 286 (Int32.toNatClampNeg x2)) - 1)).1 221 (Int32.toNatClampNeg ((rf_i m 286 (Int32.toNatClampNeg x2) ((m.1 286 (Int32.toNatClampNeg x2)) - 1)).1 283 (Int32.toNatClampNeg a5))))))) else rf_g (rf_in x2 80) ((if ((rf_l (rf_i m 286 (Int32.toNatClampNeg x2) ((m.1 286 (Int32.toNatClampNeg x2)) - 1)) 288 (Int32.toNatClampNeg x2) (((rf_i m 286 (Int32.toNatClampNeg x2) ((m.1 286 (Int32.toNatClampNeg x2)) - 1)).2 288 (Int32.toNatClampNeg x2)) - (Int32.toInt64 ((rf_i m 286 (Int32.toNatClampNeg x2) ((m.1 286 (Int32.toNatClampNeg x2)) - 1)).1 221 (Int32.toNatClampNeg ((rf_i m 286 (Int32.toNatClampNeg x2) ((m.1 286 (Int32.toNatClampNeg x2)) - 1)).1 283 (Int32.toNatClampNeg a5))))))).1 286 (Int32.toNatClampNeg x2)) ≤ 0 then g_X14_isRight_137 w rec52 a1 a2 a3 a5 (rf_l (rf_i m 286 (Int32.toNatClampNeg x2) ((m.1 286 (Int32.toNatClampNeg x2)) - 1)) 288 (Int32.toNatClampNeg x2) (((rf_i m 286 (Int32.toNatClampNeg x2) ((m.1 286 (Int32.toNatClampNeg x2)) - 1)).2 288 (Int32.toNatClampNeg x2)) - (Int32.toInt64 ((rf_i m 286 (Int32.toNatClampNeg x2) ((m.1 286 (Int32.toNatClampNeg x2)) - 1)).1 221 (Int32.toNatClampNeg ((rf_i m 286 (Int32.toNatClampNeg x2) ((m.1 286 (Int32.toNatClampNeg x2)) - 1)).1 283 (Int32.toNatClampNeg a5))))))) else g_X14_isRight_138 w rec52 a1 a2 a3 a5 1 (rf_l (rf_i m 286 (Int32.toNatClampNeg x2) ((m.1 286 (Int32.toNatClampNeg x2)) - 1)) 288 (Int32.toNatClampNeg x2) (((rf_i m 286 (Int32.toNatClampNeg x2) ((m.1 286 (Int32.toNatClampNeg x2)) - 1)).2 288 (Int32.toNatClampNeg x2)) - (Int32.toInt64 ((rf_i m 286 (Int32.toNatClampNeg x2) ((m.1 286 (Int32.toNatClampNeg x2)) - 1)).1 221 (Int32.toNatClampNeg ((rf_i m 286 (Int32.toNatClampNeg x2) ((m.1 286 (Int32.toNatClampNeg x2)) - 1)).1 283 (Int32.toNatClampNeg a5))))))))))))))))))))
def g_X14_isRight_52 (w : rf_w) : Nat → Int32 → Int32 → Int32 → Int32 → Int32 → rf_m → Option (Int32 × rf_m)
  | 0, _, _, _, _, _, _ => none
  | n + 1, a1, a2, a3, a4, a5, m => g_X14_isRight_52_b w (g_X14_isRight_52 w n) a1 a2 a3 a4 a5 m
def g_X14_isRight_3_b (w : rf_w) (rec3 : Int32 → Int32 → Int32 → Int32 → rf_m → Option (Int32 × rf_m)) (a1 : Int32) (a2 : Int32) (a3 : Int32) (a4 : Int32) (m : rf_m) : Option (Int32 × rf_m) := (if (m.1 206 16) ≤ a4 then g_X14_isRight_52 w rf_fuel a1 a2 a3 1 0 m else rf_g (rf_in a4 80) (rf_g (rf_in a4 80) (rf_g (rf_in a4 80) (rf_g (rf_in a4 80) (rec3 a1 a2 a3 (a4 + 1) (rf_l (rf_i m 286 (Int32.toNatClampNeg a4) (m.1 285 (Int32.toNatClampNeg a4))) 288 (Int32.toNatClampNeg a4) ((rf_i m 286 (Int32.toNatClampNeg a4) (m.1 285 (Int32.toNatClampNeg a4))).2 287 (Int32.toNatClampNeg a4))))))))
def g_X14_isRight_3 (w : rf_w) : Nat → Int32 → Int32 → Int32 → Int32 → rf_m → Option (Int32 × rf_m)
  | 0, _, _, _, _, _ => none
  | n + 1, a1, a2, a3, a4, m => g_X14_isRight_3_b w (g_X14_isRight_3 w n) a1 a2 a3 a4 m
def g_X14_isRight (w : rf_w) (m : rf_m) (a1 : Int32) (a2 : Int32) (a3 : Int32) : Option (Int32 × rf_m) := g_X14_isRight_3 w rf_fuel a1 a2 a3 0 m
theorem s_X14_isRight_203 {w : rf_w} {K : rf_K} {r : Int32 × rf_m} (C : rf_Ctx 14 cX14_isRight 7 4 (rf_sh w) K) (hE : rf_End (some .boolean) K (rf_sh w) 0 0 (some (.int r.1)) (rf_MM w r.2)) {rec156 : Int32 → Int32 → rf_m → Option (Int32 × rf_m)} (hr156 : ∀ (a3 : Int32) (a5 : Int32) (m : rf_m), rec156 a3 a5 m = some r → rf_V 7 (rf_sh w) K 0 0 156 ([(0, .ref 206), (3, .int a3), (5, .int a5)], [], rf_MM w m)) (a3 : Int32) (a5 : Int32) (s1 : Int32) (s2 : Int32) (m : rf_m) (hg : g_X14_isRight_203 w rec156 a3 a5 s1 s2 m = some r) : rf_V 7 (rf_sh w) K 0 0 203 ([(0, .ref 206), (3, .int a3), (5, .int a5)], [.int s2, .int s1, .ref 248], rf_MM w m) := by
  unfold g_X14_isRight_203 at hg
  obtain ⟨q0, hg⟩ := rf_g_some hg
  refine rf_seg C [(.iastore, 1), (.iinc 5 1, 3)] (pc' := 207) (S' := ([(5, .int (a5 + 1)), (0, .ref 206), (3, .int a3)], [], rf_MM w (rf_i m 248 (Int32.toNatClampNeg s1) s2))) (by decide +kernel) rfl (rf_in_of q0) ?_
  refine rf_goto C (-51) 156 (by decide +kernel) ?_
  refine rf_few [1, 2, 0] rfl ?_
  exact hr156 a3 (a5 + 1) (rf_i m 248 (Int32.toNatClampNeg s1) s2) hg
theorem s_X14_isRight_156_b {w : rf_w} {K : rf_K} {r : Int32 × rf_m} (C : rf_Ctx 14 cX14_isRight 7 4 (rf_sh w) K) (hE : rf_End (some .boolean) K (rf_sh w) 0 0 (some (.int r.1)) (rf_MM w r.2)) {rec156 : Int32 → Int32 → rf_m → Option (Int32 × rf_m)} (hr156 : ∀ (a3 : Int32) (a5 : Int32) (m : rf_m), rec156 a3 a5 m = some r → rf_V 7 (rf_sh w) K 0 0 156 ([(0, .ref 206), (3, .int a3), (5, .int a5)], [], rf_MM w m)) (a3 : Int32) (a5 : Int32) (m : rf_m) (hg : g_X14_isRight_156_b w rec156 a3 a5 m = some r) : rf_V 7 (rf_sh w) K 0 0 156 ([(0, .ref 206), (3, .int a3), (5, .int a5)], [], rf_MM w m) := by
  unfold g_X14_isRight_156_b at hg
  refine rf_seg C [(.iload 5, 2), (.aload 0, 1), (.invokeinterface 14 16, 3)] (pc' := 162) (S' := ([(0, .ref 206), (3, .int a3), (5, .int a5)], [.int (m.1 206 16), .int a5], rf_MM w m)) (by decide +kernel) rfl trivial ?_
  refine rf_icmp_ge C 48 210 (by decide +kernel) (fun hc => ?_) (fun hc => ?_)
  · replace hg := (if_pos hc).symm.trans hg
    refine rf_seg C [(.aload 0, 1), (.iload 3, 1)] (pc' := 212) (S' := ([(0, .ref 206), (3, .int a3), (5, .int a5)], [.int a3, .ref 206], rf_MM w m)) (by decide +kernel) rfl trivial ?_
    obtain ⟨y0, m0, hc0, hg⟩ := rf_b_some hg
    refine rf_callv C rf_fit0 j_X14_wideOnes (ci := 14) (As := [.int a3]) (rest := []) mw_X14_wideOnes (c_X14_wideOnes hc0) (by decide) rfl (by decide) lk_14_728 rfl rfl (Nat.le_of_ble_eq_true rfl) (by decide +kernel) ?_
    show rf_V 7 (rf_sh w) K 0 0 215 ([(0, .ref 206), (3, .int a3), (5, .int a5)], [.int y0], rf_MM w m0)
    refine rf_if_ne C 7 222 (by decide +kernel) (fun hc => ?_) (fun hc => ?_)
    · replace hg := (if_neg hc).symm.trans hg
      refine rf_seg C [(.iconst 0, 1)] (pc' := 223) (S' := ([(0, .ref 206), (3, .int a3), (5, .int a5)], [.int 0], rf_MM w m0)) (by decide +kernel) rfl trivial ?_
      obtain rfl := Option.some.inj hg
      exact rf_zret C hE (by decide) (by decide +kernel)
    · replace hg := (if_pos hc).symm.trans hg
      refine rf_seg C [(.iconst 1, 1)] (pc' := 219) (S' := ([(0, .ref 206), (3, .int a3), (5, .int a5)], [.int 1], rf_MM w m0)) (by decide +kernel) rfl trivial ?_
      refine rf_goto C 4 223 (by decide +kernel) ?_
      obtain rfl := Option.some.inj hg
      exact rf_zret C hE (by decide) (by decide +kernel)
  · replace hg := (if_neg hc).symm.trans hg
    obtain ⟨q1, hg⟩ := rf_g_some hg
    refine rf_seg C [(.aload 0, 1), (.invokeinterface 14 71, 3), (.iload 5, 2), (.aload 0, 1), (.invokeinterface 14 123, 3), (.iload 5, 2), (.iaload, 1)] (pc' := 178) (S' := ([(0, .ref 206), (3, .int a3), (5, .int a5)], [.int (m.1 286 (Int32.toNatClampNeg a5)), .int a5, .ref 248], rf_MM w m)) (by decide +kernel) rfl (rf_in_of q1) ?_
    refine rf_if_ne C 8 186 (by decide +kernel) (fun hc => ?_) (fun hc => ?_)
    · replace hg := (if_neg hc).symm.trans hg
      obtain ⟨q2, hg⟩ := rf_g_some hg
      obtain ⟨q3, hg⟩ := rf_g_some hg
      obtain ⟨q4, hg⟩ := rf_g_some hg
      refine rf_seg C [(.aload 0, 1), (.invokeinterface 14 125, 3), (.iload 5, 2), (.laload, 1), (.aload 0, 1), (.invokeinterface 14 123, 3), (.iload 5, 2), (.iaload, 1), (.i2l, 1), (.ldiv, 1), (.l2i, 1)] (pc' := 203) (S' := ([(0, .ref 206), (3, .int a3), (5, .int a5)], [.int (Int64.toInt32 ((m.2 288 (Int32.toNatClampNeg a5)) / (Int32.toInt64 (m.1 286 (Int32.toNatClampNeg a5))))), .int a5, .ref 248], rf_MM w m)) (by decide +kernel) rfl (by exact ⟨(rf_in_of q2), (rf_in_of q3), (rf_nzl_of q4)⟩) ?_
      refine rf_few [0, 1, 2] rfl ?_
      exact s_X14_isRight_203 C hE hr156 a3 a5 a5 (Int64.toInt32 ((m.2 288 (Int32.toNatClampNeg a5)) / (Int32.toInt64 (m.1 286 (Int32.toNatClampNeg a5))))) m hg
    · replace hg := (if_pos hc).symm.trans hg
      refine rf_seg C [(.iconst (-2), 2)] (pc' := 183) (S' := ([(0, .ref 206), (3, .int a3), (5, .int a5)], [.int ((-2)), .int a5, .ref 248], rf_MM w m)) (by decide +kernel) rfl trivial ?_
      refine rf_goto C 20 203 (by decide +kernel) ?_
      refine rf_few [0, 1, 2] rfl ?_
      exact s_X14_isRight_203 C hE hr156 a3 a5 a5 ((-2)) m hg
theorem s_X14_isRight_156 {w : rf_w} {K : rf_K} {r : Int32 × rf_m} (C : rf_Ctx 14 cX14_isRight 7 4 (rf_sh w) K) (hE : rf_End (some .boolean) K (rf_sh w) 0 0 (some (.int r.1)) (rf_MM w r.2)) (n : Nat) : ∀ (a3 : Int32) (a5 : Int32) (m : rf_m), g_X14_isRight_156 w n a3 a5 m = some r → rf_V 7 (rf_sh w) K 0 0 156 ([(0, .ref 206), (3, .int a3), (5, .int a5)], [], rf_MM w m) := by
  induction n with
  | zero => intro a3 a5 m hg; cases hg
  | succ n ih => intro a3 a5 m hg; exact s_X14_isRight_156_b C hE ih a3 a5 m hg
theorem s_X14_isRight_140 {w : rf_w} {K : rf_K} {r : Int32 × rf_m} (C : rf_Ctx 14 cX14_isRight 7 4 (rf_sh w) K) (hE : rf_End (some .boolean) K (rf_sh w) 0 0 (some (.int r.1)) (rf_MM w r.2)) {rec52 : Int32 → Int32 → Int32 → Int32 → Int32 → rf_m → Option (Int32 × rf_m)} (hr52 : ∀ (a1 : Int32) (a2 : Int32) (a3 : Int32) (a4 : Int32) (a5 : Int32) (m : rf_m), rec52 a1 a2 a3 a4 a5 m = some r → rf_V 7 (rf_sh w) K 0 0 52 ([(0, .ref 206), (1, .int a1), (2, .int a2), (3, .int a3), (4, .int a4), (5, .int a5)], [], rf_MM w m)) (a1 : Int32) (a2 : Int32) (a3 : Int32) (a4 : Int32) (a5 : Int32) (m : rf_m) (hg : g_X14_isRight_140 w rec52 a1 a2 a3 a4 a5 m = some r) : rf_V 7 (rf_sh w) K 0 0 140 ([(0, .ref 206), (1, .int a1), (2, .int a2), (3, .int a3), (4, .int a4), (5, .int a5)], [], rf_MM w m) := by
  unfold g_X14_isRight_140 at hg
  refine rf_seg C [(.iinc 5 1, 3)] (pc' := 143) (S' := ([(5, .int (a5 + 1)), (0, .ref 206), (1, .int a1), (2, .int a2), (3, .int a3), (4, .int a4)], [], rf_MM w m)) (by decide +kernel) rfl trivial ?_
  refine rf_goto C (-91) 52 (by decide +kernel) ?_
  refine rf_few [1, 2, 3, 4, 5, 0] rfl ?_
  exact hr52 a1 a2 a3 a4 (a5 + 1) m hg
theorem s_X14_isRight_138 {w : rf_w} {K : rf_K} {r : Int32 × rf_m} (C : rf_Ctx 14 cX14_isRight 7 4 (rf_sh w) K) (hE : rf_End (some .boolean) K (rf_sh w) 0 0 (some (.int r.1)) (rf_MM w r.2)) {rec52 : Int32 → Int32 → Int32 → Int32 → Int32 → rf_m → Option (Int32 × rf_m)} (hr52 : ∀ (a1 : Int32) (a2 : Int32) (a3 : Int32) (a4 : Int32) (a5 : Int32) (m : rf_m), rec52 a1 a2 a3 a4 a5 m = some r → rf_V 7 (rf_sh w) K 0 0 52 ([(0, .ref 206), (1, .int a1), (2, .int a2), (3, .int a3), (4, .int a4), (5, .int a5)], [], rf_MM w m)) (a1 : Int32) (a2 : Int32) (a3 : Int32) (a5 : Int32) (s0 : Int32) (m : rf_m) (hg : g_X14_isRight_138 w rec52 a1 a2 a3 a5 s0 m = some r) : rf_V 7 (rf_sh w) K 0 0 138 ([(0, .ref 206), (1, .int a1), (2, .int a2), (3, .int a3), (5, .int a5)], [.int s0], rf_MM w m) := by
  unfold g_X14_isRight_138 at hg
  refine rf_seg C [(.istore 4, 2)] (pc' := 140) (S' := ([(4, .int s0), (0, .ref 206), (1, .int a1), (2, .int a2), (3, .int a3), (5, .int a5)], [], rf_MM w m)) (by decide +kernel) rfl trivial ?_
  refine rf_few [1, 2, 3, 4, 0, 5] rfl ?_
  exact s_X14_isRight_140 C hE hr52 a1 a2 a3 s0 a5 m hg
theorem s_X14_isRight_137 {w : rf_w} {K : rf_K} {r : Int32 × rf_m} (C : rf_Ctx 14 cX14_isRight 7 4 (rf_sh w) K) (hE : rf_End (some .boolean) K (rf_sh w) 0 0 (some (.int r.1)) (rf_MM w r.2)) {rec52 : Int32 → Int32 → Int32 → Int32 → Int32 → rf_m → Option (Int32 × rf_m)} (hr52 : ∀ (a1 : Int32) (a2 : Int32) (a3 : Int32) (a4 : Int32) (a5 : Int32) (m : rf_m), rec52 a1 a2 a3 a4 a5 m = some r → rf_V 7 (rf_sh w) K 0 0 52 ([(0, .ref 206), (1, .int a1), (2, .int a2), (3, .int a3), (4, .int a4), (5, .int a5)], [], rf_MM w m)) (a1 : Int32) (a2 : Int32) (a3 : Int32) (a5 : Int32) (m : rf_m) (hg : g_X14_isRight_137 w rec52 a1 a2 a3 a5 m = some r) : rf_V 7 (rf_sh w) K 0 0 137 ([(0, .ref 206), (1, .int a1), (2, .int a2), (3, .int a3), (5, .int a5)], [], rf_MM w m) := by
  unfold g_X14_isRight_137 at hg
  refine rf_seg C [(.iconst 0, 1)] (pc' := 138) (S' := ([(0, .ref 206), (1, .int a1), (2, .int a2), (3, .int a3), (5, .int a5)], [.int 0], rf_MM w m)) (by decide +kernel) rfl trivial ?_
  refine rf_few [0, 1, 2, 3, 4] rfl ?_
  exact s_X14_isRight_138 C hE hr52 a1 a2 a3 a5 0 m hg
theorem s_X14_isRight_52_b {w : rf_w} {K : rf_K} {r : Int32 × rf_m} (C : rf_Ctx 14 cX14_isRight 7 4 (rf_sh w) K) (hE : rf_End (some .boolean) K (rf_sh w) 0 0 (some (.int r.1)) (rf_MM w r.2)) {rec52 : Int32 → Int32 → Int32 → Int32 → Int32 → rf_m → Option (Int32 × rf_m)} (hr52 : ∀ (a1 : Int32) (a2 : Int32) (a3 : Int32) (a4 : Int32) (a5 : Int32) (m : rf_m), rec52 a1 a2 a3 a4 a5 m = some r → rf_V 7 (rf_sh w) K 0 0 52 ([(0, .ref 206), (1, .int a1), (2, .int a2), (3, .int a3), (4, .int a4), (5, .int a5)], [], rf_MM w m)) (a1 : Int32) (a2 : Int32) (a3 : Int32) (a4 : Int32) (a5 : Int32) (m : rf_m) (hg : g_X14_isRight_52_b w rec52 a1 a2 a3 a4 a5 m = some r) : rf_V 7 (rf_sh w) K 0 0 52 ([(0, .ref 206), (1, .int a1), (2, .int a2), (3, .int a3), (4, .int a4), (5, .int a5)], [], rf_MM w m) := by
  unfold g_X14_isRight_52_b at hg
  refine rf_seg C [(.iload 5, 2), (.iload 1, 1)] (pc' := 55) (S' := ([(0, .ref 206), (1, .int a1), (2, .int a2), (3, .int a3), (4, .int a4), (5, .int a5)], [.int a1, .int a5], rf_MM w m)) (by decide +kernel) rfl trivial ?_
  refine rf_icmp_ge C 91 146 (by decide +kernel) (fun hc => ?_) (fun hc => ?_)
  · replace hg := (if_pos hc).symm.trans hg
    refine rf_seg C [(.iload 4, 2)] (pc' := 148) (S' := ([(0, .ref 206), (1, .int a1), (2, .int a2), (3, .int a3), (4, .int a4), (5, .int a5)], [.int a4], rf_MM w m)) (by decide +kernel) rfl trivial ?_
    refine rf_if_ne C 5 153 (by decide +kernel) (fun hc => ?_) (fun hc => ?_)
    · replace hg := (if_neg hc).symm.trans hg
      refine rf_seg C [(.iconst 0, 1), (.istore 5, 2)] (pc' := 156) (S' := ([(5, .int 0), (0, .ref 206), (1, .int a1), (2, .int a2), (3, .int a3), (4, .int a4)], [], rf_MM w m)) (by decide +kernel) rfl trivial ?_
      refine rf_few [1, 4, 0] rfl ?_
      exact s_X14_isRight_156 C hE rf_fuel a3 0 m hg
    · replace hg := (if_pos hc).symm.trans hg
      refine rf_seg C [(.iconst 0, 1)] (pc' := 152) (S' := ([(0, .ref 206), (1, .int a1), (2, .int a2), (3, .int a3), (4, .int a4), (5, .int a5)], [.int 0], rf_MM w m)) (by decide +kernel) rfl trivial ?_
      obtain rfl := Option.some.inj hg
      exact rf_zret C hE (by decide) (by decide +kernel)
  · replace hg := (if_neg hc).symm.trans hg
    refine rf_seg C [(.iload 2, 1), (.iload 5, 2), (.ishr, 1), (.iconst 1, 1), (.iand, 1)] (pc' := 64) (S' := ([(0, .ref 206), (1, .int a1), (2, .int a2), (3, .int a3), (4, .int a4), (5, .int a5)], [.int ((a2 >>> (a5 &&& 31)) &&& 1)], rf_MM w m)) (by decide +kernel) rfl trivial ?_
    refine rf_if_ne C 6 70 (by decide +kernel) (fun hc => ?_) (fun hc => ?_)
    · replace hg := (if_neg hc).symm.trans hg
      obtain ⟨q0, hg⟩ := rf_g_some hg
      obtain ⟨q1, hg⟩ := rf_g_some hg
      refine rf_seg C [(.aload 0, 1), (.invokeinterface 14 24, 3), (.aload 0, 1), (.invokeinterface 14 120, 3), (.iload 5, 2), (.iaload, 1), (.iaload, 1)] (pc' := 82) (S' := ([(0, .ref 206), (1, .int a1), (2, .int a2), (3, .int a3), (4, .int a4), (5, .int a5)], [.int (m.1 220 (Int32.toNatClampNeg (m.1 283 (Int32.toNatClampNeg a5))))], rf_MM w m)) (by decide +kernel) rfl (by exact ⟨(rf_in_of q0), (rf_in_of q1)⟩) ?_
      obtain ⟨x2, hx2, hg⟩ := rf_vi_some hg
      refine rf_vi_top hx2 ?_
      obtain ⟨q3, hg⟩ := rf_g_some hg
      obtain ⟨q4, hg⟩ := rf_g_some hg
      obtain ⟨q5, hg⟩ := rf_g_some hg
      obtain ⟨q6, hg⟩ := rf_g_some hg
      obtain ⟨q7, hg⟩ := rf_g_some hg
      obtain ⟨q8, hg⟩ := rf_g_some hg
      refine rf_seg C [(.istore 6, 2), (.aload 0, 1), (.invokeinterface 14 123, 3), (.iload 6, 2), (.dup2, 1), (.iaload, 1), (.iconst 1, 1), (.isub, 1), (.iastore, 1), (.aload 0, 1), (.invokeinterface 14 125, 3), (.iload 6, 2), (.dup2, 1), (.laload, 1), (.aload 0, 1), (.invokeinterface 14 25, 3), (.aload 0, 1), (.invokeinterface 14 120, 3), (.iload 5, 2), (.iaload, 1), (.iaload, 1), (.i2l, 1), (.lsub, 1), (.lastore, 1), (.iload 4, 2)] (pc' := 120) (S' := ([(6, .int x2), (0, .ref 206), (1, .int a1), (2, .int a2), (3, .int a3), (4, .int a4), (5, .int a5)], [.int a4], rf_MM w (rf_l (rf_i m 286 (Int32.toNatClampNeg x2) ((m.1 286 (Int32.toNatClampNeg x2)) - 1)) 288 (Int32.toNatClampNeg x2) (((rf_i m 286 (Int32.toNatClampNeg x2) ((m.1 286 (Int32.toNatClampNeg x2)) - 1)).2 288 (Int32.toNatClampNeg x2)) - (Int32.toInt64 ((rf_i m 286 (Int32.toNatClampNeg x2) ((m.1 286 (Int32.toNatClampNeg x2)) - 1)).1 221 (Int32.toNatClampNeg ((rf_i m 286 (Int32.toNatClampNeg x2) ((m.1 286 (Int32.toNatClampNeg x2)) - 1)).1 283 (Int32.toNatClampNeg a5))))))))) (by decide +kernel) rfl (by exact ⟨(rf_in_of q3), (rf_in_of q4), (rf_in_of q5), (rf_in_of q6), (rf_in_of q7), (rf_in_of q8)⟩) ?_
      refine rf_if_eq C 17 137 (by decide +kernel) (fun hc => ?_) (fun hc => ?_)
      · replace hg := (if_pos hc).symm.trans hg
        refine rf_few [1, 2, 3, 4, 6] rfl ?_
        exact s_X14_isRight_137 C hE hr52 a1 a2 a3 a5 (rf_l (rf_i m 286 (Int32.toNatClampNeg x2) ((m.1 286 (Int32.toNatClampNeg x2)) - 1)) 288 (Int32.toNatClampNeg x2) (((rf_i m 286 (Int32.toNatClampNeg x2) ((m.1 286 (Int32.toNatClampNeg x2)) - 1)).2 288 (Int32.toNatClampNeg x2)) - (Int32.toInt64 ((rf_i m 286 (Int32.toNatClampNeg x2) ((m.1 286 (Int32.toNatClampNeg x2)) - 1)).1 221 (Int32.toNatClampNeg ((rf_i m 286 (Int32.toNatClampNeg x2) ((m.1 286 (Int32.toNatClampNeg x2)) - 1)).1 283 (Int32.toNatClampNeg a5))))))) hg
      · replace hg := (if_neg hc).symm.trans hg
        obtain ⟨q9, hg⟩ := rf_g_some hg
        refine rf_seg C [(.aload 0, 1), (.invokeinterface 14 123, 3), (.iload 6, 2), (.iaload, 1)] (pc' := 130) (S' := ([(6, .int x2), (0, .ref 206), (1, .int a1), (2, .int a2), (3, .int a3), (4, .int a4), (5, .int a5)], [.int ((rf_l (rf_i m 286 (Int32.toNatClampNeg x2) ((m.1 286 (Int32.toNatClampNeg x2)) - 1)) 288 (Int32.toNatClampNeg x2) (((rf_i m 286 (Int32.toNatClampNeg x2) ((m.1 286 (Int32.toNatClampNeg x2)) - 1)).2 288 (Int32.toNatClampNeg x2)) - (Int32.toInt64 ((rf_i m 286 (Int32.toNatClampNeg x2) ((m.1 286 (Int32.toNatClampNeg x2)) - 1)).1 221 (Int32.toNatClampNeg ((rf_i m 286 (Int32.toNatClampNeg x2) ((m.1 286 (Int32.toNatClampNeg x2)) - 1)).1 283 (Int32.toNatClampNeg a5))))))).1 286 (Int32.toNatClampNeg x2))], rf_MM w (rf_l (rf_i m 286 (Int32.toNatClampNeg x2) ((m.1 286 (Int32.toNatClampNeg x2)) - 1)) 288 (Int32.toNatClampNeg x2) (((rf_i m 286 (Int32.toNatClampNeg x2) ((m.1 286 (Int32.toNatClampNeg x2)) - 1)).2 288 (Int32.toNatClampNeg x2)) - (Int32.toInt64 ((rf_i m 286 (Int32.toNatClampNeg x2) ((m.1 286 (Int32.toNatClampNeg x2)) - 1)).1 221 (Int32.toNatClampNeg ((rf_i m 286 (Int32.toNatClampNeg x2) ((m.1 286 (Int32.toNatClampNeg x2)) - 1)).1 283 (Int32.toNatClampNeg a5))))))))) (by decide +kernel) rfl (rf_in_of q9) ?_
        refine rf_if_le C 7 137 (by decide +kernel) (fun hc => ?_) (fun hc => ?_)
        · replace hg := (if_pos hc).symm.trans hg
          refine rf_few [1, 2, 3, 4, 6] rfl ?_
          exact s_X14_isRight_137 C hE hr52 a1 a2 a3 a5 (rf_l (rf_i m 286 (Int32.toNatClampNeg x2) ((m.1 286 (Int32.toNatClampNeg x2)) - 1)) 288 (Int32.toNatClampNeg x2) (((rf_i m 286 (Int32.toNatClampNeg x2) ((m.1 286 (Int32.toNatClampNeg x2)) - 1)).2 288 (Int32.toNatClampNeg x2)) - (Int32.toInt64 ((rf_i m 286 (Int32.toNatClampNeg x2) ((m.1 286 (Int32.toNatClampNeg x2)) - 1)).1 221 (Int32.toNatClampNeg ((rf_i m 286 (Int32.toNatClampNeg x2) ((m.1 286 (Int32.toNatClampNeg x2)) - 1)).1 283 (Int32.toNatClampNeg a5))))))) hg
        · replace hg := (if_neg hc).symm.trans hg
          refine rf_seg C [(.iconst 1, 1)] (pc' := 134) (S' := ([(6, .int x2), (0, .ref 206), (1, .int a1), (2, .int a2), (3, .int a3), (4, .int a4), (5, .int a5)], [.int 1], rf_MM w (rf_l (rf_i m 286 (Int32.toNatClampNeg x2) ((m.1 286 (Int32.toNatClampNeg x2)) - 1)) 288 (Int32.toNatClampNeg x2) (((rf_i m 286 (Int32.toNatClampNeg x2) ((m.1 286 (Int32.toNatClampNeg x2)) - 1)).2 288 (Int32.toNatClampNeg x2)) - (Int32.toInt64 ((rf_i m 286 (Int32.toNatClampNeg x2) ((m.1 286 (Int32.toNatClampNeg x2)) - 1)).1 221 (Int32.toNatClampNeg ((rf_i m 286 (Int32.toNatClampNeg x2) ((m.1 286 (Int32.toNatClampNeg x2)) - 1)).1 283 (Int32.toNatClampNeg a5))))))))) (by decide +kernel) rfl trivial ?_
          refine rf_goto C 4 138 (by decide +kernel) ?_
          refine rf_few [1, 2, 3, 4, 6] rfl ?_
          exact s_X14_isRight_138 C hE hr52 a1 a2 a3 a5 1 (rf_l (rf_i m 286 (Int32.toNatClampNeg x2) ((m.1 286 (Int32.toNatClampNeg x2)) - 1)) 288 (Int32.toNatClampNeg x2) (((rf_i m 286 (Int32.toNatClampNeg x2) ((m.1 286 (Int32.toNatClampNeg x2)) - 1)).2 288 (Int32.toNatClampNeg x2)) - (Int32.toInt64 ((rf_i m 286 (Int32.toNatClampNeg x2) ((m.1 286 (Int32.toNatClampNeg x2)) - 1)).1 221 (Int32.toNatClampNeg ((rf_i m 286 (Int32.toNatClampNeg x2) ((m.1 286 (Int32.toNatClampNeg x2)) - 1)).1 283 (Int32.toNatClampNeg a5))))))) hg
    · replace hg := (if_pos hc).symm.trans hg
      refine rf_goto C 73 140 (by decide +kernel) ?_
      refine rf_few [0, 1, 2, 3, 4, 5] rfl ?_
      exact s_X14_isRight_140 C hE hr52 a1 a2 a3 a4 a5 m hg
theorem s_X14_isRight_52 {w : rf_w} {K : rf_K} {r : Int32 × rf_m} (C : rf_Ctx 14 cX14_isRight 7 4 (rf_sh w) K) (hE : rf_End (some .boolean) K (rf_sh w) 0 0 (some (.int r.1)) (rf_MM w r.2)) (n : Nat) : ∀ (a1 : Int32) (a2 : Int32) (a3 : Int32) (a4 : Int32) (a5 : Int32) (m : rf_m), g_X14_isRight_52 w n a1 a2 a3 a4 a5 m = some r → rf_V 7 (rf_sh w) K 0 0 52 ([(0, .ref 206), (1, .int a1), (2, .int a2), (3, .int a3), (4, .int a4), (5, .int a5)], [], rf_MM w m) := by
  induction n with
  | zero => intro a1 a2 a3 a4 a5 m hg; cases hg
  | succ n ih => intro a1 a2 a3 a4 a5 m hg; exact s_X14_isRight_52_b C hE ih a1 a2 a3 a4 a5 m hg
theorem s_X14_isRight_3_b {w : rf_w} {K : rf_K} {r : Int32 × rf_m} (C : rf_Ctx 14 cX14_isRight 7 4 (rf_sh w) K) (hE : rf_End (some .boolean) K (rf_sh w) 0 0 (some (.int r.1)) (rf_MM w r.2)) {rec3 : Int32 → Int32 → Int32 → Int32 → rf_m → Option (Int32 × rf_m)} (hr3 : ∀ (a1 : Int32) (a2 : Int32) (a3 : Int32) (a4 : Int32) (m : rf_m), rec3 a1 a2 a3 a4 m = some r → rf_V 7 (rf_sh w) K 0 0 3 ([(0, .ref 206), (1, .int a1), (2, .int a2), (3, .int a3), (4, .int a4)], [], rf_MM w m)) (a1 : Int32) (a2 : Int32) (a3 : Int32) (a4 : Int32) (m : rf_m) (hg : g_X14_isRight_3_b w rec3 a1 a2 a3 a4 m = some r) : rf_V 7 (rf_sh w) K 0 0 3 ([(0, .ref 206), (1, .int a1), (2, .int a2), (3, .int a3), (4, .int a4)], [], rf_MM w m) := by
  unfold g_X14_isRight_3_b at hg
  refine rf_seg C [(.iload 4, 2), (.aload 0, 1), (.invokeinterface 14 16, 3)] (pc' := 9) (S' := ([(0, .ref 206), (1, .int a1), (2, .int a2), (3, .int a3), (4, .int a4)], [.int (m.1 206 16), .int a4], rf_MM w m)) (by decide +kernel) rfl trivial ?_
  refine rf_icmp_ge C 37 46 (by decide +kernel) (fun hc => ?_) (fun hc => ?_)
  · replace hg := (if_pos hc).symm.trans hg
    refine rf_seg C [(.iconst 1, 1), (.istore 4, 2), (.iconst 0, 1), (.istore 5, 2)] (pc' := 52) (S' := ([(5, .int 0), (4, .int 1), (0, .ref 206), (1, .int a1), (2, .int a2), (3, .int a3)], [], rf_MM w m)) (by decide +kernel) rfl trivial ?_
    refine rf_few [2, 3, 4, 5, 1, 0] rfl ?_
    exact s_X14_isRight_52 C hE rf_fuel a1 a2 a3 1 0 m hg
  · replace hg := (if_neg hc).symm.trans hg
    obtain ⟨q0, hg⟩ := rf_g_some hg
    obtain ⟨q1, hg⟩ := rf_g_some hg
    obtain ⟨q2, hg⟩ := rf_g_some hg
    obtain ⟨q3, hg⟩ := rf_g_some hg
    refine rf_seg C [(.aload 0, 1), (.invokeinterface 14 123, 3), (.iload 4, 2), (.aload 0, 1), (.invokeinterface 14 122, 3), (.iload 4, 2), (.iaload, 1), (.iastore, 1), (.aload 0, 1), (.invokeinterface 14 125, 3), (.iload 4, 2), (.aload 0, 1), (.invokeinterface 14 124, 3), (.iload 4, 2), (.laload, 1), (.lastore, 1), (.iinc 4 1, 3)] (pc' := 43) (S' := ([(4, .int (a4 + 1)), (0, .ref 206), (1, .int a1), (2, .int a2), (3, .int a3)], [], rf_MM w (rf_l (rf_i m 286 (Int32.toNatClampNeg a4) (m.1 285 (Int32.toNatClampNeg a4))) 288 (Int32.toNatClampNeg a4) ((rf_i m 286 (Int32.toNatClampNeg a4) (m.1 285 (Int32.toNatClampNeg a4))).2 287 (Int32.toNatClampNeg a4))))) (by decide +kernel) rfl (by exact ⟨(rf_in_of q0), (rf_in_of q1), (rf_in_of q2), (rf_in_of q3)⟩) ?_
    refine rf_goto C (-40) 3 (by decide +kernel) ?_
    refine rf_few [1, 2, 3, 4, 0] rfl ?_
    exact hr3 a1 a2 a3 (a4 + 1) (rf_l (rf_i m 286 (Int32.toNatClampNeg a4) (m.1 285 (Int32.toNatClampNeg a4))) 288 (Int32.toNatClampNeg a4) ((rf_i m 286 (Int32.toNatClampNeg a4) (m.1 285 (Int32.toNatClampNeg a4))).2 287 (Int32.toNatClampNeg a4))) hg
theorem s_X14_isRight_3 {w : rf_w} {K : rf_K} {r : Int32 × rf_m} (C : rf_Ctx 14 cX14_isRight 7 4 (rf_sh w) K) (hE : rf_End (some .boolean) K (rf_sh w) 0 0 (some (.int r.1)) (rf_MM w r.2)) (n : Nat) : ∀ (a1 : Int32) (a2 : Int32) (a3 : Int32) (a4 : Int32) (m : rf_m), g_X14_isRight_3 w n a1 a2 a3 a4 m = some r → rf_V 7 (rf_sh w) K 0 0 3 ([(0, .ref 206), (1, .int a1), (2, .int a2), (3, .int a3), (4, .int a4)], [], rf_MM w m) := by
  induction n with
  | zero => intro a1 a2 a3 a4 m hg; cases hg
  | succ n ih => intro a1 a2 a3 a4 m hg; exact s_X14_isRight_3_b C hE ih a1 a2 a3 a4 m hg
theorem c_X14_isRight {w : rf_w} {m : rf_m} {a1 : Int32} {a2 : Int32} {a3 : Int32} {r : Int32 × rf_m} (hg : g_X14_isRight w m a1 a2 a3 = some r) : rf_Con j_X14_isRight 4 (rf_sh w) [.ref 206, .int a1, .int a2, .int a3] (rf_MM w m) (some (.int r.1)) (rf_MM w r.2) := by
  refine rf_con j_X14_isRight 4 ⟨by decide +kernel, rfl, Nat.le_of_ble_eq_true rfl⟩ (fun K C hE => ?_)
  unfold g_X14_isRight at hg
  show rf_V 7 (rf_sh w) K 0 0 0 ([(0, .ref 206), (1, .int a1), (2, .int a2), (3, .int a3)], [], rf_MM w m)
  refine rf_seg C [(.iconst 0, 1), (.istore 4, 2)] (pc' := 3) (S' := ([(4, .int 0), (0, .ref 206), (1, .int a1), (2, .int a2), (3, .int a3)], [], rf_MM w m)) (by decide +kernel) rfl trivial ?_
  refine rf_few [1, 2, 3, 4, 0] rfl ?_
  exact s_X14_isRight_3 C hE rf_fuel a1 a2 a3 0 m hg
-- X14_blunder
abbrev j_X14_blunder : rf_J := (14, yX14_blunder, cX14_blunder, 7, (some .int))
theorem mw_X14_blunder : rf_mv j_X14_blunder (rf_R 14) 0 := ⟨⟨rf_mem 86 (by decide +kernel), rf_mem 86 (by decide +kernel), rf_mem 0 (by decide +kernel), rf_mem 86 (by decide +kernel)⟩, by decide +kernel, by decide⟩
def g_X14_blunder_297 (w : rf_w) (rec253 : Int32 → Int32 → Int32 → Int32 → rf_m → Option (Int32 × rf_m)) (a1 : Int32) (a3 : Int32) (a4 : Int32) (a5 : Int32) (m : rf_m) : Option (Int32 × rf_m) := rec253 a1 a3 a4 (a5 + 1) m
def g_X14_blunder_253_b (w : rf_w) (rec253 : Int32 → Int32 → Int32 → Int32 → rf_m → Option (Int32 × rf_m)) (a1 : Int32) (a3 : Int32) (a4 : Int32) (a5 : Int32) (m : rf_m) : Option (Int32 × rf_m) := (if a1 ≤ a5 then some ((rf_i m 206 118 a4).1 206 117, rf_i m 206 118 a4) else (if ((a3 >>> (a5 &&& 31)) &&& 1) = 0 then g_X14_blunder_297 w rec253 a1 a3 a4 a5 m else rf_g (rf_in a5 12) (rf_g (rf_in (m.1 206 117) 12) (g_X14_blunder_297 w rec253 a1 a3 a4 a5 (rf_i (rf_i m 284 (Int32.toNatClampNeg (m.1 206 117)) (m.1 283 (Int32.toNatClampNeg a5))) 206 117 (((rf_i m 284 (Int32.toNatClampNeg (m.1 206 117)) (m.1 283 (Int32.toNatClampNeg a5))).1 206 117) + 1))))))
def g_X14_blunder_253 (w : rf_w) : Nat → Int32 → Int32 → Int32 → Int32 → rf_m → Option (Int32 × rf_m)
  | 0, _, _, _, _, _ => none
  | n + 1, a1, a3, a4, a5, m => g_X14_blunder_253_b w (g_X14_blunder_253 w n) a1 a3 a4 a5 m
def g_X14_blunder_231 (w : rf_w) (rec142 : Int32 → Int32 → Int32 → Int32 → Int32 → rf_m → Option (Int32 × rf_m)) (a1 : Int32) (a2 : Int32) (a3 : Int32) (a4 : Int32) (a5 : Int32) (m : rf_m) : Option (Int32 × rf_m) := rec142 a1 a2 a3 a4 (a5 + 1) m
def g_X14_blunder_198 (w : rf_w) (rec142 : Int32 → Int32 → Int32 → Int32 → Int32 → rf_m → Option (Int32 × rf_m)) (a1 : Int32) (a2 : Int32) (a5 : Int32) (m : rf_m) : Option (Int32 × rf_m) := g_X14_blunder_231 w rec142 a1 a2 a5 1 a5 m
def g_X14_blunder_167 (w : rf_w) (rec142 : Int32 → Int32 → Int32 → Int32 → Int32 → rf_m → Option (Int32 × rf_m)) (a1 : Int32) (a2 : Int32) (a3 : Int32) (a4 : Int32) (a5 : Int32) (m : rf_m) : Option (Int32 × rf_m) := rf_b (g_X14_isRight w m a1 a5 a2) fun y0 m0 => (if y0 = 0 then g_X14_blunder_231 w rec142 a1 a2 a3 a4 a5 m0 else (if a3 = ((-1)) then g_X14_blunder_198 w rec142 a1 a2 a5 m0 else rf_b (g_X14_bits w m0 a5) fun y1 m1 => rf_b (g_X14_bits w m1 a3) fun y2 m2 => (if y2 ≤ y1 then (if (((a5 ^^^ a3) &&& (-(a5 ^^^ a3))) &&& a5) = 0 then g_X14_blunder_231 w rec142 a1 a2 a3 (a4 + 1) a5 m2 else g_X14_blunder_231 w rec142 a1 a2 a5 (a4 + 1) a5 m2) else g_X14_blunder_198 w rec142 a1 a2 a5 m2)))
def g_X14_blunder_142_b (w : rf_w) (rec142 : Int32 → Int32 → Int32 → Int32 → Int32 → rf_m → Option (Int32 × rf_m)) (a1 : Int32) (a2 : Int32) (a3 : Int32) (a4 : Int32) (a5 : Int32) (m : rf_m) : Option (Int32 × rf_m) := (if (1 <<< (a1 &&& 31)) ≤ a5 then (if a3 = ((-1)) then some ((-2), m) else g_X14_blunder_253 w rf_fuel a1 a3 a4 0 (rf_i m 206 117 0)) else (if a3 = ((-1)) then g_X14_blunder_167 w rec142 a1 a2 a3 a4 a5 m else rf_b (g_X14_bits w m a5) fun y0 m0 => rf_b (g_X14_bits w m0 a3) fun y1 m1 => (if y1 < y0 then g_X14_blunder_231 w rec142 a1 a2 a3 a4 a5 m1 else g_X14_blunder_167 w rec142 a1 a2 a3 a4 a5 m1)))
def g_X14_blunder_142 (w : rf_w) : Nat → Int32 → Int32 → Int32 → Int32 → Int32 → rf_m → Option (Int32 × rf_m)
  | 0, _, _, _, _, _, _ => none
  | n + 1, a1, a2, a3, a4, a5, m => g_X14_blunder_142_b w (g_X14_blunder_142 w n) a1 a2 a3 a4 a5 m
def g_X14_blunder_88_b (w : rf_w) (rec56 : Int32 → Int32 → rf_m → Option (Int32 × rf_m)) (rec88 : Int32 → Int32 → Int32 → rf_m → Option (Int32 × rf_m)) (a1 : Int32) (a2 : Int32) (a3 : Int32) (m : rf_m) : Option (Int32 × rf_m) := (if (m.1 206 34) ≤ a3 then rec56 a1 (a2 + 1) m else rf_g (rf_in a2 80) (rf_g (rf_in a3 20) (rf_g (rf_in (m.1 227 (Int32.toNatClampNeg a3)) 1200) (rf_g (rf_in a2 80) (rec88 a1 a2 (a3 + 1) (rf_l m 287 (Int32.toNatClampNeg a2) ((m.2 287 (Int32.toNatClampNeg a2)) + (Int32.toInt64 (m.1 221 (Int32.toNatClampNeg (m.1 227 (Int32.toNatClampNeg a3))))))))))))
def g_X14_blunder_88 (w : rf_w) (rec56 : Int32 → Int32 → rf_m → Option (Int32 × rf_m)) : Nat → Int32 → Int32 → Int32 → rf_m → Option (Int32 × rf_m)
  | 0, _, _, _, _ => none
  | n + 1, a1, a2, a3, m => g_X14_blunder_88_b w rec56 (g_X14_blunder_88 w rec56 n) a1 a2 a3 m
def g_X14_blunder_56_b (w : rf_w) (rec56 : Int32 → Int32 → rf_m → Option (Int32 × rf_m)) (a1 : Int32) (a2 : Int32) (m : rf_m) : Option (Int32 × rf_m) := (if (m.1 206 16) ≤ a2 then rf_b (g_X14_allowed w m) fun y0 m0 => g_X14_blunder_142 w rf_fuel a1 y0 ((-1)) 0 0 m0 else rf_bv (g_X14_now w m a2) fun m1 => rf_g (rf_in a2 80) (rf_g (rf_in a2 80) (g_X14_blunder_88 w rec56 rf_fuel a1 a2 0 (rf_l (rf_i m1 285 (Int32.toNatClampNeg a2) (m1.1 206 34)) 287 (Int32.toNatClampNeg a2) 0))))
def g_X14_blunder_56 (w : rf_w) : Nat → Int32 → Int32 → rf_m → Option (Int32 × rf_m)
  | 0, _, _, _ => none
  | n + 1, a1, a2, m => g_X14_blunder_56_b w (g_X14_blunder_56 w n) a1 a2 m
def g_X14_blunder_48 (w : rf_w) (rec9 : Int32 → Int32 → rf_m → Option (Int32 × rf_m)) (a1 : Int32) (a2 : Int32) (m : rf_m) : Option (Int32 × rf_m) := rec9 a1 (a2 + 1) m
def g_X14_blunder_9_b (w : rf_w) (rec9 : Int32 → Int32 → rf_m → Option (Int32 × rf_m)) (a1 : Int32) (a2 : Int32) (m : rf_m) : Option (Int32 × rf_m) := (if (m.1 206 116) ≤ a2 then g_X14_blunder_56 w rf_fuel a1 0 m else rf_g (rf_in a2 12) (rf_b (g_X14_isKeptNow w m (m.1 282 (Int32.toNatClampNeg a2))) fun y1 m1 => (if y1 = 0 then g_X14_blunder_48 w rec9 a1 a2 m1 else rf_g (rf_in a2 12) (rf_g (rf_in a1 12) (g_X14_blunder_48 w rec9 (a1 + 1) a2 (rf_i m1 283 (Int32.toNatClampNeg a1) (m1.1 282 (Int32.toNatClampNeg a2))))))))
def g_X14_blunder_9 (w : rf_w) : Nat → Int32 → Int32 → rf_m → Option (Int32 × rf_m)
  | 0, _, _, _ => none
  | n + 1, a1, a2, m => g_X14_blunder_9_b w (g_X14_blunder_9 w n) a1 a2 m
def g_X14_blunder (w : rf_w) (m : rf_m) : Option (Int32 × rf_m) := g_X14_blunder_9 w rf_fuel 0 0 (rf_i m 206 0 0)
theorem s_X14_blunder_297 {w : rf_w} {K : rf_K} {r : Int32 × rf_m} (C : rf_Ctx 14 cX14_blunder 7 9 (rf_sh w) K) (hE : rf_End (some .int) K (rf_sh w) 0 0 (some (.int r.1)) (rf_MM w r.2)) {rec253 : Int32 → Int32 → Int32 → Int32 → rf_m → Option (Int32 × rf_m)} (hr253 : ∀ (a1 : Int32) (a3 : Int32) (a4 : Int32) (a5 : Int32) (m : rf_m), rec253 a1 a3 a4 a5 m = some r → rf_V 7 (rf_sh w) K 0 0 253 ([(0, .ref 206), (1, .int a1), (3, .int a3), (4, .int a4), (5, .int a5)], [], rf_MM w m)) (a1 : Int32) (a3 : Int32) (a4 : Int32) (a5 : Int32) (m : rf_m) (hg : g_X14_blunder_297 w rec253 a1 a3 a4 a5 m = some r) : rf_V 7 (rf_sh w) K 0 0 297 ([(0, .ref 206), (1, .int a1), (3, .int a3), (4, .int a4), (5, .int a5)], [], rf_MM w m) := by
  unfold g_X14_blunder_297 at hg
  refine rf_seg C [(.iinc 5 1, 3)] (pc' := 300) (S' := ([(5, .int (a5 + 1)), (0, .ref 206), (1, .int a1), (3, .int a3), (4, .int a4)], [], rf_MM w m)) (by decide +kernel) rfl trivial ?_
  refine rf_goto C (-47) 253 (by decide +kernel) ?_
  refine rf_few [1, 2, 3, 4, 0] rfl ?_
  exact hr253 a1 a3 a4 (a5 + 1) m hg
theorem s_X14_blunder_253_b {w : rf_w} {K : rf_K} {r : Int32 × rf_m} (C : rf_Ctx 14 cX14_blunder 7 9 (rf_sh w) K) (hE : rf_End (some .int) K (rf_sh w) 0 0 (some (.int r.1)) (rf_MM w r.2)) {rec253 : Int32 → Int32 → Int32 → Int32 → rf_m → Option (Int32 × rf_m)} (hr253 : ∀ (a1 : Int32) (a3 : Int32) (a4 : Int32) (a5 : Int32) (m : rf_m), rec253 a1 a3 a4 a5 m = some r → rf_V 7 (rf_sh w) K 0 0 253 ([(0, .ref 206), (1, .int a1), (3, .int a3), (4, .int a4), (5, .int a5)], [], rf_MM w m)) (a1 : Int32) (a3 : Int32) (a4 : Int32) (a5 : Int32) (m : rf_m) (hg : g_X14_blunder_253_b w rec253 a1 a3 a4 a5 m = some r) : rf_V 7 (rf_sh w) K 0 0 253 ([(0, .ref 206), (1, .int a1), (3, .int a3), (4, .int a4), (5, .int a5)], [], rf_MM w m) := by
  unfold g_X14_blunder_253_b at hg
  refine rf_seg C [(.iload 5, 2), (.iload 1, 1)] (pc' := 256) (S' := ([(0, .ref 206), (1, .int a1), (3, .int a3), (4, .int a4), (5, .int a5)], [.int a1, .int a5], rf_MM w m)) (by decide +kernel) rfl trivial ?_
  refine rf_icmp_ge C 47 303 (by decide +kernel) (fun hc => ?_) (fun hc => ?_)
  · replace hg := (if_pos hc).symm.trans hg
    refine rf_seg C [(.aload 0, 1), (.iload 4, 2), (.multianewarray 14 118, 3), (.aload 0, 1), (.invokeinterface 14 117, 3)] (pc' := 313) (S' := ([(0, .ref 206), (1, .int a1), (3, .int a3), (4, .int a4), (5, .int a5)], [.int ((rf_i m 206 118 a4).1 206 117)], rf_MM w (rf_i m 206 118 a4))) (by decide +kernel) rfl trivial ?_
    obtain rfl := Option.some.inj hg
    exact rf_iret C hE (by decide +kernel)
  · replace hg := (if_neg hc).symm.trans hg
    refine rf_seg C [(.iload 3, 1), (.iload 5, 2), (.ishr, 1), (.iconst 1, 1), (.iand, 1)] (pc' := 265) (S' := ([(0, .ref 206), (1, .int a1), (3, .int a3), (4, .int a4), (5, .int a5)], [.int ((a3 >>> (a5 &&& 31)) &&& 1)], rf_MM w m)) (by decide +kernel) rfl trivial ?_
    refine rf_if_ne C 6 271 (by decide +kernel) (fun hc => ?_) (fun hc => ?_)
    · replace hg := (if_neg hc).symm.trans hg
      obtain ⟨q0, hg⟩ := rf_g_some hg
      obtain ⟨q1, hg⟩ := rf_g_some hg
      refine rf_seg C [(.aload 0, 1), (.invokeinterface 14 121, 3), (.aload 0, 1), (.invokeinterface 14 117, 3), (.aload 0, 1), (.invokeinterface 14 120, 3), (.iload 5, 2), (.iaload, 1), (.iastore, 1), (.aload 0, 1), (.dup, 1), (.invokeinterface 14 117, 3), (.iconst 1, 1), (.iadd, 1), (.multianewarray 14 117, 3)] (pc' := 297) (S' := ([(0, .ref 206), (1, .int a1), (3, .int a3), (4, .int a4), (5, .int a5)], [], rf_MM w (rf_i (rf_i m 284 (Int32.toNatClampNeg (m.1 206 117)) (m.1 283 (Int32.toNatClampNeg a5))) 206 117 (((rf_i m 284 (Int32.toNatClampNeg (m.1 206 117)) (m.1 283 (Int32.toNatClampNeg a5))).1 206 117) + 1)))) (by decide +kernel) rfl (by exact ⟨(rf_in_of q0), (rf_in_of q1)⟩) ?_
      refine rf_few [0, 1, 2, 3, 4] rfl ?_
      exact s_X14_blunder_297 C hE hr253 a1 a3 a4 a5 (rf_i (rf_i m 284 (Int32.toNatClampNeg (m.1 206 117)) (m.1 283 (Int32.toNatClampNeg a5))) 206 117 (((rf_i m 284 (Int32.toNatClampNeg (m.1 206 117)) (m.1 283 (Int32.toNatClampNeg a5))).1 206 117) + 1)) hg
    · replace hg := (if_pos hc).symm.trans hg
      refine rf_goto C 29 297 (by decide +kernel) ?_
      refine rf_few [0, 1, 2, 3, 4] rfl ?_
      exact s_X14_blunder_297 C hE hr253 a1 a3 a4 a5 m hg
theorem s_X14_blunder_253 {w : rf_w} {K : rf_K} {r : Int32 × rf_m} (C : rf_Ctx 14 cX14_blunder 7 9 (rf_sh w) K) (hE : rf_End (some .int) K (rf_sh w) 0 0 (some (.int r.1)) (rf_MM w r.2)) (n : Nat) : ∀ (a1 : Int32) (a3 : Int32) (a4 : Int32) (a5 : Int32) (m : rf_m), g_X14_blunder_253 w n a1 a3 a4 a5 m = some r → rf_V 7 (rf_sh w) K 0 0 253 ([(0, .ref 206), (1, .int a1), (3, .int a3), (4, .int a4), (5, .int a5)], [], rf_MM w m) := by
  induction n with
  | zero => intro a1 a3 a4 a5 m hg; cases hg
  | succ n ih => intro a1 a3 a4 a5 m hg; exact s_X14_blunder_253_b C hE ih a1 a3 a4 a5 m hg
theorem s_X14_blunder_231 {w : rf_w} {K : rf_K} {r : Int32 × rf_m} (C : rf_Ctx 14 cX14_blunder 7 9 (rf_sh w) K) (hE : rf_End (some .int) K (rf_sh w) 0 0 (some (.int r.1)) (rf_MM w r.2)) {rec142 : Int32 → Int32 → Int32 → Int32 → Int32 → rf_m → Option (Int32 × rf_m)} (hr142 : ∀ (a1 : Int32) (a2 : Int32) (a3 : Int32) (a4 : Int32) (a5 : Int32) (m : rf_m), rec142 a1 a2 a3 a4 a5 m = some r → rf_V 7 (rf_sh w) K 0 0 142 ([(0, .ref 206), (1, .int a1), (2, .int a2), (3, .int a3), (4, .int a4), (5, .int a5)], [], rf_MM w m)) (a1 : Int32) (a2 : Int32) (a3 : Int32) (a4 : Int32) (a5 : Int32) (m : rf_m) (hg : g_X14_blunder_231 w rec142 a1 a2 a3 a4 a5 m = some r) : rf_V 7 (rf_sh w) K 0 0 231 ([(0, .ref 206), (1, .int a1), (2, .int a2), (3, .int a3), (4, .int a4), (5, .int a5)], [], rf_MM w m) := by
  unfold g_X14_blunder_231 at hg
  refine rf_seg C [(.iinc 5 1, 3)] (pc' := 234) (S' := ([(5, .int (a5 + 1)), (0, .ref 206), (1, .int a1), (2, .int a2), (3, .int a3), (4, .int a4)], [], rf_MM w m)) (by decide +kernel) rfl trivial ?_
  refine rf_goto C (-92) 142 (by decide +kernel) ?_
  refine rf_few [1, 2, 3, 4, 5, 0] rfl ?_
  exact hr142 a1 a2 a3 a4 (a5 + 1) m hg
theorem s_X14_blunder_198 {w : rf_w} {K : rf_K} {r : Int32 × rf_m} (C : rf_Ctx 14 cX14_blunder 7 9 (rf_sh w) K) (hE : rf_End (some .int) K (rf_sh w) 0 0 (some (.int r.1)) (rf_MM w r.2)) {rec142 : Int32 → Int32 → Int32 → Int32 → Int32 → rf_m → Option (Int32 × rf_m)} (hr142 : ∀ (a1 : Int32) (a2 : Int32) (a3 : Int32) (a4 : Int32) (a5 : Int32) (m : rf_m), rec142 a1 a2 a3 a4 a5 m = some r → rf_V 7 (rf_sh w) K 0 0 142 ([(0, .ref 206), (1, .int a1), (2, .int a2), (3, .int a3), (4, .int a4), (5, .int a5)], [], rf_MM w m)) (a1 : Int32) (a2 : Int32) (a5 : Int32) (m : rf_m) (hg : g_X14_blunder_198 w rec142 a1 a2 a5 m = some r) : rf_V 7 (rf_sh w) K 0 0 198 ([(0, .ref 206), (1, .int a1), (2, .int a2), (5, .int a5)], [], rf_MM w m) := by
  unfold g_X14_blunder_198 at hg
  refine rf_seg C [(.iload 5, 2), (.istore 3, 1), (.iconst 1, 1), (.istore 4, 2)] (pc' := 204) (S' := ([(4, .int 1), (3, .int a5), (0, .ref 206), (1, .int a1), (2, .int a2), (5, .int a5)], [], rf_MM w m)) (by decide +kernel) rfl trivial ?_
  refine rf_goto C 27 231 (by decide +kernel) ?_
  refine rf_few [2, 3, 4, 1, 0, 5] rfl ?_
  exact s_X14_blunder_231 C hE hr142 a1 a2 a5 1 a5 m hg
theorem s_X14_blunder_167 {w : rf_w} {K : rf_K} {r : Int32 × rf_m} (C : rf_Ctx 14 cX14_blunder 7 9 (rf_sh w) K) (hE : rf_End (some .int) K (rf_sh w) 0 0 (some (.int r.1)) (rf_MM w r.2)) {rec142 : Int32 → Int32 → Int32 → Int32 → Int32 → rf_m → Option (Int32 × rf_m)} (hr142 : ∀ (a1 : Int32) (a2 : Int32) (a3 : Int32) (a4 : Int32) (a5 : Int32) (m : rf_m), rec142 a1 a2 a3 a4 a5 m = some r → rf_V 7 (rf_sh w) K 0 0 142 ([(0, .ref 206), (1, .int a1), (2, .int a2), (3, .int a3), (4, .int a4), (5, .int a5)], [], rf_MM w m)) (a1 : Int32) (a2 : Int32) (a3 : Int32) (a4 : Int32) (a5 : Int32) (m : rf_m) (hg : g_X14_blunder_167 w rec142 a1 a2 a3 a4 a5 m = some r) : rf_V 7 (rf_sh w) K 0 0 167 ([(0, .ref 206), (1, .int a1), (2, .int a2), (3, .int a3), (4, .int a4), (5, .int a5)], [], rf_MM w m) := by
  unfold g_X14_blunder_167 at hg
  refine rf_seg C [(.aload 0, 1), (.iload 1, 1), (.iload 5, 2), (.iload 2, 1)] (pc' := 172) (S' := ([(0, .ref 206), (1, .int a1), (2, .int a2), (3, .int a3), (4, .int a4), (5, .int a5)], [.int a2, .int a5, .int a1, .ref 206], rf_MM w m)) (by decide +kernel) rfl trivial ?_
  obtain ⟨y0, m0, hc0, hg⟩ := rf_b_some hg
  refine rf_callv C rf_fit0 j_X14_isRight (ci := 14) (As := [.int a1, .int a5, .int a2]) (rest := []) mw_X14_isRight (c_X14_isRight hc0) (by decide) rfl (by decide) lk_14_864 rfl rfl (Nat.le_of_ble_eq_true rfl) (by decide +kernel) ?_
  show rf_V 7 (rf_sh w) K 0 0 175 ([(0, .ref 206), (1, .int a1), (2, .int a2), (3, .int a3), (4, .int a4), (5, .int a5)], [.int y0], rf_MM w m0)
  refine rf_if_ne C 6 181 (by decide +kernel) (fun hc => ?_) (fun hc => ?_)
  · replace hg := (if_neg hc).symm.trans hg
    refine rf_seg C [(.iload 3, 1), (.iconst (-1), 1)] (pc' := 183) (S' := ([(0, .ref 206), (1, .int a1), (2, .int a2), (3, .int a3), (4, .int a4), (5, .int a5)], [.int ((-1)), .int a3], rf_MM w m0)) (by decide +kernel) rfl trivial ?_
    refine rf_icmp_eq C 15 198 (by decide +kernel) (fun hc => ?_) (fun hc => ?_)
    · replace hg := (if_pos hc).symm.trans hg
      refine rf_few [0, 1, 2, 5] rfl ?_
      exact s_X14_blunder_198 C hE hr142 a1 a2 a5 m0 hg
    · replace hg := (if_neg hc).symm.trans hg
      refine rf_seg C [(.iload 5, 2)] (pc' := 188) (S' := ([(0, .ref 206), (1, .int a1), (2, .int a2), (3, .int a3), (4, .int a4), (5, .int a5)], [.int a5], rf_MM w m0)) (by decide +kernel) rfl trivial ?_
      obtain ⟨y1, m1, hc1, hg⟩ := rf_b_some hg
      refine rf_calls C rf_fit0 j_X14_bits (As := [.int a5]) (rest := []) mw_X14_bits (c_X14_bits hc1) (by decide) lk_14_767 rfl rfl (Nat.le_of_ble_eq_true rfl) (by decide +kernel) ?_
      show rf_V 7 (rf_sh w) K 0 0 191 ([(0, .ref 206), (1, .int a1), (2, .int a2), (3, .int a3), (4, .int a4), (5, .int a5)], [.int y1], rf_MM w m1)
      refine rf_seg C [(.iload 3, 1)] (pc' := 192) (S' := ([(0, .ref 206), (1, .int a1), (2, .int a2), (3, .int a3), (4, .int a4), (5, .int a5)], [.int a3, .int y1], rf_MM w m1)) (by decide +kernel) rfl trivial ?_
      obtain ⟨y2, m2, hc2, hg⟩ := rf_b_some hg
      refine rf_calls C rf_fit0 j_X14_bits (As := [.int a3]) (rest := [.int y1]) mw_X14_bits (c_X14_bits hc2) (by decide) lk_14_767 rfl rfl (Nat.le_of_ble_eq_true rfl) (by decide +kernel) ?_
      show rf_V 7 (rf_sh w) K 0 0 195 ([(0, .ref 206), (1, .int a1), (2, .int a2), (3, .int a3), (4, .int a4), (5, .int a5)], [.int y2, .int y1], rf_MM w m2)
      refine rf_icmp_ge C 12 207 (by decide +kernel) (fun hc => ?_) (fun hc => ?_)
      · replace hg := (if_pos hc).symm.trans hg
        refine rf_seg C [(.iinc 4 1, 3), (.iload 5, 2), (.iload 3, 1), (.ixor, 1), (.istore 6, 2), (.iload 6, 2), (.iload 6, 2), (.ineg, 1), (.iand, 1), (.iload 5, 2), (.iand, 1)] (pc' := 225) (S' := ([(6, .int (a5 ^^^ a3)), (4, .int (a4 + 1)), (0, .ref 206), (1, .int a1), (2, .int a2), (3, .int a3), (5, .int a5)], [.int (((a5 ^^^ a3) &&& (-(a5 ^^^ a3))) &&& a5)], rf_MM w m2)) (by decide +kernel) rfl trivial ?_
        refine rf_if_eq C 6 231 (by decide +kernel) (fun hc => ?_) (fun hc => ?_)
        · replace hg := (if_pos hc).symm.trans hg
          refine rf_few [2, 3, 4, 5, 1, 6] rfl ?_
          exact s_X14_blunder_231 C hE hr142 a1 a2 a3 (a4 + 1) a5 m2 hg
        · replace hg := (if_neg hc).symm.trans hg
          refine rf_seg C [(.iload 5, 2), (.istore 3, 1)] (pc' := 231) (S' := ([(3, .int a5), (6, .int (a5 ^^^ a3)), (4, .int (a4 + 1)), (0, .ref 206), (1, .int a1), (2, .int a2), (5, .int a5)], [], rf_MM w m2)) (by decide +kernel) rfl trivial ?_
          refine rf_few [3, 4, 5, 0, 2, 6] rfl ?_
          exact s_X14_blunder_231 C hE hr142 a1 a2 a5 (a4 + 1) a5 m2 hg
      · replace hg := (if_neg hc).symm.trans hg
        refine rf_few [0, 1, 2, 5] rfl ?_
        exact s_X14_blunder_198 C hE hr142 a1 a2 a5 m2 hg
  · replace hg := (if_pos hc).symm.trans hg
    refine rf_goto C 53 231 (by decide +kernel) ?_
    refine rf_few [0, 1, 2, 3, 4, 5] rfl ?_
    exact s_X14_blunder_231 C hE hr142 a1 a2 a3 a4 a5 m0 hg
theorem s_X14_blunder_142_b {w : rf_w} {K : rf_K} {r : Int32 × rf_m} (C : rf_Ctx 14 cX14_blunder 7 9 (rf_sh w) K) (hE : rf_End (some .int) K (rf_sh w) 0 0 (some (.int r.1)) (rf_MM w r.2)) {rec142 : Int32 → Int32 → Int32 → Int32 → Int32 → rf_m → Option (Int32 × rf_m)} (hr142 : ∀ (a1 : Int32) (a2 : Int32) (a3 : Int32) (a4 : Int32) (a5 : Int32) (m : rf_m), rec142 a1 a2 a3 a4 a5 m = some r → rf_V 7 (rf_sh w) K 0 0 142 ([(0, .ref 206), (1, .int a1), (2, .int a2), (3, .int a3), (4, .int a4), (5, .int a5)], [], rf_MM w m)) (a1 : Int32) (a2 : Int32) (a3 : Int32) (a4 : Int32) (a5 : Int32) (m : rf_m) (hg : g_X14_blunder_142_b w rec142 a1 a2 a3 a4 a5 m = some r) : rf_V 7 (rf_sh w) K 0 0 142 ([(0, .ref 206), (1, .int a1), (2, .int a2), (3, .int a3), (4, .int a4), (5, .int a5)], [], rf_MM w m) := by
  unfold g_X14_blunder_142_b at hg
  refine rf_seg C [(.iload 5, 2), (.iconst 1, 1), (.iload 1, 1), (.ishl, 1)] (pc' := 147) (S' := ([(0, .ref 206), (1, .int a1), (2, .int a2), (3, .int a3), (4, .int a4), (5, .int a5)], [.int (1 <<< (a1 &&& 31)), .int a5], rf_MM w m)) (by decide +kernel) rfl trivial ?_
  refine rf_icmp_ge C 90 237 (by decide +kernel) (fun hc => ?_) (fun hc => ?_)
  · replace hg := (if_pos hc).symm.trans hg
    refine rf_seg C [(.iload 3, 1), (.iconst (-1), 1)] (pc' := 239) (S' := ([(0, .ref 206), (1, .int a1), (2, .int a2), (3, .int a3), (4, .int a4), (5, .int a5)], [.int ((-1)), .int a3], rf_MM w m)) (by decide +kernel) rfl trivial ?_
    refine rf_icmp_ne C 6 245 (by decide +kernel) (fun hc => ?_) (fun hc => ?_)
    · replace hg := (if_neg hc).symm.trans hg
      refine rf_seg C [(.aload 0, 1), (.iconst 0, 1), (.multianewarray 14 117, 3), (.iconst 0, 1), (.istore 5, 2)] (pc' := 253) (S' := ([(5, .int 0), (0, .ref 206), (1, .int a1), (2, .int a2), (3, .int a3), (4, .int a4)], [], rf_MM w (rf_i m 206 117 0))) (by decide +kernel) rfl trivial ?_
      refine rf_few [1, 2, 4, 5, 0] rfl ?_
      exact s_X14_blunder_253 C hE rf_fuel a1 a3 a4 0 (rf_i m 206 117 0) hg
    · replace hg := (if_pos hc).symm.trans hg
      refine rf_seg C [(.iconst (-2), 2)] (pc' := 244) (S' := ([(0, .ref 206), (1, .int a1), (2, .int a2), (3, .int a3), (4, .int a4), (5, .int a5)], [.int ((-2))], rf_MM w m)) (by decide +kernel) rfl trivial ?_
      obtain rfl := Option.some.inj hg
      exact rf_iret C hE (by decide +kernel)
  · replace hg := (if_neg hc).symm.trans hg
    refine rf_seg C [(.iload 3, 1), (.iconst (-1), 1)] (pc' := 152) (S' := ([(0, .ref 206), (1, .int a1), (2, .int a2), (3, .int a3), (4, .int a4), (5, .int a5)], [.int ((-1)), .int a3], rf_MM w m)) (by decide +kernel) rfl trivial ?_
    refine rf_icmp_eq C 15 167 (by decide +kernel) (fun hc => ?_) (fun hc => ?_)
    · replace hg := (if_pos hc).symm.trans hg
      refine rf_few [0, 1, 2, 3, 4, 5] rfl ?_
      exact s_X14_blunder_167 C hE hr142 a1 a2 a3 a4 a5 m hg
    · replace hg := (if_neg hc).symm.trans hg
      refine rf_seg C [(.iload 5, 2)] (pc' := 157) (S' := ([(0, .ref 206), (1, .int a1), (2, .int a2), (3, .int a3), (4, .int a4), (5, .int a5)], [.int a5], rf_MM w m)) (by decide +kernel) rfl trivial ?_
      obtain ⟨y0, m0, hc0, hg⟩ := rf_b_some hg
      refine rf_calls C rf_fit0 j_X14_bits (As := [.int a5]) (rest := []) mw_X14_bits (c_X14_bits hc0) (by decide) lk_14_767 rfl rfl (Nat.le_of_ble_eq_true rfl) (by decide +kernel) ?_
      show rf_V 7 (rf_sh w) K 0 0 160 ([(0, .ref 206), (1, .int a1), (2, .int a2), (3, .int a3), (4, .int a4), (5, .int a5)], [.int y0], rf_MM w m0)
      refine rf_seg C [(.iload 3, 1)] (pc' := 161) (S' := ([(0, .ref 206), (1, .int a1), (2, .int a2), (3, .int a3), (4, .int a4), (5, .int a5)], [.int a3, .int y0], rf_MM w m0)) (by decide +kernel) rfl trivial ?_
      obtain ⟨y1, m1, hc1, hg⟩ := rf_b_some hg
      refine rf_calls C rf_fit0 j_X14_bits (As := [.int a3]) (rest := [.int y0]) mw_X14_bits (c_X14_bits hc1) (by decide) lk_14_767 rfl rfl (Nat.le_of_ble_eq_true rfl) (by decide +kernel) ?_
      show rf_V 7 (rf_sh w) K 0 0 164 ([(0, .ref 206), (1, .int a1), (2, .int a2), (3, .int a3), (4, .int a4), (5, .int a5)], [.int y1, .int y0], rf_MM w m1)
      refine rf_icmp_gt C 67 231 (by decide +kernel) (fun hc => ?_) (fun hc => ?_)
      · replace hg := (if_pos hc).symm.trans hg
        refine rf_few [0, 1, 2, 3, 4, 5] rfl ?_
        exact s_X14_blunder_231 C hE hr142 a1 a2 a3 a4 a5 m1 hg
      · replace hg := (if_neg hc).symm.trans hg
        refine rf_few [0, 1, 2, 3, 4, 5] rfl ?_
        exact s_X14_blunder_167 C hE hr142 a1 a2 a3 a4 a5 m1 hg
theorem s_X14_blunder_142 {w : rf_w} {K : rf_K} {r : Int32 × rf_m} (C : rf_Ctx 14 cX14_blunder 7 9 (rf_sh w) K) (hE : rf_End (some .int) K (rf_sh w) 0 0 (some (.int r.1)) (rf_MM w r.2)) (n : Nat) : ∀ (a1 : Int32) (a2 : Int32) (a3 : Int32) (a4 : Int32) (a5 : Int32) (m : rf_m), g_X14_blunder_142 w n a1 a2 a3 a4 a5 m = some r → rf_V 7 (rf_sh w) K 0 0 142 ([(0, .ref 206), (1, .int a1), (2, .int a2), (3, .int a3), (4, .int a4), (5, .int a5)], [], rf_MM w m) := by
  induction n with
  | zero => intro a1 a2 a3 a4 a5 m hg; cases hg
  | succ n ih => intro a1 a2 a3 a4 a5 m hg; exact s_X14_blunder_142_b C hE ih a1 a2 a3 a4 a5 m hg
theorem s_X14_blunder_88_b {w : rf_w} {K : rf_K} {r : Int32 × rf_m} (C : rf_Ctx 14 cX14_blunder 7 9 (rf_sh w) K) (hE : rf_End (some .int) K (rf_sh w) 0 0 (some (.int r.1)) (rf_MM w r.2)) {rec56 : Int32 → Int32 → rf_m → Option (Int32 × rf_m)} {rec88 : Int32 → Int32 → Int32 → rf_m → Option (Int32 × rf_m)} (hr56 : ∀ (a1 : Int32) (a2 : Int32) (m : rf_m), rec56 a1 a2 m = some r → rf_V 7 (rf_sh w) K 0 0 56 ([(0, .ref 206), (1, .int a1), (2, .int a2)], [], rf_MM w m)) (hr88 : ∀ (a1 : Int32) (a2 : Int32) (a3 : Int32) (m : rf_m), rec88 a1 a2 a3 m = some r → rf_V 7 (rf_sh w) K 0 0 88 ([(0, .ref 206), (1, .int a1), (2, .int a2), (3, .int a3)], [], rf_MM w m)) (a1 : Int32) (a2 : Int32) (a3 : Int32) (m : rf_m) (hg : g_X14_blunder_88_b w rec56 rec88 a1 a2 a3 m = some r) : rf_V 7 (rf_sh w) K 0 0 88 ([(0, .ref 206), (1, .int a1), (2, .int a2), (3, .int a3)], [], rf_MM w m) := by
  unfold g_X14_blunder_88_b at hg
  refine rf_seg C [(.iload 3, 1), (.aload 0, 1), (.invokeinterface 14 34, 3)] (pc' := 93) (S' := ([(0, .ref 206), (1, .int a1), (2, .int a2), (3, .int a3)], [.int (m.1 206 34), .int a3], rf_MM w m)) (by decide +kernel) rfl trivial ?_
  refine rf_icmp_ge C 30 123 (by decide +kernel) (fun hc => ?_) (fun hc => ?_)
  · replace hg := (if_pos hc).symm.trans hg
    refine rf_seg C [(.iinc 2 1, 3)] (pc' := 126) (S' := ([(2, .int (a2 + 1)), (0, .ref 206), (1, .int a1), (3, .int a3)], [], rf_MM w m)) (by decide +kernel) rfl trivial ?_
    refine rf_goto C (-70) 56 (by decide +kernel) ?_
    refine rf_few [1, 2, 0] rfl ?_
    exact hr56 a1 (a2 + 1) m hg
  · replace hg := (if_neg hc).symm.trans hg
    obtain ⟨q0, hg⟩ := rf_g_some hg
    obtain ⟨q1, hg⟩ := rf_g_some hg
    obtain ⟨q2, hg⟩ := rf_g_some hg
    obtain ⟨q3, hg⟩ := rf_g_some hg
    refine rf_seg C [(.aload 0, 1), (.invokeinterface 14 124, 3), (.iload 2, 1), (.dup2, 1), (.laload, 1), (.aload 0, 1), (.invokeinterface 14 25, 3), (.aload 0, 1), (.invokeinterface 14 31, 3), (.iload 3, 1), (.iaload, 1), (.iaload, 1), (.i2l, 1), (.ladd, 1), (.lastore, 1), (.iinc 3 1, 3)] (pc' := 120) (S' := ([(3, .int (a3 + 1)), (0, .ref 206), (1, .int a1), (2, .int a2)], [], rf_MM w (rf_l m 287 (Int32.toNatClampNeg a2) ((m.2 287 (Int32.toNatClampNeg a2)) + (Int32.toInt64 (m.1 221 (Int32.toNatClampNeg (m.1 227 (Int32.toNatClampNeg a3))))))))) (by decide +kernel) rfl (by exact ⟨(rf_in_of q0), (rf_in_of q1), (rf_in_of q2), (rf_in_of q3)⟩) ?_
    refine rf_goto C (-32) 88 (by decide +kernel) ?_
    refine rf_few [1, 2, 3, 0] rfl ?_
    exact hr88 a1 a2 (a3 + 1) (rf_l m 287 (Int32.toNatClampNeg a2) ((m.2 287 (Int32.toNatClampNeg a2)) + (Int32.toInt64 (m.1 221 (Int32.toNatClampNeg (m.1 227 (Int32.toNatClampNeg a3))))))) hg
theorem s_X14_blunder_88 {w : rf_w} {K : rf_K} {r : Int32 × rf_m} (C : rf_Ctx 14 cX14_blunder 7 9 (rf_sh w) K) (hE : rf_End (some .int) K (rf_sh w) 0 0 (some (.int r.1)) (rf_MM w r.2)) {rec56 : Int32 → Int32 → rf_m → Option (Int32 × rf_m)} (hr56 : ∀ (a1 : Int32) (a2 : Int32) (m : rf_m), rec56 a1 a2 m = some r → rf_V 7 (rf_sh w) K 0 0 56 ([(0, .ref 206), (1, .int a1), (2, .int a2)], [], rf_MM w m)) (n : Nat) : ∀ (a1 : Int32) (a2 : Int32) (a3 : Int32) (m : rf_m), g_X14_blunder_88 w rec56 n a1 a2 a3 m = some r → rf_V 7 (rf_sh w) K 0 0 88 ([(0, .ref 206), (1, .int a1), (2, .int a2), (3, .int a3)], [], rf_MM w m) := by
  induction n with
  | zero => intro a1 a2 a3 m hg; cases hg
  | succ n ih => intro a1 a2 a3 m hg; exact s_X14_blunder_88_b C hE hr56 ih a1 a2 a3 m hg
theorem s_X14_blunder_56_b {w : rf_w} {K : rf_K} {r : Int32 × rf_m} (C : rf_Ctx 14 cX14_blunder 7 9 (rf_sh w) K) (hE : rf_End (some .int) K (rf_sh w) 0 0 (some (.int r.1)) (rf_MM w r.2)) {rec56 : Int32 → Int32 → rf_m → Option (Int32 × rf_m)} (hr56 : ∀ (a1 : Int32) (a2 : Int32) (m : rf_m), rec56 a1 a2 m = some r → rf_V 7 (rf_sh w) K 0 0 56 ([(0, .ref 206), (1, .int a1), (2, .int a2)], [], rf_MM w m)) (a1 : Int32) (a2 : Int32) (m : rf_m) (hg : g_X14_blunder_56_b w rec56 a1 a2 m = some r) : rf_V 7 (rf_sh w) K 0 0 56 ([(0, .ref 206), (1, .int a1), (2, .int a2)], [], rf_MM w m) := by
  unfold g_X14_blunder_56_b at hg
  refine rf_seg C [(.iload 2, 1), (.aload 0, 1), (.invokeinterface 14 16, 3)] (pc' := 61) (S' := ([(0, .ref 206), (1, .int a1), (2, .int a2)], [.int (m.1 206 16), .int a2], rf_MM w m)) (by decide +kernel) rfl trivial ?_
  refine rf_icmp_ge C 68 129 (by decide +kernel) (fun hc => ?_) (fun hc => ?_)
  · replace hg := (if_pos hc).symm.trans hg
    refine rf_seg C [(.aload 0, 1)] (pc' := 130) (S' := ([(0, .ref 206), (1, .int a1), (2, .int a2)], [.ref 206], rf_MM w m)) (by decide +kernel) rfl trivial ?_
    obtain ⟨y0, m0, hc0, hg⟩ := rf_b_some hg
    refine rf_callv C rf_fit0 j_X14_allowed (ci := 14) (As := []) (rest := []) mw_X14_allowed (c_X14_allowed hc0) (by decide) rfl (by decide) lk_14_663 rfl rfl (Nat.le_of_ble_eq_true rfl) (by decide +kernel) ?_
    show rf_V 7 (rf_sh w) K 0 0 133 ([(0, .ref 206), (1, .int a1), (2, .int a2)], [.int y0], rf_MM w m0)
    refine rf_seg C [(.istore 2, 1), (.iconst (-1), 1), (.istore 3, 1), (.iconst 0, 1), (.istore 4, 2), (.iconst 0, 1), (.istore 5, 2)] (pc' := 142) (S' := ([(5, .int 0), (4, .int 0), (3, .int ((-1))), (2, .int y0), (0, .ref 206), (1, .int a1)], [], rf_MM w m0)) (by decide +kernel) rfl trivial ?_
    refine rf_few [4, 5, 3, 2, 1, 0] rfl ?_
    exact s_X14_blunder_142 C hE rf_fuel a1 y0 ((-1)) 0 0 m0 hg
  · replace hg := (if_neg hc).symm.trans hg
    refine rf_seg C [(.aload 0, 1), (.iload 2, 1)] (pc' := 66) (S' := ([(0, .ref 206), (1, .int a1), (2, .int a2)], [.int a2, .ref 206], rf_MM w m)) (by decide +kernel) rfl trivial ?_
    obtain ⟨m1, hc1, hg⟩ := rf_bv_some hg
    refine rf_callv C rf_fit0 j_X14_now (ci := 14) (As := [.int a2]) (rest := []) mw_X14_now (c_X14_now hc1) (by decide) rfl (by decide) lk_14_469 rfl rfl (Nat.le_of_ble_eq_true rfl) (by decide +kernel) ?_
    show rf_V 7 (rf_sh w) K 0 0 69 ([(0, .ref 206), (1, .int a1), (2, .int a2)], [], rf_MM w m1)
    obtain ⟨q2, hg⟩ := rf_g_some hg
    obtain ⟨q3, hg⟩ := rf_g_some hg
    refine rf_seg C [(.aload 0, 1), (.invokeinterface 14 122, 3), (.iload 2, 1), (.aload 0, 1), (.invokeinterface 14 34, 3), (.iastore, 1), (.aload 0, 1), (.invokeinterface 14 124, 3), (.iload 2, 1), (.goto_w 0, 1), (.lastore, 1), (.iconst 0, 1), (.istore 3, 1)] (pc' := 88) (S' := ([(3, .int 0), (0, .ref 206), (1, .int a1), (2, .int a2)], [], rf_MM w (rf_l (rf_i m1 285 (Int32.toNatClampNeg a2) (m1.1 206 34)) 287 (Int32.toNatClampNeg a2) 0))) (by decide +kernel) rfl (by exact ⟨(rf_in_of q2), (rf_in_of q3)⟩) ?_
    refine rf_few [1, 2, 3, 0] rfl ?_
    exact s_X14_blunder_88 C hE hr56 rf_fuel a1 a2 0 (rf_l (rf_i m1 285 (Int32.toNatClampNeg a2) (m1.1 206 34)) 287 (Int32.toNatClampNeg a2) 0) hg
theorem s_X14_blunder_56 {w : rf_w} {K : rf_K} {r : Int32 × rf_m} (C : rf_Ctx 14 cX14_blunder 7 9 (rf_sh w) K) (hE : rf_End (some .int) K (rf_sh w) 0 0 (some (.int r.1)) (rf_MM w r.2)) (n : Nat) : ∀ (a1 : Int32) (a2 : Int32) (m : rf_m), g_X14_blunder_56 w n a1 a2 m = some r → rf_V 7 (rf_sh w) K 0 0 56 ([(0, .ref 206), (1, .int a1), (2, .int a2)], [], rf_MM w m) := by
  induction n with
  | zero => intro a1 a2 m hg; cases hg
  | succ n ih => intro a1 a2 m hg; exact s_X14_blunder_56_b C hE ih a1 a2 m hg
theorem s_X14_blunder_48 {w : rf_w} {K : rf_K} {r : Int32 × rf_m} (C : rf_Ctx 14 cX14_blunder 7 9 (rf_sh w) K) (hE : rf_End (some .int) K (rf_sh w) 0 0 (some (.int r.1)) (rf_MM w r.2)) {rec9 : Int32 → Int32 → rf_m → Option (Int32 × rf_m)} (hr9 : ∀ (a1 : Int32) (a2 : Int32) (m : rf_m), rec9 a1 a2 m = some r → rf_V 7 (rf_sh w) K 0 0 9 ([(0, .ref 206), (1, .int a1), (2, .int a2)], [], rf_MM w m)) (a1 : Int32) (a2 : Int32) (m : rf_m) (hg : g_X14_blunder_48 w rec9 a1 a2 m = some r) : rf_V 7 (rf_sh w) K 0 0 48 ([(0, .ref 206), (1, .int a1), (2, .int a2)], [], rf_MM w m) := by
  unfold g_X14_blunder_48 at hg
  refine rf_seg C [(.iinc 2 1, 3)] (pc' := 51) (S' := ([(2, .int (a2 + 1)), (0, .ref 206), (1, .int a1)], [], rf_MM w m)) (by decide +kernel) rfl trivial ?_
  refine rf_goto C (-42) 9 (by decide +kernel) ?_
  refine rf_few [1, 2, 0] rfl ?_
  exact hr9 a1 (a2 + 1) m hg
theorem s_X14_blunder_9_b {w : rf_w} {K : rf_K} {r : Int32 × rf_m} (C : rf_Ctx 14 cX14_blunder 7 9 (rf_sh w) K) (hE : rf_End (some .int) K (rf_sh w) 0 0 (some (.int r.1)) (rf_MM w r.2)) {rec9 : Int32 → Int32 → rf_m → Option (Int32 × rf_m)} (hr9 : ∀ (a1 : Int32) (a2 : Int32) (m : rf_m), rec9 a1 a2 m = some r → rf_V 7 (rf_sh w) K 0 0 9 ([(0, .ref 206), (1, .int a1), (2, .int a2)], [], rf_MM w m)) (a1 : Int32) (a2 : Int32) (m : rf_m) (hg : g_X14_blunder_9_b w rec9 a1 a2 m = some r) : rf_V 7 (rf_sh w) K 0 0 9 ([(0, .ref 206), (1, .int a1), (2, .int a2)], [], rf_MM w m) := by
  unfold g_X14_blunder_9_b at hg
  refine rf_seg C [(.iload 2, 1), (.aload 0, 1), (.invokeinterface 14 116, 3)] (pc' := 14) (S' := ([(0, .ref 206), (1, .int a1), (2, .int a2)], [.int (m.1 206 116), .int a2], rf_MM w m)) (by decide +kernel) rfl trivial ?_
  refine rf_icmp_ge C 40 54 (by decide +kernel) (fun hc => ?_) (fun hc => ?_)
  · replace hg := (if_pos hc).symm.trans hg
    refine rf_seg C [(.iconst 0, 1), (.istore 2, 1)] (pc' := 56) (S' := ([(2, .int 0), (0, .ref 206), (1, .int a1)], [], rf_MM w m)) (by decide +kernel) rfl trivial ?_
    refine rf_few [1, 2, 0] rfl ?_
    exact s_X14_blunder_56 C hE rf_fuel a1 0 m hg
  · replace hg := (if_neg hc).symm.trans hg
    obtain ⟨q0, hg⟩ := rf_g_some hg
    refine rf_seg C [(.aload 0, 1), (.aload 0, 1), (.invokeinterface 14 119, 3), (.iload 2, 1), (.iaload, 1)] (pc' := 24) (S' := ([(0, .ref 206), (1, .int a1), (2, .int a2)], [.int (m.1 282 (Int32.toNatClampNeg a2)), .ref 206], rf_MM w m)) (by decide +kernel) rfl (rf_in_of q0) ?_
    obtain ⟨y1, m1, hc1, hg⟩ := rf_b_some hg
    refine rf_callv C rf_fit0 j_X14_isKeptNow (ci := 14) (As := [.int (m.1 282 (Int32.toNatClampNeg a2))]) (rest := []) mw_X14_isKeptNow (c_X14_isKeptNow hc1) (by decide) rfl (by decide) lk_14_861 rfl rfl (Nat.le_of_ble_eq_true rfl) (by decide +kernel) ?_
    show rf_V 7 (rf_sh w) K 0 0 27 ([(0, .ref 206), (1, .int a1), (2, .int a2)], [.int y1], rf_MM w m1)
    refine rf_if_ne C 6 33 (by decide +kernel) (fun hc => ?_) (fun hc => ?_)
    · replace hg := (if_neg hc).symm.trans hg
      obtain ⟨q2, hg⟩ := rf_g_some hg
      obtain ⟨q3, hg⟩ := rf_g_some hg
      refine rf_seg C [(.aload 0, 1), (.invokeinterface 14 120, 3), (.iload 1, 1), (.aload 0, 1), (.invokeinterface 14 119, 3), (.iload 2, 1), (.iaload, 1), (.iastore, 1), (.iinc 1 1, 3)] (pc' := 48) (S' := ([(1, .int (a1 + 1)), (0, .ref 206), (2, .int a2)], [], rf_MM w (rf_i m1 283 (Int32.toNatClampNeg a1) (m1.1 282 (Int32.toNatClampNeg a2))))) (by decide +kernel) rfl (by exact ⟨(rf_in_of q2), (rf_in_of q3)⟩) ?_
      refine rf_few [1, 0, 2] rfl ?_
      exact s_X14_blunder_48 C hE hr9 (a1 + 1) a2 (rf_i m1 283 (Int32.toNatClampNeg a1) (m1.1 282 (Int32.toNatClampNeg a2))) hg
    · replace hg := (if_pos hc).symm.trans hg
      refine rf_goto C 18 48 (by decide +kernel) ?_
      refine rf_few [0, 1, 2] rfl ?_
      exact s_X14_blunder_48 C hE hr9 a1 a2 m1 hg
theorem s_X14_blunder_9 {w : rf_w} {K : rf_K} {r : Int32 × rf_m} (C : rf_Ctx 14 cX14_blunder 7 9 (rf_sh w) K) (hE : rf_End (some .int) K (rf_sh w) 0 0 (some (.int r.1)) (rf_MM w r.2)) (n : Nat) : ∀ (a1 : Int32) (a2 : Int32) (m : rf_m), g_X14_blunder_9 w n a1 a2 m = some r → rf_V 7 (rf_sh w) K 0 0 9 ([(0, .ref 206), (1, .int a1), (2, .int a2)], [], rf_MM w m) := by
  induction n with
  | zero => intro a1 a2 m hg; cases hg
  | succ n ih => intro a1 a2 m hg; exact s_X14_blunder_9_b C hE ih a1 a2 m hg
theorem c_X14_blunder {w : rf_w} {m : rf_m} {r : Int32 × rf_m} (hg : g_X14_blunder w m = some r) : rf_Con j_X14_blunder 9 (rf_sh w) [.ref 206] (rf_MM w m) (some (.int r.1)) (rf_MM w r.2) := by
  refine rf_con j_X14_blunder 9 ⟨by decide +kernel, rfl, Nat.le_of_ble_eq_true rfl⟩ (fun K C hE => ?_)
  unfold g_X14_blunder at hg
  show rf_V 7 (rf_sh w) K 0 0 0 ([(0, .ref 206)], [], rf_MM w m)
  refine rf_seg C [(.aload 0, 1), (.iconst 0, 1), (.multianewarray 14 0, 3), (.iconst 0, 1), (.istore 1, 1), (.iconst 0, 1), (.istore 2, 1)] (pc' := 9) (S' := ([(2, .int 0), (1, .int 0), (0, .ref 206)], [], rf_MM w (rf_i m 206 0 0))) (by decide +kernel) rfl trivial ?_
  refine rf_few [2, 1, 0] rfl ?_
  exact s_X14_blunder_9 C hE rf_fuel 0 0 (rf_i m 206 0 0) hg
-- X14_guilty
abbrev j_X14_guilty : rf_J := (14, yX14_guilty, cX14_guilty, 2, (some .int))
theorem mw_X14_guilty : rf_mv j_X14_guilty (rf_R 14) 1 := ⟨⟨rf_mem 87 (by decide +kernel), rf_mem 87 (by decide +kernel), rf_mem 0 (by decide +kernel), rf_mem 87 (by decide +kernel)⟩, by decide +kernel, by decide⟩
def g_X14_guilty (w : rf_w) (m : rf_m) (a1 : Int32) : Option (Int32 × rf_m) := (if a1 < 0 then some ((-1), rf_i m 206 0 0) else (if ((rf_i m 206 0 0).1 206 117) ≤ a1 then some ((-1), rf_i m 206 0 0) else rf_g (rf_in a1 12) (some ((rf_i m 206 0 0).1 284 (Int32.toNatClampNeg a1), rf_i m 206 0 0))))
theorem c_X14_guilty {w : rf_w} {m : rf_m} {a1 : Int32} {r : Int32 × rf_m} (hg : g_X14_guilty w m a1 = some r) : rf_Con j_X14_guilty 1 (rf_sh w) [.ref 206, .int a1] (rf_MM w m) (some (.int r.1)) (rf_MM w r.2) := by
  refine rf_con j_X14_guilty 1 ⟨by decide +kernel, rfl, Nat.le_of_ble_eq_true rfl⟩ (fun K C hE => ?_)
  unfold g_X14_guilty at hg
  show rf_V 2 (rf_sh w) K 0 0 0 ([(0, .ref 206), (1, .int a1)], [], rf_MM w m)
  refine rf_seg C [(.aload 0, 1), (.iconst 0, 1), (.multianewarray 14 0, 3), (.iload 1, 1)] (pc' := 6) (S' := ([(0, .ref 206), (1, .int a1)], [.int a1], rf_MM w (rf_i m 206 0 0))) (by decide +kernel) rfl trivial ?_
  refine rf_if_lt C 20 26 (by decide +kernel) (fun hc => ?_) (fun hc => ?_)
  · replace hg := (if_pos hc).symm.trans hg
    refine rf_seg C [(.iconst (-1), 1)] (pc' := 27) (S' := ([(0, .ref 206), (1, .int a1)], [.int ((-1))], rf_MM w (rf_i m 206 0 0))) (by decide +kernel) rfl trivial ?_
    obtain rfl := Option.some.inj hg
    exact rf_iret C hE (by decide +kernel)
  · replace hg := (if_neg hc).symm.trans hg
    refine rf_seg C [(.iload 1, 1), (.aload 0, 1), (.invokeinterface 14 117, 3)] (pc' := 14) (S' := ([(0, .ref 206), (1, .int a1)], [.int ((rf_i m 206 0 0).1 206 117), .int a1], rf_MM w (rf_i m 206 0 0))) (by decide +kernel) rfl trivial ?_
    refine rf_icmp_ge C 12 26 (by decide +kernel) (fun hc => ?_) (fun hc => ?_)
    · replace hg := (if_pos hc).symm.trans hg
      refine rf_seg C [(.iconst (-1), 1)] (pc' := 27) (S' := ([(0, .ref 206), (1, .int a1)], [.int ((-1))], rf_MM w (rf_i m 206 0 0))) (by decide +kernel) rfl trivial ?_
      obtain rfl := Option.some.inj hg
      exact rf_iret C hE (by decide +kernel)
    · replace hg := (if_neg hc).symm.trans hg
      obtain ⟨q0, hg⟩ := rf_g_some hg
      refine rf_seg C [(.aload 0, 1), (.invokeinterface 14 121, 3), (.iload 1, 1), (.iaload, 1)] (pc' := 23) (S' := ([(0, .ref 206), (1, .int a1)], [.int ((rf_i m 206 0 0).1 284 (Int32.toNatClampNeg a1))], rf_MM w (rf_i m 206 0 0))) (by decide +kernel) rfl (rf_in_of q0) ?_
      refine rf_goto C 4 27 (by decide +kernel) ?_
      obtain rfl := Option.some.inj hg
      exact rf_iret C hE (by decide +kernel)
-- X14_rivals
abbrev j_X14_rivals : rf_J := (14, yX14_rivals, cX14_rivals, 1, (some .int))
theorem mw_X14_rivals : rf_mv j_X14_rivals (rf_R 14) 0 := ⟨⟨rf_mem 87 (by decide +kernel), rf_mem 87 (by decide +kernel), rf_mem 0 (by decide +kernel), rf_mem 87 (by decide +kernel)⟩, by decide +kernel, by decide⟩
def g_X14_rivals (w : rf_w) (m : rf_m) : Option (Int32 × rf_m) := some ((rf_i m 206 0 0).1 206 118, rf_i m 206 0 0)
theorem c_X14_rivals {w : rf_w} {m : rf_m} {r : Int32 × rf_m} (hg : g_X14_rivals w m = some r) : rf_Con j_X14_rivals 1 (rf_sh w) [.ref 206] (rf_MM w m) (some (.int r.1)) (rf_MM w r.2) := by
  refine rf_con j_X14_rivals 1 ⟨by decide +kernel, rfl, Nat.le_of_ble_eq_true rfl⟩ (fun K C hE => ?_)
  unfold g_X14_rivals at hg
  show rf_V 1 (rf_sh w) K 0 0 0 ([(0, .ref 206)], [], rf_MM w m)
  refine rf_seg C [(.aload 0, 1), (.iconst 0, 1), (.multianewarray 14 0, 3), (.aload 0, 1), (.invokeinterface 14 118, 3)] (pc' := 9) (S' := ([(0, .ref 206)], [.int ((rf_i m 206 0 0).1 206 118)], rf_MM w (rf_i m 206 0 0))) (by decide +kernel) rfl trivial ?_
  obtain rfl := Option.some.inj hg
  exact rf_iret C hE (by decide +kernel)
-- X14_star
abbrev j_X14_star : rf_J := (14, yX14_star, cX14_star, 5, (some .int))
theorem mw_X14_star : rf_mv j_X14_star (rf_R 14) 4 := ⟨⟨rf_mem 88 (by decide +kernel), rf_mem 88 (by decide +kernel), rf_mem 0 (by decide +kernel), rf_mem 88 (by decide +kernel)⟩, by decide +kernel, by decide⟩
def g_X14_star (w : rf_w) (m : rf_m) (a1 : Int32) (a2 : Int32) (a3 : Int32) (a4 : Int32) : Option (Int32 × rf_m) := rf_b (g_X14_isMark w (rf_i m 206 0 0) a1) fun y0 m0 => (if y0 = 0 then rf_b (g_X14_refused w m0 1) fun y1 m1 => some (y1, m1) else rf_b (g_X14_isMark w m0 a2) fun y2 m2 => (if y2 = 0 then rf_b (g_X14_refused w m2 1) fun y3 m3 => some (y3, m3) else (if a1 = a2 then rf_b (g_X14_refused w m2 1) fun y13 m13 => some (y13, m13) else rf_b (g_X14_in w m2 a3 0 12959999) fun y4 m4 => (if y4 = 0 then rf_b (g_X14_refused w m4 2) fun y5 m5 => some (y5, m5) else rf_b (g_X14_isHour w m4 a4) fun y6 m6 => (if y6 = 0 then rf_b (g_X14_refused w m6 2) fun y12 m12 => some (y12, m12) else (if (m6.1 206 126) = 20 then rf_b (g_X14_refused w m6 3) fun y11 m11 => some (y11, m11) else rf_g (rf_in (m6.1 206 126) 20) (rf_g (rf_in ((rf_i m6 289 (Int32.toNatClampNeg (m6.1 206 126)) a1).1 206 126) 20) (rf_g (rf_in ((rf_i (rf_i m6 289 (Int32.toNatClampNeg (m6.1 206 126)) a1) 290 (Int32.toNatClampNeg ((rf_i m6 289 (Int32.toNatClampNeg (m6.1 206 126)) a1).1 206 126)) a2).1 206 126) 20) (rf_b (g_X14_done w (rf_i (rf_i (rf_i (rf_i m6 289 (Int32.toNatClampNeg (m6.1 206 126)) a1) 290 (Int32.toNatClampNeg ((rf_i m6 289 (Int32.toNatClampNeg (m6.1 206 126)) a1).1 206 126)) a2) 291 (Int32.toNatClampNeg ((rf_i (rf_i m6 289 (Int32.toNatClampNeg (m6.1 206 126)) a1) 290 (Int32.toNatClampNeg ((rf_i m6 289 (Int32.toNatClampNeg (m6.1 206 126)) a1).1 206 126)) a2).1 206 126)) a3) 206 126 (((rf_i (rf_i (rf_i m6 289 (Int32.toNatClampNeg (m6.1 206 126)) a1) 290 (Int32.toNatClampNeg ((rf_i m6 289 (Int32.toNatClampNeg (m6.1 206 126)) a1).1 206 126)) a2) 291 (Int32.toNatClampNeg ((rf_i (rf_i m6 289 (Int32.toNatClampNeg (m6.1 206 126)) a1) 290 (Int32.toNatClampNeg ((rf_i m6 289 (Int32.toNatClampNeg (m6.1 206 126)) a1).1 206 126)) a2).1 206 126)) a3).1 206 126) + 1)) (((rf_i (rf_i (rf_i (rf_i m6 289 (Int32.toNatClampNeg (m6.1 206 126)) a1) 290 (Int32.toNatClampNeg ((rf_i m6 289 (Int32.toNatClampNeg (m6.1 206 126)) a1).1 206 126)) a2) 291 (Int32.toNatClampNeg ((rf_i (rf_i m6 289 (Int32.toNatClampNeg (m6.1 206 126)) a1) 290 (Int32.toNatClampNeg ((rf_i m6 289 (Int32.toNatClampNeg (m6.1 206 126)) a1).1 206 126)) a2).1 206 126)) a3) 206 126 (((rf_i (rf_i (rf_i m6 289 (Int32.toNatClampNeg (m6.1 206 126)) a1) 290 (Int32.toNatClampNeg ((rf_i m6 289 (Int32.toNatClampNeg (m6.1 206 126)) a1).1 206 126)) a2) 291 (Int32.toNatClampNeg ((rf_i (rf_i m6 289 (Int32.toNatClampNeg (m6.1 206 126)) a1) 290 (Int32.toNatClampNeg ((rf_i m6 289 (Int32.toNatClampNeg (m6.1 206 126)) a1).1 206 126)) a2).1 206 126)) a3).1 206 126) + 1)).1 206 126) - 1)) fun y10 m10 => some (y10, m10))))))))))
theorem c_X14_star {w : rf_w} {m : rf_m} {a1 : Int32} {a2 : Int32} {a3 : Int32} {a4 : Int32} {r : Int32 × rf_m} (hg : g_X14_star w m a1 a2 a3 a4 = some r) : rf_Con j_X14_star 2 (rf_sh w) [.ref 206, .int a1, .int a2, .int a3, .int a4] (rf_MM w m) (some (.int r.1)) (rf_MM w r.2) := by
  refine rf_con j_X14_star 2 ⟨by decide +kernel, rfl, Nat.le_of_ble_eq_true rfl⟩ (fun K C hE => ?_)
  unfold g_X14_star at hg
  show rf_V 5 (rf_sh w) K 0 0 0 ([(0, .ref 206), (1, .int a1), (2, .int a2), (3, .int a3), (4, .int a4)], [], rf_MM w m)
  refine rf_seg C [(.aload 0, 1), (.iconst 0, 1), (.multianewarray 14 0, 3), (.aload 0, 1), (.iload 1, 1)] (pc' := 7) (S' := ([(0, .ref 206), (1, .int a1), (2, .int a2), (3, .int a3), (4, .int a4)], [.int a1, .ref 206], rf_MM w (rf_i m 206 0 0))) (by decide +kernel) rfl trivial ?_
  obtain ⟨y0, m0, hc0, hg⟩ := rf_b_some hg
  refine rf_callv C rf_fit0 j_X14_isMark (ci := 14) (As := [.int a1]) (rest := []) mw_X14_isMark (c_X14_isMark hc0) (by decide) rfl (by decide) lk_14_360 rfl rfl (Nat.le_of_ble_eq_true rfl) (by decide +kernel) ?_
  show rf_V 5 (rf_sh w) K 0 0 10 ([(0, .ref 206), (1, .int a1), (2, .int a2), (3, .int a3), (4, .int a4)], [.int y0], rf_MM w m0)
  refine rf_if_eq C 16 26 (by decide +kernel) (fun hc => ?_) (fun hc => ?_)
  · replace hg := (if_pos hc).symm.trans hg
    refine rf_seg C [(.aload 0, 1), (.iconst 1, 1)] (pc' := 28) (S' := ([(0, .ref 206), (1, .int a1), (2, .int a2), (3, .int a3), (4, .int a4)], [.int 1, .ref 206], rf_MM w m0)) (by decide +kernel) rfl trivial ?_
    obtain ⟨y1, m1, hc1, hg⟩ := rf_b_some hg
    refine rf_callv C rf_fit0 j_X14_refused (ci := 14) (As := [.int 1]) (rest := []) mw_X14_refused (c_X14_refused hc1) (by decide) rfl (by decide) lk_14_353 rfl rfl (Nat.le_of_ble_eq_true rfl) (by decide +kernel) ?_
    show rf_V 5 (rf_sh w) K 0 0 31 ([(0, .ref 206), (1, .int a1), (2, .int a2), (3, .int a3), (4, .int a4)], [.int y1], rf_MM w m1)
    obtain rfl := Option.some.inj hg
    exact rf_iret C hE (by decide +kernel)
  · replace hg := (if_neg hc).symm.trans hg
    refine rf_seg C [(.aload 0, 1), (.iload 2, 1)] (pc' := 15) (S' := ([(0, .ref 206), (1, .int a1), (2, .int a2), (3, .int a3), (4, .int a4)], [.int a2, .ref 206], rf_MM w m0)) (by decide +kernel) rfl trivial ?_
    obtain ⟨y2, m2, hc2, hg⟩ := rf_b_some hg
    refine rf_callv C rf_fit0 j_X14_isMark (ci := 14) (As := [.int a2]) (rest := []) mw_X14_isMark (c_X14_isMark hc2) (by decide) rfl (by decide) lk_14_360 rfl rfl (Nat.le_of_ble_eq_true rfl) (by decide +kernel) ?_
    show rf_V 5 (rf_sh w) K 0 0 18 ([(0, .ref 206), (1, .int a1), (2, .int a2), (3, .int a3), (4, .int a4)], [.int y2], rf_MM w m2)
    refine rf_if_eq C 8 26 (by decide +kernel) (fun hc => ?_) (fun hc => ?_)
    · replace hg := (if_pos hc).symm.trans hg
      refine rf_seg C [(.aload 0, 1), (.iconst 1, 1)] (pc' := 28) (S' := ([(0, .ref 206), (1, .int a1), (2, .int a2), (3, .int a3), (4, .int a4)], [.int 1, .ref 206], rf_MM w m2)) (by decide +kernel) rfl trivial ?_
      obtain ⟨y3, m3, hc3, hg⟩ := rf_b_some hg
      refine rf_callv C rf_fit0 j_X14_refused (ci := 14) (As := [.int 1]) (rest := []) mw_X14_refused (c_X14_refused hc3) (by decide) rfl (by decide) lk_14_353 rfl rfl (Nat.le_of_ble_eq_true rfl) (by decide +kernel) ?_
      show rf_V 5 (rf_sh w) K 0 0 31 ([(0, .ref 206), (1, .int a1), (2, .int a2), (3, .int a3), (4, .int a4)], [.int y3], rf_MM w m3)
      obtain rfl := Option.some.inj hg
      exact rf_iret C hE (by decide +kernel)
    · replace hg := (if_neg hc).symm.trans hg
      refine rf_seg C [(.iload 1, 1), (.iload 2, 1)] (pc' := 23) (S' := ([(0, .ref 206), (1, .int a1), (2, .int a2), (3, .int a3), (4, .int a4)], [.int a2, .int a1], rf_MM w m2)) (by decide +kernel) rfl trivial ?_
      refine rf_icmp_ne C 9 32 (by decide +kernel) (fun hc => ?_) (fun hc => ?_)
      · replace hg := (if_neg hc).symm.trans hg
        refine rf_seg C [(.iload 3, 1), (.iconst 0, 1), (.iconst 12959999, 3)] (pc' := 37) (S' := ([(0, .ref 206), (1, .int a1), (2, .int a2), (3, .int a3), (4, .int a4)], [.int 12959999, .int 0, .int a3], rf_MM w m2)) (by decide +kernel) rfl trivial ?_
        obtain ⟨y4, m4, hc4, hg⟩ := rf_b_some hg
        refine rf_calls C rf_fit0 j_X14_in (As := [.int a3, .int 0, .int 12959999]) (rest := []) mw_X14_in (c_X14_in hc4) (by decide) lk_14_345 rfl rfl (Nat.le_of_ble_eq_true rfl) (by decide +kernel) ?_
        show rf_V 5 (rf_sh w) K 0 0 40 ([(0, .ref 206), (1, .int a1), (2, .int a2), (3, .int a3), (4, .int a4)], [.int y4], rf_MM w m4)
        refine rf_if_eq C 11 51 (by decide +kernel) (fun hc => ?_) (fun hc => ?_)
        · replace hg := (if_pos hc).symm.trans hg
          refine rf_seg C [(.aload 0, 1), (.iconst 2, 1)] (pc' := 53) (S' := ([(0, .ref 206), (1, .int a1), (2, .int a2), (3, .int a3), (4, .int a4)], [.int 2, .ref 206], rf_MM w m4)) (by decide +kernel) rfl trivial ?_
          obtain ⟨y5, m5, hc5, hg⟩ := rf_b_some hg
          refine rf_callv C rf_fit0 j_X14_refused (ci := 14) (As := [.int 2]) (rest := []) mw_X14_refused (c_X14_refused hc5) (by decide) rfl (by decide) lk_14_353 rfl rfl (Nat.le_of_ble_eq_true rfl) (by decide +kernel) ?_
          show rf_V 5 (rf_sh w) K 0 0 56 ([(0, .ref 206), (1, .int a1), (2, .int a2), (3, .int a3), (4, .int a4)], [.int y5], rf_MM w m5)
          obtain rfl := Option.some.inj hg
          exact rf_iret C hE (by decide +kernel)
        · replace hg := (if_neg hc).symm.trans hg
          refine rf_seg C [(.iload 4, 2)] (pc' := 45) (S' := ([(0, .ref 206), (1, .int a1), (2, .int a2), (3, .int a3), (4, .int a4)], [.int a4], rf_MM w m4)) (by decide +kernel) rfl trivial ?_
          obtain ⟨y6, m6, hc6, hg⟩ := rf_b_some hg
          refine rf_calls C rf_fit0 j_X14_isHour (As := [.int a4]) (rest := []) mw_X14_isHour (c_X14_isHour hc6) (by decide) lk_14_369 rfl rfl (Nat.le_of_ble_eq_true rfl) (by decide +kernel) ?_
          show rf_V 5 (rf_sh w) K 0 0 48 ([(0, .ref 206), (1, .int a1), (2, .int a2), (3, .int a3), (4, .int a4)], [.int y6], rf_MM w m6)
          refine rf_if_ne C 9 57 (by decide +kernel) (fun hc => ?_) (fun hc => ?_)
          · replace hg := (if_neg hc).symm.trans hg
            refine rf_seg C [(.aload 0, 1), (.invokeinterface 14 126, 3), (.iconst 20, 2)] (pc' := 63) (S' := ([(0, .ref 206), (1, .int a1), (2, .int a2), (3, .int a3), (4, .int a4)], [.int 20, .int (m6.1 206 126)], rf_MM w m6)) (by decide +kernel) rfl trivial ?_
            refine rf_icmp_ne C 9 72 (by decide +kernel) (fun hc => ?_) (fun hc => ?_)
            · replace hg := (if_neg hc).symm.trans hg
              obtain ⟨q7, hg⟩ := rf_g_some hg
              obtain ⟨q8, hg⟩ := rf_g_some hg
              obtain ⟨q9, hg⟩ := rf_g_some hg
              refine rf_seg C [(.aload 0, 1), (.invokeinterface 14 127, 3), (.aload 0, 1), (.invokeinterface 14 126, 3), (.iload 1, 1), (.iastore, 1), (.aload 0, 1), (.invokeinterface 14 128, 3), (.aload 0, 1), (.invokeinterface 14 126, 3), (.iload 2, 1), (.iastore, 1), (.aload 0, 1), (.invokeinterface 14 129, 3), (.aload 0, 1), (.invokeinterface 14 126, 3), (.iload 3, 1), (.iastore, 1), (.aload 0, 1), (.dup, 1), (.invokeinterface 14 126, 3), (.iconst 1, 1), (.iadd, 1), (.multianewarray 14 126, 3), (.aload 0, 1), (.aload 0, 1), (.invokeinterface 14 126, 3), (.iconst 1, 1), (.isub, 1)] (pc' := 119) (S' := ([(0, .ref 206), (1, .int a1), (2, .int a2), (3, .int a3), (4, .int a4)], [.int (((rf_i (rf_i (rf_i (rf_i m6 289 (Int32.toNatClampNeg (m6.1 206 126)) a1) 290 (Int32.toNatClampNeg ((rf_i m6 289 (Int32.toNatClampNeg (m6.1 206 126)) a1).1 206 126)) a2) 291 (Int32.toNatClampNeg ((rf_i (rf_i m6 289 (Int32.toNatClampNeg (m6.1 206 126)) a1) 290 (Int32.toNatClampNeg ((rf_i m6 289 (Int32.toNatClampNeg (m6.1 206 126)) a1).1 206 126)) a2).1 206 126)) a3) 206 126 (((rf_i (rf_i (rf_i m6 289 (Int32.toNatClampNeg (m6.1 206 126)) a1) 290 (Int32.toNatClampNeg ((rf_i m6 289 (Int32.toNatClampNeg (m6.1 206 126)) a1).1 206 126)) a2) 291 (Int32.toNatClampNeg ((rf_i (rf_i m6 289 (Int32.toNatClampNeg (m6.1 206 126)) a1) 290 (Int32.toNatClampNeg ((rf_i m6 289 (Int32.toNatClampNeg (m6.1 206 126)) a1).1 206 126)) a2).1 206 126)) a3).1 206 126) + 1)).1 206 126) - 1), .ref 206], rf_MM w (rf_i (rf_i (rf_i (rf_i m6 289 (Int32.toNatClampNeg (m6.1 206 126)) a1) 290 (Int32.toNatClampNeg ((rf_i m6 289 (Int32.toNatClampNeg (m6.1 206 126)) a1).1 206 126)) a2) 291 (Int32.toNatClampNeg ((rf_i (rf_i m6 289 (Int32.toNatClampNeg (m6.1 206 126)) a1) 290 (Int32.toNatClampNeg ((rf_i m6 289 (Int32.toNatClampNeg (m6.1 206 126)) a1).1 206 126)) a2).1 206 126)) a3) 206 126 (((rf_i (rf_i (rf_i m6 289 (Int32.toNatClampNeg (m6.1 206 126)) a1) 290 (Int32.toNatClampNeg ((rf_i m6 289 (Int32.toNatClampNeg (m6.1 206 126)) a1).1 206 126)) a2) 291 (Int32.toNatClampNeg ((rf_i (rf_i m6 289 (Int32.toNatClampNeg (m6.1 206 126)) a1) 290 (Int32.toNatClampNeg ((rf_i m6 289 (Int32.toNatClampNeg (m6.1 206 126)) a1).1 206 126)) a2).1 206 126)) a3).1 206 126) + 1)))) (by decide +kernel) rfl (by exact ⟨(rf_in_of q7), (rf_in_of q8), (rf_in_of q9)⟩) ?_
              obtain ⟨y10, m10, hc10, hg⟩ := rf_b_some hg
              refine rf_callv C rf_fit0 j_X14_done (ci := 14) (As := [.int (((rf_i (rf_i (rf_i (rf_i m6 289 (Int32.toNatClampNeg (m6.1 206 126)) a1) 290 (Int32.toNatClampNeg ((rf_i m6 289 (Int32.toNatClampNeg (m6.1 206 126)) a1).1 206 126)) a2) 291 (Int32.toNatClampNeg ((rf_i (rf_i m6 289 (Int32.toNatClampNeg (m6.1 206 126)) a1) 290 (Int32.toNatClampNeg ((rf_i m6 289 (Int32.toNatClampNeg (m6.1 206 126)) a1).1 206 126)) a2).1 206 126)) a3) 206 126 (((rf_i (rf_i (rf_i m6 289 (Int32.toNatClampNeg (m6.1 206 126)) a1) 290 (Int32.toNatClampNeg ((rf_i m6 289 (Int32.toNatClampNeg (m6.1 206 126)) a1).1 206 126)) a2) 291 (Int32.toNatClampNeg ((rf_i (rf_i m6 289 (Int32.toNatClampNeg (m6.1 206 126)) a1) 290 (Int32.toNatClampNeg ((rf_i m6 289 (Int32.toNatClampNeg (m6.1 206 126)) a1).1 206 126)) a2).1 206 126)) a3).1 206 126) + 1)).1 206 126) - 1)]) (rest := []) mw_X14_done (c_X14_done hc10) (by decide) rfl (by decide) lk_14_357 rfl rfl (Nat.le_of_ble_eq_true rfl) (by decide +kernel) ?_
              show rf_V 5 (rf_sh w) K 0 0 122 ([(0, .ref 206), (1, .int a1), (2, .int a2), (3, .int a3), (4, .int a4)], [.int y10], rf_MM w m10)
              obtain rfl := Option.some.inj hg
              exact rf_iret C hE (by decide +kernel)
            · replace hg := (if_pos hc).symm.trans hg
              refine rf_seg C [(.aload 0, 1), (.iconst 3, 1)] (pc' := 68) (S' := ([(0, .ref 206), (1, .int a1), (2, .int a2), (3, .int a3), (4, .int a4)], [.int 3, .ref 206], rf_MM w m6)) (by decide +kernel) rfl trivial ?_
              obtain ⟨y11, m11, hc11, hg⟩ := rf_b_some hg
              refine rf_callv C rf_fit0 j_X14_refused (ci := 14) (As := [.int 3]) (rest := []) mw_X14_refused (c_X14_refused hc11) (by decide) rfl (by decide) lk_14_353 rfl rfl (Nat.le_of_ble_eq_true rfl) (by decide +kernel) ?_
              show rf_V 5 (rf_sh w) K 0 0 71 ([(0, .ref 206), (1, .int a1), (2, .int a2), (3, .int a3), (4, .int a4)], [.int y11], rf_MM w m11)
              obtain rfl := Option.some.inj hg
              exact rf_iret C hE (by decide +kernel)
          · replace hg := (if_pos hc).symm.trans hg
            refine rf_seg C [(.aload 0, 1), (.iconst 2, 1)] (pc' := 53) (S' := ([(0, .ref 206), (1, .int a1), (2, .int a2), (3, .int a3), (4, .int a4)], [.int 2, .ref 206], rf_MM w m6)) (by decide +kernel) rfl trivial ?_
            obtain ⟨y12, m12, hc12, hg⟩ := rf_b_some hg
            refine rf_callv C rf_fit0 j_X14_refused (ci := 14) (As := [.int 2]) (rest := []) mw_X14_refused (c_X14_refused hc12) (by decide) rfl (by decide) lk_14_353 rfl rfl (Nat.le_of_ble_eq_true rfl) (by decide +kernel) ?_
            show rf_V 5 (rf_sh w) K 0 0 56 ([(0, .ref 206), (1, .int a1), (2, .int a2), (3, .int a3), (4, .int a4)], [.int y12], rf_MM w m12)
            obtain rfl := Option.some.inj hg
            exact rf_iret C hE (by decide +kernel)
      · replace hg := (if_pos hc).symm.trans hg
        refine rf_seg C [(.aload 0, 1), (.iconst 1, 1)] (pc' := 28) (S' := ([(0, .ref 206), (1, .int a1), (2, .int a2), (3, .int a3), (4, .int a4)], [.int 1, .ref 206], rf_MM w m2)) (by decide +kernel) rfl trivial ?_
        obtain ⟨y13, m13, hc13, hg⟩ := rf_b_some hg
        refine rf_callv C rf_fit0 j_X14_refused (ci := 14) (As := [.int 1]) (rest := []) mw_X14_refused (c_X14_refused hc13) (by decide) rfl (by decide) lk_14_353 rfl rfl (Nat.le_of_ble_eq_true rfl) (by decide +kernel) ?_
        show rf_V 5 (rf_sh w) K 0 0 31 ([(0, .ref 206), (1, .int a1), (2, .int a2), (3, .int a3), (4, .int a4)], [.int y13], rf_MM w m13)
        obtain rfl := Option.some.inj hg
        exact rf_iret C hE (by decide +kernel)
-- X14_ownNorth
abbrev j_X14_ownNorth : rf_J := (14, yX14_ownNorth, cX14_ownNorth, 7, (some .int))
theorem mw_X14_ownNorth : rf_mv j_X14_ownNorth (rf_R 14) 2 := ⟨⟨rf_mem 90 (by decide +kernel), rf_mem 90 (by decide +kernel), rf_mem 0 (by decide +kernel), rf_mem 90 (by decide +kernel)⟩, by decide +kernel, by decide⟩
def g_X14_ownNorth_56 (w : rf_w) (rec8 : Int32 → Int32 → Int64 → Int32 → Int32 → rf_m → Option (Int32 × rf_m)) (a1 : Int32) (a2 : Int32) (a3 : Int64) (a5 : Int32) (a6 : Int32) (m : rf_m) : Option (Int32 × rf_m) := rec8 a1 a2 a3 a5 (a6 + 1) m
def g_X14_ownNorth_8_b (w : rf_w) (rec8 : Int32 → Int32 → Int64 → Int32 → Int32 → rf_m → Option (Int32 × rf_m)) (a1 : Int32) (a2 : Int32) (a3 : Int64) (a5 : Int32) (a6 : Int32) (m : rf_m) : Option (Int32 × rf_m) := (if (m.1 206 126) ≤ a6 then (if a5 = 0 then some ((-2), m) else rf_g (rf_nzl (Int32.toInt64 a5)) (some (Int64.toInt32 (a3 / (Int32.toInt64 a5)), m))) else rf_g (rf_in a6 20) ((if (m.1 289 (Int32.toNatClampNeg a6)) = a1 then rf_g (rf_in a6 20) ((if (m.1 290 (Int32.toNatClampNeg a6)) = a2 then rf_g (rf_in a6 20) (rf_vl (a3 + (Int32.toInt64 (m.1 291 (Int32.toNatClampNeg a6)))) fun x4 => g_X14_ownNorth_56 w rec8 a1 a2 x4 (a5 + 1) a6 m) else g_X14_ownNorth_56 w rec8 a1 a2 a3 a5 a6 m)) else g_X14_ownNorth_56 w rec8 a1 a2 a3 a5 a6 m)))
def g_X14_ownNorth_8 (w : rf_w) : Nat → Int32 → Int32 → Int64 → Int32 → Int32 → rf_m → Option (Int32 × rf_m)
  | 0, _, _, _, _, _, _ => none
  | n + 1, a1, a2, a3, a5, a6, m => g_X14_ownNorth_8_b w (g_X14_ownNorth_8 w n) a1 a2 a3 a5 a6 m
def g_X14_ownNorth (w : rf_w) (m : rf_m) (a1 : Int32) (a2 : Int32) : Option (Int32 × rf_m) := g_X14_ownNorth_8 w rf_fuel a1 a2 0 0 0 m
theorem s_X14_ownNorth_56 {w : rf_w} {K : rf_K} {r : Int32 × rf_m} (C : rf_Ctx 14 cX14_ownNorth 7 1 (rf_sh w) K) (hE : rf_End (some .int) K (rf_sh w) 0 0 (some (.int r.1)) (rf_MM w r.2)) {rec8 : Int32 → Int32 → Int64 → Int32 → Int32 → rf_m → Option (Int32 × rf_m)} (hr8 : ∀ (a1 : Int32) (a2 : Int32) (a3 : Int64) (a5 : Int32) (a6 : Int32) (m : rf_m), rec8 a1 a2 a3 a5 a6 m = some r → rf_V 7 (rf_sh w) K 0 0 8 ([(0, .ref 206), (1, .int a1), (2, .int a2), (3, .long a3), (5, .int a5), (6, .int a6)], [], rf_MM w m)) (a1 : Int32) (a2 : Int32) (a3 : Int64) (a5 : Int32) (a6 : Int32) (m : rf_m) (hg : g_X14_ownNorth_56 w rec8 a1 a2 a3 a5 a6 m = some r) : rf_V 7 (rf_sh w) K 0 0 56 ([(0, .ref 206), (1, .int a1), (2, .int a2), (3, .long a3), (5, .int a5), (6, .int a6)], [], rf_MM w m) := by
  unfold g_X14_ownNorth_56 at hg
  refine rf_seg C [(.iinc 6 1, 3)] (pc' := 59) (S' := ([(6, .int (a6 + 1)), (0, .ref 206), (1, .int a1), (2, .int a2), (3, .long a3), (5, .int a5)], [], rf_MM w m)) (by decide +kernel) rfl trivial ?_
  refine rf_goto C (-51) 8 (by decide +kernel) ?_
  refine rf_few [1, 2, 3, 4, 5, 0] rfl ?_
  exact hr8 a1 a2 a3 a5 (a6 + 1) m hg
theorem s_X14_ownNorth_8_b {w : rf_w} {K : rf_K} {r : Int32 × rf_m} (C : rf_Ctx 14 cX14_ownNorth 7 1 (rf_sh w) K) (hE : rf_End (some .int) K (rf_sh w) 0 0 (some (.int r.1)) (rf_MM w r.2)) {rec8 : Int32 → Int32 → Int64 → Int32 → Int32 → rf_m → Option (Int32 × rf_m)} (hr8 : ∀ (a1 : Int32) (a2 : Int32) (a3 : Int64) (a5 : Int32) (a6 : Int32) (m : rf_m), rec8 a1 a2 a3 a5 a6 m = some r → rf_V 7 (rf_sh w) K 0 0 8 ([(0, .ref 206), (1, .int a1), (2, .int a2), (3, .long a3), (5, .int a5), (6, .int a6)], [], rf_MM w m)) (a1 : Int32) (a2 : Int32) (a3 : Int64) (a5 : Int32) (a6 : Int32) (m : rf_m) (hg : g_X14_ownNorth_8_b w rec8 a1 a2 a3 a5 a6 m = some r) : rf_V 7 (rf_sh w) K 0 0 8 ([(0, .ref 206), (1, .int a1), (2, .int a2), (3, .long a3), (5, .int a5), (6, .int a6)], [], rf_MM w m) := by
  unfold g_X14_ownNorth_8_b at hg
  refine rf_seg C [(.iload 6, 2), (.aload 0, 1), (.invokeinterface 14 126, 3)] (pc' := 14) (S' := ([(0, .ref 206), (1, .int a1), (2, .int a2), (3, .long a3), (5, .int a5), (6, .int a6)], [.int (m.1 206 126), .int a6], rf_MM w m)) (by decide +kernel) rfl trivial ?_
  refine rf_icmp_ge C 48 62 (by decide +kernel) (fun hc => ?_) (fun hc => ?_)
  · replace hg := (if_pos hc).symm.trans hg
    refine rf_seg C [(.iload 5, 2)] (pc' := 64) (S' := ([(0, .ref 206), (1, .int a1), (2, .int a2), (3, .long a3), (5, .int a5), (6, .int a6)], [.int a5], rf_MM w m)) (by decide +kernel) rfl trivial ?_
    refine rf_if_ne C 8 72 (by decide +kernel) (fun hc => ?_) (fun hc => ?_)
    · replace hg := (if_neg hc).symm.trans hg
      obtain ⟨q0, hg⟩ := rf_g_some hg
      refine rf_seg C [(.lload 3, 1), (.iload 5, 2), (.i2l, 1), (.ldiv, 1), (.l2i, 1)] (pc' := 78) (S' := ([(0, .ref 206), (1, .int a1), (2, .int a2), (3, .long a3), (5, .int a5), (6, .int a6)], [.int (Int64.toInt32 (a3 / (Int32.toInt64 a5)))], rf_MM w m)) (by decide +kernel) rfl (rf_nzl_of q0) ?_
      obtain rfl := Option.some.inj hg
      exact rf_iret C hE (by decide +kernel)
    · replace hg := (if_pos hc).symm.trans hg
      refine rf_seg C [(.iconst (-2), 2)] (pc' := 69) (S' := ([(0, .ref 206), (1, .int a1), (2, .int a2), (3, .long a3), (5, .int a5), (6, .int a6)], [.int ((-2))], rf_MM w m)) (by decide +kernel) rfl trivial ?_
      refine rf_goto C 9 78 (by decide +kernel) ?_
      obtain rfl := Option.some.inj hg
      exact rf_iret C hE (by decide +kernel)
  · replace hg := (if_neg hc).symm.trans hg
    obtain ⟨q1, hg⟩ := rf_g_some hg
    refine rf_seg C [(.aload 0, 1), (.invokeinterface 14 127, 3), (.iload 6, 2), (.iaload, 1), (.iload 1, 1)] (pc' := 25) (S' := ([(0, .ref 206), (1, .int a1), (2, .int a2), (3, .long a3), (5, .int a5), (6, .int a6)], [.int a1, .int (m.1 289 (Int32.toNatClampNeg a6))], rf_MM w m)) (by decide +kernel) rfl (rf_in_of q1) ?_
    refine rf_icmp_ne C 31 56 (by decide +kernel) (fun hc => ?_) (fun hc => ?_)
    · replace hg := (if_neg hc).symm.trans hg
      refine rf_few [0, 1, 2, 3, 4, 5] rfl ?_
      exact s_X14_ownNorth_56 C hE hr8 a1 a2 a3 a5 a6 m hg
    · replace hg := (if_pos hc).symm.trans hg
      obtain ⟨q2, hg⟩ := rf_g_some hg
      refine rf_seg C [(.aload 0, 1), (.invokeinterface 14 128, 3), (.iload 6, 2), (.iaload, 1), (.iload 2, 1)] (pc' := 36) (S' := ([(0, .ref 206), (1, .int a1), (2, .int a2), (3, .long a3), (5, .int a5), (6, .int a6)], [.int a2, .int (m.1 290 (Int32.toNatClampNeg a6))], rf_MM w m)) (by decide +kernel) rfl (rf_in_of q2) ?_
      refine rf_icmp_eq C 6 42 (by decide +kernel) (fun hc => ?_) (fun hc => ?_)
      · replace hg := (if_pos hc).symm.trans hg
        obtain ⟨q3, hg⟩ := rf_g_some hg
        refine rf_seg C [(.lload 3, 1), (.aload 0, 1), (.invokeinterface 14 129, 3), (.iload 6, 2), (.iaload, 1), (.i2l, 1), (.ladd, 1)] (pc' := 52) (S' := ([(0, .ref 206), (1, .int a1), (2, .int a2), (3, .long a3), (5, .int a5), (6, .int a6)], [.long (a3 + (Int32.toInt64 (m.1 291 (Int32.toNatClampNeg a6))))], rf_MM w m)) (by decide +kernel) rfl (rf_in_of q3) ?_
        obtain ⟨x4, hx4, hg⟩ := rf_vl_some hg
        refine rf_vl_top hx4 ?_
        refine rf_seg C [(.lstore 3, 1), (.iinc 5 1, 3)] (pc' := 56) (S' := ([(5, .int (a5 + 1)), (3, .long x4), (0, .ref 206), (1, .int a1), (2, .int a2), (6, .int a6)], [], rf_MM w m)) (by decide +kernel) rfl trivial ?_
        refine rf_few [2, 3, 4, 1, 0, 5] rfl ?_
        exact s_X14_ownNorth_56 C hE hr8 a1 a2 x4 (a5 + 1) a6 m hg
      · replace hg := (if_neg hc).symm.trans hg
        refine rf_goto C 17 56 (by decide +kernel) ?_
        refine rf_few [0, 1, 2, 3, 4, 5] rfl ?_
        exact s_X14_ownNorth_56 C hE hr8 a1 a2 a3 a5 a6 m hg
theorem s_X14_ownNorth_8 {w : rf_w} {K : rf_K} {r : Int32 × rf_m} (C : rf_Ctx 14 cX14_ownNorth 7 1 (rf_sh w) K) (hE : rf_End (some .int) K (rf_sh w) 0 0 (some (.int r.1)) (rf_MM w r.2)) (n : Nat) : ∀ (a1 : Int32) (a2 : Int32) (a3 : Int64) (a5 : Int32) (a6 : Int32) (m : rf_m), g_X14_ownNorth_8 w n a1 a2 a3 a5 a6 m = some r → rf_V 7 (rf_sh w) K 0 0 8 ([(0, .ref 206), (1, .int a1), (2, .int a2), (3, .long a3), (5, .int a5), (6, .int a6)], [], rf_MM w m) := by
  induction n with
  | zero => intro a1 a2 a3 a5 a6 m hg; cases hg
  | succ n ih => intro a1 a2 a3 a5 a6 m hg; exact s_X14_ownNorth_8_b C hE ih a1 a2 a3 a5 a6 m hg
theorem c_X14_ownNorth {w : rf_w} {m : rf_m} {a1 : Int32} {a2 : Int32} {r : Int32 × rf_m} (hg : g_X14_ownNorth w m a1 a2 = some r) : rf_Con j_X14_ownNorth 1 (rf_sh w) [.ref 206, .int a1, .int a2] (rf_MM w m) (some (.int r.1)) (rf_MM w r.2) := by
  refine rf_con j_X14_ownNorth 1 ⟨by decide +kernel, rfl, Nat.le_of_ble_eq_true rfl⟩ (fun K C hE => ?_)
  unfold g_X14_ownNorth at hg
  show rf_V 7 (rf_sh w) K 0 0 0 ([(0, .ref 206), (1, .int a1), (2, .int a2)], [], rf_MM w m)
  refine rf_seg C [(.goto_w 0, 1), (.lstore 3, 1), (.iconst 0, 1), (.istore 5, 2), (.iconst 0, 1), (.istore 6, 2)] (pc' := 8) (S' := ([(6, .int 0), (5, .int 0), (3, .long 0), (0, .ref 206), (1, .int a1), (2, .int a2)], [], rf_MM w m)) (by decide +kernel) rfl trivial ?_
  refine rf_few [3, 4, 5, 2, 1, 0] rfl ?_
  exact s_X14_ownNorth_8 C hE rf_fuel a1 a2 0 0 0 m hg
-- X14_rounded
abbrev j_X14_rounded : rf_J := (14, yX14_rounded, cX14_rounded, 1, (some .int))
theorem mw_X14_rounded : rf_ms j_X14_rounded 1 := ⟨⟨rf_mem 90 (by decide +kernel), rf_mem 0 (by decide +kernel), rf_mem 90 (by decide +kernel)⟩, by decide +kernel, by decide⟩
def g_X14_rounded (w : rf_w) (m : rf_m) (a0 : Int32) : Option (Int32 × rf_m) := (if (0 : Int32) ≤ a0 then (if a0 < 12960000 then some (a0, m) else some (a0 - 12960000, m)) else some (a0 + 12960000, m))
theorem c_X14_rounded {w : rf_w} {m : rf_m} {a0 : Int32} {r : Int32 × rf_m} (hg : g_X14_rounded w m a0 = some r) : rf_Con j_X14_rounded 1 (rf_sh w) [.int a0] (rf_MM w m) (some (.int r.1)) (rf_MM w r.2) := by
  refine rf_con j_X14_rounded 1 ⟨by decide +kernel, rfl, Nat.le_of_ble_eq_true rfl⟩ (fun K C hE => ?_)
  unfold g_X14_rounded at hg
  show rf_V 1 (rf_sh w) K 0 0 0 ([(0, .int a0)], [], rf_MM w m)
  refine rf_seg C [(.iload 0, 1)] (pc' := 1) (S' := ([(0, .int a0)], [.int a0], rf_MM w m)) (by decide +kernel) rfl trivial ?_
  refine rf_if_ge C 11 12 (by decide +kernel) (fun hc => ?_) (fun hc => ?_)
  · replace hg := (if_pos hc).symm.trans hg
    refine rf_seg C [(.iload 0, 1), (.iconst 12960000, 3)] (pc' := 16) (S' := ([(0, .int a0)], [.int 12960000, .int a0], rf_MM w m)) (by decide +kernel) rfl trivial ?_
    refine rf_icmp_lt C 11 27 (by decide +kernel) (fun hc => ?_) (fun hc => ?_)
    · replace hg := (if_pos hc).symm.trans hg
      refine rf_seg C [(.iload 0, 1)] (pc' := 28) (S' := ([(0, .int a0)], [.int a0], rf_MM w m)) (by decide +kernel) rfl trivial ?_
      obtain rfl := Option.some.inj hg
      exact rf_iret C hE (by decide +kernel)
    · replace hg := (if_neg hc).symm.trans hg
      refine rf_seg C [(.iload 0, 1), (.iconst 12960000, 3), (.isub, 1)] (pc' := 24) (S' := ([(0, .int a0)], [.int (a0 - 12960000)], rf_MM w m)) (by decide +kernel) rfl trivial ?_
      refine rf_goto C 4 28 (by decide +kernel) ?_
      obtain rfl := Option.some.inj hg
      exact rf_iret C hE (by decide +kernel)
  · replace hg := (if_neg hc).symm.trans hg
    refine rf_seg C [(.iload 0, 1), (.iconst 12960000, 3), (.iadd, 1)] (pc' := 9) (S' := ([(0, .int a0)], [.int (a0 + 12960000)], rf_MM w m)) (by decide +kernel) rfl trivial ?_
    refine rf_goto C 19 28 (by decide +kernel) ?_
    obtain rfl := Option.some.inj hg
    exact rf_iret C hE (by decide +kernel)
-- X14_offers
abbrev j_X14_offers : rf_J := (14, yX14_offers, cX14_offers, 8, none)
theorem mw_X14_offers : rf_mv j_X14_offers (rf_R 14) 5 := ⟨⟨rf_mem 91 (by decide +kernel), rf_mem 91 (by decide +kernel), rf_mem 0 (by decide +kernel), rf_mem 91 (by decide +kernel)⟩, by decide +kernel, by decide⟩
def g_X14_offers_80 (w : rf_w) (a3 : Int32) (a4 : Int32) (a5 : Int32) (a6 : Int32) (a7 : Int32) (m : rf_m) : Option (rf_m) := rf_g (rf_in a7 900) (rf_g (rf_in a7 900) ((if a6 = 0 then rf_g (rf_in a7 900) (some (rf_i (rf_i (rf_i m 295 (Int32.toNatClampNeg a7) a3) 296 (Int32.toNatClampNeg a7) a4) 297 (Int32.toNatClampNeg a7) a5)) else rf_b (g_X14_rounded w (rf_i (rf_i m 295 (Int32.toNatClampNeg a7) a3) 296 (Int32.toNatClampNeg a7) a4) (a5 + 6480000)) fun y3 m3 => rf_g (rf_in a7 900) (some (rf_i m3 297 (Int32.toNatClampNeg a7) y3)))))
def g_X14_offers_32 (w : rf_w) (a3 : Int32) (a4 : Int32) (a5 : Int32) (a6 : Int32) (s0 : Int32) (m : rf_m) : Option (rf_m) := rf_g (rf_in s0 900) ((if (m.1 296 (Int32.toNatClampNeg s0)) = ((-1)) then g_X14_offers_80 w a3 a4 a5 a6 s0 m else rf_g (rf_in s0 900) ((if (m.1 295 (Int32.toNatClampNeg s0)) < a3 then some m else rf_g (rf_in s0 900) ((if (m.1 295 (Int32.toNatClampNeg s0)) = a3 then rf_g (rf_in s0 900) ((if a4 < (m.1 296 (Int32.toNatClampNeg s0)) then g_X14_offers_80 w a3 a4 a5 a6 s0 m else some m)) else g_X14_offers_80 w a3 a4 a5 a6 s0 m))))))
def g_X14_offers_10 (w : rf_w) (a1 : Int32) (a2 : Int32) (a3 : Int32) (a4 : Int32) (a5 : Int32) (s0 : Int32) (m : rf_m) : Option (rf_m) := (if s0 = 0 then g_X14_offers_32 w a3 a4 a5 s0 ((30 * a1) + a2) m else g_X14_offers_32 w a3 a4 a5 s0 ((30 * a2) + a1) m)
def g_X14_offers (w : rf_w) (m : rf_m) (a1 : Int32) (a2 : Int32) (a3 : Int32) (a4 : Int32) (a5 : Int32) : Option (rf_m) := (if a1 ≤ a2 then g_X14_offers_10 w a1 a2 a3 a4 a5 0 m else g_X14_offers_10 w a1 a2 a3 a4 a5 1 m)
theorem s_X14_offers_80 {w : rf_w} {K : rf_K} {r : rf_m} (C : rf_Ctx 14 cX14_offers 8 2 (rf_sh w) K) (hE : rf_End none K (rf_sh w) 0 0 none (rf_MM w r)) (a3 : Int32) (a4 : Int32) (a5 : Int32) (a6 : Int32) (a7 : Int32) (m : rf_m) (hg : g_X14_offers_80 w a3 a4 a5 a6 a7 m = some r) : rf_V 8 (rf_sh w) K 0 0 80 ([(0, .ref 206), (3, .int a3), (4, .int a4), (5, .int a5), (6, .int a6), (7, .int a7)], [], rf_MM w m) := by
  unfold g_X14_offers_80 at hg
  obtain ⟨q0, hg⟩ := rf_g_some hg
  obtain ⟨q1, hg⟩ := rf_g_some hg
  refine rf_seg C [(.aload 0, 1), (.invokeinterface 14 133, 3), (.iload 7, 2), (.iload 3, 1), (.iastore, 1), (.aload 0, 1), (.invokeinterface 14 134, 3), (.iload 7, 2), (.iload 4, 2), (.iastore, 1), (.aload 0, 1), (.invokeinterface 14 135, 3), (.iload 7, 2), (.iload 6, 2)] (pc' := 105) (S' := ([(0, .ref 206), (3, .int a3), (4, .int a4), (5, .int a5), (6, .int a6), (7, .int a7)], [.int a6, .int a7, .ref 297], rf_MM w (rf_i (rf_i m 295 (Int32.toNatClampNeg a7) a3) 296 (Int32.toNatClampNeg a7) a4))) (by decide +kernel) rfl (by exact ⟨(rf_in_of q0), (rf_in_of q1)⟩) ?_
  refine rf_if_eq C 15 120 (by decide +kernel) (fun hc => ?_) (fun hc => ?_)
  · replace hg := (if_pos hc).symm.trans hg
    obtain ⟨q2, hg⟩ := rf_g_some hg
    refine rf_seg C [(.iload 5, 2), (.iastore, 1)] (pc' := 123) (S' := ([(0, .ref 206), (3, .int a3), (4, .int a4), (5, .int a5), (6, .int a6), (7, .int a7)], [], rf_MM w (rf_i (rf_i (rf_i m 295 (Int32.toNatClampNeg a7) a3) 296 (Int32.toNatClampNeg a7) a4) 297 (Int32.toNatClampNeg a7) a5))) (by decide +kernel) rfl (rf_in_of q2) ?_
    obtain rfl := Option.some.inj hg
    exact rf_vret C hE (by decide +kernel)
  · replace hg := (if_neg hc).symm.trans hg
    refine rf_seg C [(.iload 5, 2), (.iconst 6480000, 3), (.iadd, 1)] (pc' := 114) (S' := ([(0, .ref 206), (3, .int a3), (4, .int a4), (5, .int a5), (6, .int a6), (7, .int a7)], [.int (a5 + 6480000), .int a7, .ref 297], rf_MM w (rf_i (rf_i m 295 (Int32.toNatClampNeg a7) a3) 296 (Int32.toNatClampNeg a7) a4))) (by decide +kernel) rfl trivial ?_
    obtain ⟨y3, m3, hc3, hg⟩ := rf_b_some hg
    refine rf_calls C rf_fit0 j_X14_rounded (As := [.int (a5 + 6480000)]) (rest := [.int a7, .ref 297]) mw_X14_rounded (c_X14_rounded hc3) (by decide) lk_14_877 rfl rfl (Nat.le_of_ble_eq_true rfl) (by decide +kernel) ?_
    show rf_V 8 (rf_sh w) K 0 0 117 ([(0, .ref 206), (3, .int a3), (4, .int a4), (5, .int a5), (6, .int a6), (7, .int a7)], [.int y3, .int a7, .ref 297], rf_MM w m3)
    refine rf_goto C 5 122 (by decide +kernel) ?_
    obtain ⟨q4, hg⟩ := rf_g_some hg
    refine rf_seg C [(.iastore, 1)] (pc' := 123) (S' := ([(0, .ref 206), (3, .int a3), (4, .int a4), (5, .int a5), (6, .int a6), (7, .int a7)], [], rf_MM w (rf_i m3 297 (Int32.toNatClampNeg a7) y3))) (by decide +kernel) rfl (rf_in_of q4) ?_
    obtain rfl := Option.some.inj hg
    exact rf_vret C hE (by decide +kernel)
theorem s_X14_offers_32 {w : rf_w} {K : rf_K} {r : rf_m} (C : rf_Ctx 14 cX14_offers 8 2 (rf_sh w) K) (hE : rf_End none K (rf_sh w) 0 0 none (rf_MM w r)) (a3 : Int32) (a4 : Int32) (a5 : Int32) (a6 : Int32) (s0 : Int32) (m : rf_m) (hg : g_X14_offers_32 w a3 a4 a5 a6 s0 m = some r) : rf_V 8 (rf_sh w) K 0 0 32 ([(0, .ref 206), (3, .int a3), (4, .int a4), (5, .int a5), (6, .int a6)], [.int s0], rf_MM w m) := by
  unfold g_X14_offers_32 at hg
  obtain ⟨q0, hg⟩ := rf_g_some hg
  refine rf_seg C [(.istore 7, 2), (.aload 0, 1), (.invokeinterface 14 134, 3), (.iload 7, 2), (.iaload, 1), (.iconst (-1), 1)] (pc' := 42) (S' := ([(7, .int s0), (0, .ref 206), (3, .int a3), (4, .int a4), (5, .int a5), (6, .int a6)], [.int ((-1)), .int (m.1 296 (Int32.toNatClampNeg s0))], rf_MM w m)) (by decide +kernel) rfl (rf_in_of q0) ?_
  refine rf_icmp_eq C 38 80 (by decide +kernel) (fun hc => ?_) (fun hc => ?_)
  · replace hg := (if_pos hc).symm.trans hg
    refine rf_few [1, 2, 3, 4, 5, 0] rfl ?_
    exact s_X14_offers_80 C hE a3 a4 a5 a6 s0 m hg
  · replace hg := (if_neg hc).symm.trans hg
    obtain ⟨q1, hg⟩ := rf_g_some hg
    refine rf_seg C [(.aload 0, 1), (.invokeinterface 14 133, 3), (.iload 7, 2), (.iaload, 1), (.iload 3, 1)] (pc' := 53) (S' := ([(7, .int s0), (0, .ref 206), (3, .int a3), (4, .int a4), (5, .int a5), (6, .int a6)], [.int a3, .int (m.1 295 (Int32.toNatClampNeg s0))], rf_MM w m)) (by decide +kernel) rfl (rf_in_of q1) ?_
    refine rf_icmp_lt C 26 79 (by decide +kernel) (fun hc => ?_) (fun hc => ?_)
    · replace hg := (if_pos hc).symm.trans hg
      obtain rfl := Option.some.inj hg
      exact rf_vret C hE (by decide +kernel)
    · replace hg := (if_neg hc).symm.trans hg
      obtain ⟨q2, hg⟩ := rf_g_some hg
      refine rf_seg C [(.aload 0, 1), (.invokeinterface 14 133, 3), (.iload 7, 2), (.iaload, 1), (.iload 3, 1)] (pc' := 64) (S' := ([(7, .int s0), (0, .ref 206), (3, .int a3), (4, .int a4), (5, .int a5), (6, .int a6)], [.int a3, .int (m.1 295 (Int32.toNatClampNeg s0))], rf_MM w m)) (by decide +kernel) rfl (rf_in_of q2) ?_
      refine rf_icmp_ne C 16 80 (by decide +kernel) (fun hc => ?_) (fun hc => ?_)
      · replace hg := (if_neg hc).symm.trans hg
        refine rf_few [1, 2, 3, 4, 5, 0] rfl ?_
        exact s_X14_offers_80 C hE a3 a4 a5 a6 s0 m hg
      · replace hg := (if_pos hc).symm.trans hg
        obtain ⟨q3, hg⟩ := rf_g_some hg
        refine rf_seg C [(.aload 0, 1), (.invokeinterface 14 134, 3), (.iload 7, 2), (.iaload, 1), (.iload 4, 2)] (pc' := 76) (S' := ([(7, .int s0), (0, .ref 206), (3, .int a3), (4, .int a4), (5, .int a5), (6, .int a6)], [.int a4, .int (m.1 296 (Int32.toNatClampNeg s0))], rf_MM w m)) (by decide +kernel) rfl (rf_in_of q3) ?_
        refine rf_icmp_gt C 4 80 (by decide +kernel) (fun hc => ?_) (fun hc => ?_)
        · replace hg := (if_pos hc).symm.trans hg
          refine rf_few [1, 2, 3, 4, 5, 0] rfl ?_
          exact s_X14_offers_80 C hE a3 a4 a5 a6 s0 m hg
        · replace hg := (if_neg hc).symm.trans hg
          obtain rfl := Option.some.inj hg
          exact rf_vret C hE (by decide +kernel)
theorem s_X14_offers_10 {w : rf_w} {K : rf_K} {r : rf_m} (C : rf_Ctx 14 cX14_offers 8 2 (rf_sh w) K) (hE : rf_End none K (rf_sh w) 0 0 none (rf_MM w r)) (a1 : Int32) (a2 : Int32) (a3 : Int32) (a4 : Int32) (a5 : Int32) (s0 : Int32) (m : rf_m) (hg : g_X14_offers_10 w a1 a2 a3 a4 a5 s0 m = some r) : rf_V 8 (rf_sh w) K 0 0 10 ([(0, .ref 206), (1, .int a1), (2, .int a2), (3, .int a3), (4, .int a4), (5, .int a5)], [.int s0], rf_MM w m) := by
  unfold g_X14_offers_10 at hg
  refine rf_seg C [(.istore 6, 2), (.iload 6, 2)] (pc' := 14) (S' := ([(6, .int s0), (0, .ref 206), (1, .int a1), (2, .int a2), (3, .int a3), (4, .int a4), (5, .int a5)], [.int s0], rf_MM w m)) (by decide +kernel) rfl trivial ?_
  refine rf_if_eq C 12 26 (by decide +kernel) (fun hc => ?_) (fun hc => ?_)
  · replace hg := (if_pos hc).symm.trans hg
    refine rf_seg C [(.iconst 30, 2), (.iload 1, 1), (.imul, 1), (.iload 2, 1), (.iadd, 1)] (pc' := 32) (S' := ([(6, .int s0), (0, .ref 206), (1, .int a1), (2, .int a2), (3, .int a3), (4, .int a4), (5, .int a5)], [.int ((30 * a1) + a2)], rf_MM w m)) (by decide +kernel) rfl trivial ?_
    refine rf_few [1, 4, 5, 6, 0] rfl ?_
    exact s_X14_offers_32 C hE a3 a4 a5 s0 ((30 * a1) + a2) m hg
  · replace hg := (if_neg hc).symm.trans hg
    refine rf_seg C [(.iconst 30, 2), (.iload 2, 1), (.imul, 1), (.iload 1, 1), (.iadd, 1)] (pc' := 23) (S' := ([(6, .int s0), (0, .ref 206), (1, .int a1), (2, .int a2), (3, .int a3), (4, .int a4), (5, .int a5)], [.int ((30 * a2) + a1)], rf_MM w m)) (by decide +kernel) rfl trivial ?_
    refine rf_goto C 9 32 (by decide +kernel) ?_
    refine rf_few [1, 4, 5, 6, 0] rfl ?_
    exact s_X14_offers_32 C hE a3 a4 a5 s0 ((30 * a2) + a1) m hg
theorem c_X14_offers {w : rf_w} {m : rf_m} {a1 : Int32} {a2 : Int32} {a3 : Int32} {a4 : Int32} {a5 : Int32} {r : rf_m} (hg : g_X14_offers w m a1 a2 a3 a4 a5 = some r) : rf_Con j_X14_offers 2 (rf_sh w) [.ref 206, .int a1, .int a2, .int a3, .int a4, .int a5] (rf_MM w m) none (rf_MM w r) := by
  refine rf_con j_X14_offers 2 ⟨by decide +kernel, rfl, Nat.le_of_ble_eq_true rfl⟩ (fun K C hE => ?_)
  unfold g_X14_offers at hg
  show rf_V 8 (rf_sh w) K 0 0 0 ([(0, .ref 206), (1, .int a1), (2, .int a2), (3, .int a3), (4, .int a4), (5, .int a5)], [], rf_MM w m)
  refine rf_seg C [(.iload 1, 1), (.iload 2, 1)] (pc' := 2) (S' := ([(0, .ref 206), (1, .int a1), (2, .int a2), (3, .int a3), (4, .int a4), (5, .int a5)], [.int a2, .int a1], rf_MM w m)) (by decide +kernel) rfl trivial ?_
  refine rf_icmp_le C 7 9 (by decide +kernel) (fun hc => ?_) (fun hc => ?_)
  · replace hg := (if_pos hc).symm.trans hg
    refine rf_seg C [(.iconst 0, 1)] (pc' := 10) (S' := ([(0, .ref 206), (1, .int a1), (2, .int a2), (3, .int a3), (4, .int a4), (5, .int a5)], [.int 0], rf_MM w m)) (by decide +kernel) rfl trivial ?_
    refine rf_few [0, 1, 2, 3, 4, 5] rfl ?_
    exact s_X14_offers_10 C hE a1 a2 a3 a4 a5 0 m hg
  · replace hg := (if_neg hc).symm.trans hg
    refine rf_seg C [(.iconst 1, 1)] (pc' := 6) (S' := ([(0, .ref 206), (1, .int a1), (2, .int a2), (3, .int a3), (4, .int a4), (5, .int a5)], [.int 1], rf_MM w m)) (by decide +kernel) rfl trivial ?_
    refine rf_goto C 4 10 (by decide +kernel) ?_
    refine rf_few [0, 1, 2, 3, 4, 5] rfl ?_
    exact s_X14_offers_10 C hE a1 a2 a3 a4 a5 1 m hg
-- X14_tells
abbrev j_X14_tells : rf_J := (14, yX14_tells, cX14_tells, 6, none)
theorem mw_X14_tells : rf_mv j_X14_tells (rf_R 14) 5 := ⟨⟨rf_mem 91 (by decide +kernel), rf_mem 91 (by decide +kernel), rf_mem 0 (by decide +kernel), rf_mem 91 (by decide +kernel)⟩, by decide +kernel, by decide⟩
def g_X14_tells (w : rf_w) (m : rf_m) (a1 : Int32) (a2 : Int32) (a3 : Int32) (a4 : Int32) (a5 : Int32) : Option (rf_m) := rf_g (rf_in ((30 * a1) + a2) 900) (rf_g (rf_in ((30 * a2) + a1) 900) (rf_g (rf_in ((30 * a1) + a2) 900) (rf_g (rf_in ((30 * a2) + a1) 900) (rf_g (rf_in ((30 * a1) + a2) 900) (rf_b (g_X14_rounded w (rf_i (rf_i (rf_i (rf_i (rf_i m 293 (Int32.toNatClampNeg ((30 * a1) + a2)) a3) 293 (Int32.toNatClampNeg ((30 * a2) + a1)) a3) 294 (Int32.toNatClampNeg ((30 * a1) + a2)) a4) 294 (Int32.toNatClampNeg ((30 * a2) + a1)) a4) 292 (Int32.toNatClampNeg ((30 * a1) + a2)) a5) (a5 + 6480000)) fun y5 m5 => rf_g (rf_in ((30 * a2) + a1) 900) (some (rf_i m5 292 (Int32.toNatClampNeg ((30 * a2) + a1)) y5)))))))
theorem c_X14_tells {w : rf_w} {m : rf_m} {a1 : Int32} {a2 : Int32} {a3 : Int32} {a4 : Int32} {a5 : Int32} {r : rf_m} (hg : g_X14_tells w m a1 a2 a3 a4 a5 = some r) : rf_Con j_X14_tells 2 (rf_sh w) [.ref 206, .int a1, .int a2, .int a3, .int a4, .int a5] (rf_MM w m) none (rf_MM w r) := by
  refine rf_con j_X14_tells 2 ⟨by decide +kernel, rfl, Nat.le_of_ble_eq_true rfl⟩ (fun K C hE => ?_)
  unfold g_X14_tells at hg
  show rf_V 6 (rf_sh w) K 0 0 0 ([(0, .ref 206), (1, .int a1), (2, .int a2), (3, .int a3), (4, .int a4), (5, .int a5)], [], rf_MM w m)
  obtain ⟨q0, hg⟩ := rf_g_some hg
  obtain ⟨q1, hg⟩ := rf_g_some hg
  obtain ⟨q2, hg⟩ := rf_g_some hg
  obtain ⟨q3, hg⟩ := rf_g_some hg
  obtain ⟨q4, hg⟩ := rf_g_some hg
  refine rf_seg C [(.aload 0, 1), (.invokeinterface 14 131, 3), (.iconst 30, 2), (.iload 1, 1), (.imul, 1), (.iload 2, 1), (.iadd, 1), (.iload 3, 1), (.iastore, 1), (.aload 0, 1), (.invokeinterface 14 131, 3), (.iconst 30, 2), (.iload 2, 1), (.imul, 1), (.iload 1, 1), (.iadd, 1), (.iload 3, 1), (.iastore, 1), (.aload 0, 1), (.invokeinterface 14 132, 3), (.iconst 30, 2), (.iload 1, 1), (.imul, 1), (.iload 2, 1), (.iadd, 1), (.iload 4, 2), (.iastore, 1), (.aload 0, 1), (.invokeinterface 14 132, 3), (.iconst 30, 2), (.iload 2, 1), (.imul, 1), (.iload 1, 1), (.iadd, 1), (.iload 4, 2), (.iastore, 1), (.aload 0, 1), (.invokeinterface 14 130, 3), (.iconst 30, 2), (.iload 1, 1), (.imul, 1), (.iload 2, 1), (.iadd, 1), (.iload 5, 2), (.iastore, 1), (.aload 0, 1), (.invokeinterface 14 130, 3), (.iconst 30, 2), (.iload 2, 1), (.imul, 1), (.iload 1, 1), (.iadd, 1), (.iload 5, 2), (.iconst 6480000, 3), (.iadd, 1)] (pc' := 79) (S' := ([(0, .ref 206), (1, .int a1), (2, .int a2), (3, .int a3), (4, .int a4), (5, .int a5)], [.int (a5 + 6480000), .int ((30 * a2) + a1), .ref 292], rf_MM w (rf_i (rf_i (rf_i (rf_i (rf_i m 293 (Int32.toNatClampNeg ((30 * a1) + a2)) a3) 293 (Int32.toNatClampNeg ((30 * a2) + a1)) a3) 294 (Int32.toNatClampNeg ((30 * a1) + a2)) a4) 294 (Int32.toNatClampNeg ((30 * a2) + a1)) a4) 292 (Int32.toNatClampNeg ((30 * a1) + a2)) a5))) (by decide +kernel) rfl (by exact ⟨(rf_in_of q0), (rf_in_of q1), (rf_in_of q2), (rf_in_of q3), (rf_in_of q4)⟩) ?_
  obtain ⟨y5, m5, hc5, hg⟩ := rf_b_some hg
  refine rf_calls C rf_fit0 j_X14_rounded (As := [.int (a5 + 6480000)]) (rest := [.int ((30 * a2) + a1), .ref 292]) mw_X14_rounded (c_X14_rounded hc5) (by decide) lk_14_877 rfl rfl (Nat.le_of_ble_eq_true rfl) (by decide +kernel) ?_
  show rf_V 6 (rf_sh w) K 0 0 82 ([(0, .ref 206), (1, .int a1), (2, .int a2), (3, .int a3), (4, .int a4), (5, .int a5)], [.int y5, .int ((30 * a2) + a1), .ref 292], rf_MM w m5)
  obtain ⟨q6, hg⟩ := rf_g_some hg
  refine rf_seg C [(.iastore, 1)] (pc' := 83) (S' := ([(0, .ref 206), (1, .int a1), (2, .int a2), (3, .int a3), (4, .int a4), (5, .int a5)], [], rf_MM w (rf_i m5 292 (Int32.toNatClampNeg ((30 * a2) + a1)) y5))) (by decide +kernel) rfl (rf_in_of q6) ?_
  obtain rfl := Option.some.inj hg
  exact rf_vret C hE (by decide +kernel)
-- X14_norths
abbrev j_X14_norths : rf_J := (14, yX14_norths, cX14_norths, 8, none)
theorem mw_X14_norths : rf_mv j_X14_norths (rf_R 14) 0 := ⟨⟨rf_mem 90 (by decide +kernel), rf_mem 90 (by decide +kernel), rf_mem 0 (by decide +kernel), rf_mem 90 (by decide +kernel)⟩, by decide +kernel, by decide⟩
def g_X14_norths_539 (w : rf_w) (rec159 : Int32 → Int32 → rf_m → Option (rf_m)) (rec381 : Int32 → Int32 → Int32 → rf_m → Option (rf_m)) (rec394 : Int32 → Int32 → Int32 → Int32 → rf_m → Option (rf_m)) (a1 : Int32) (a2 : Int32) (a3 : Int32) (a4 : Int32) (m : rf_m) : Option (rf_m) := rec394 a1 a2 a3 (a4 + 1) m
def g_X14_norths_511 (w : rf_w) (rec159 : Int32 → Int32 → rf_m → Option (rf_m)) (rec381 : Int32 → Int32 → Int32 → rf_m → Option (rf_m)) (rec394 : Int32 → Int32 → Int32 → Int32 → rf_m → Option (rf_m)) (rec434 : Int32 → Int32 → Int32 → Int32 → Int32 → Int32 → Int32 → rf_m → Option (rf_m)) (a1 : Int32) (a2 : Int32) (a3 : Int32) (a4 : Int32) (a5 : Int32) (a7 : Int32) (s0 : Int32) (s1 : Int32) (m : rf_m) : Option (rf_m) := rec434 a1 a2 a3 a4 a5 (s0 + s1) (a7 + 1) m
def g_X14_norths_510 (w : rf_w) (rec159 : Int32 → Int32 → rf_m → Option (rf_m)) (rec381 : Int32 → Int32 → Int32 → rf_m → Option (rf_m)) (rec394 : Int32 → Int32 → Int32 → Int32 → rf_m → Option (rf_m)) (rec434 : Int32 → Int32 → Int32 → Int32 → Int32 → Int32 → Int32 → rf_m → Option (rf_m)) (a1 : Int32) (a2 : Int32) (a3 : Int32) (a4 : Int32) (a5 : Int32) (a7 : Int32) (s0 : Int32) (m : rf_m) : Option (rf_m) := g_X14_norths_511 w rec159 rec381 rec394 rec434 a1 a2 a3 a4 a5 a7 s0 0 m
def g_X14_norths_506 (w : rf_w) (rec159 : Int32 → Int32 → rf_m → Option (rf_m)) (rec381 : Int32 → Int32 → Int32 → rf_m → Option (rf_m)) (rec394 : Int32 → Int32 → Int32 → Int32 → rf_m → Option (rf_m)) (rec434 : Int32 → Int32 → Int32 → Int32 → Int32 → Int32 → Int32 → rf_m → Option (rf_m)) (a1 : Int32) (a2 : Int32) (a3 : Int32) (a4 : Int32) (a5 : Int32) (a7 : Int32) (s0 : Int32) (m : rf_m) : Option (rf_m) := g_X14_norths_511 w rec159 rec381 rec394 rec434 a1 a2 a3 a4 a5 a7 s0 1 m
def g_X14_norths_434_b (w : rf_w) (rec159 : Int32 → Int32 → rf_m → Option (rf_m)) (rec381 : Int32 → Int32 → Int32 → rf_m → Option (rf_m)) (rec394 : Int32 → Int32 → Int32 → Int32 → rf_m → Option (rf_m)) (rec434 : Int32 → Int32 → Int32 → Int32 → Int32 → Int32 → Int32 → rf_m → Option (rf_m)) (a1 : Int32) (a2 : Int32) (a3 : Int32) (a4 : Int32) (a5 : Int32) (a6 : Int32) (a7 : Int32) (m : rf_m) : Option (rf_m) := (if 900 ≤ a7 then rf_g (rf_in a5 900) (rf_bv (g_X14_tells w m a3 a4 (a2 + 1) a6 (m.1 297 (Int32.toNatClampNeg a5))) fun m1 => g_X14_norths_539 w rec159 rec381 rec394 a1 a2 a3 a4 m1) else rf_g (rf_in a7 900) ((if (m.1 296 (Int32.toNatClampNeg a7)) = ((-1)) then g_X14_norths_510 w rec159 rec381 rec394 rec434 a1 a2 a3 a4 a5 a7 a6 m else rf_g (rf_in a7 900) (rf_g (rf_in a5 900) ((if (m.1 295 (Int32.toNatClampNeg a7)) < (m.1 295 (Int32.toNatClampNeg a5)) then g_X14_norths_506 w rec159 rec381 rec394 rec434 a1 a2 a3 a4 a5 a7 a6 m else rf_g (rf_in a7 900) (rf_g (rf_in a5 900) ((if (m.1 295 (Int32.toNatClampNeg a7)) = (m.1 295 (Int32.toNatClampNeg a5)) then rf_g (rf_in a7 900) (rf_g (rf_in a5 900) ((if (m.1 296 (Int32.toNatClampNeg a5)) ≤ (m.1 296 (Int32.toNatClampNeg a7)) then g_X14_norths_510 w rec159 rec381 rec394 rec434 a1 a2 a3 a4 a5 a7 a6 m else g_X14_norths_506 w rec159 rec381 rec394 rec434 a1 a2 a3 a4 a5 a7 a6 m))) else g_X14_norths_510 w rec159 rec381 rec394 rec434 a1 a2 a3 a4 a5 a7 a6 m)))))))))
def g_X14_norths_434 (w : rf_w) (rec159 : Int32 → Int32 → rf_m → Option (rf_m)) (rec381 : Int32 → Int32 → Int32 → rf_m → Option (rf_m)) (rec394 : Int32 → Int32 → Int32 → Int32 → rf_m → Option (rf_m)) : Nat → Int32 → Int32 → Int32 → Int32 → Int32 → Int32 → Int32 → rf_m → Option (rf_m)
  | 0, _, _, _, _, _, _, _, _ => none
  | n + 1, a1, a2, a3, a4, a5, a6, a7, m => g_X14_norths_434_b w rec159 rec381 rec394 (g_X14_norths_434 w rec159 rec381 rec394 n) a1 a2 a3 a4 a5 a6 a7 m
def g_X14_norths_394_b (w : rf_w) (rec159 : Int32 → Int32 → rf_m → Option (rf_m)) (rec381 : Int32 → Int32 → Int32 → rf_m → Option (rf_m)) (rec394 : Int32 → Int32 → Int32 → Int32 → rf_m → Option (rf_m)) (a1 : Int32) (a2 : Int32) (a3 : Int32) (a4 : Int32) (m : rf_m) : Option (rf_m) := (if (m.1 206 4) ≤ a4 then rec381 a1 a2 (a3 + 1) m else rf_g (rf_in ((30 * a3) + a4) 900) ((if (m.1 296 (Int32.toNatClampNeg ((30 * a3) + a4))) = ((-1)) then g_X14_norths_539 w rec159 rec381 rec394 a1 a2 a3 a4 m else g_X14_norths_434 w rec159 rec381 rec394 rf_fuel 1 a2 a3 a4 ((30 * a3) + a4) 0 0 m)))
def g_X14_norths_394 (w : rf_w) (rec159 : Int32 → Int32 → rf_m → Option (rf_m)) (rec381 : Int32 → Int32 → Int32 → rf_m → Option (rf_m)) : Nat → Int32 → Int32 → Int32 → Int32 → rf_m → Option (rf_m)
  | 0, _, _, _, _, _ => none
  | n + 1, a1, a2, a3, a4, m => g_X14_norths_394_b w rec159 rec381 (g_X14_norths_394 w rec159 rec381 n) a1 a2 a3 a4 m
def g_X14_norths_381_b (w : rf_w) (rec159 : Int32 → Int32 → rf_m → Option (rf_m)) (rec381 : Int32 → Int32 → Int32 → rf_m → Option (rf_m)) (a1 : Int32) (a2 : Int32) (a3 : Int32) (m : rf_m) : Option (rf_m) := (if (m.1 206 4) ≤ a3 then rec159 a1 (a2 + 1) m else g_X14_norths_394 w rec159 rec381 rf_fuel a1 a2 a3 (a3 + 1) m)
def g_X14_norths_381 (w : rf_w) (rec159 : Int32 → Int32 → rf_m → Option (rf_m)) : Nat → Int32 → Int32 → Int32 → rf_m → Option (rf_m)
  | 0, _, _, _, _ => none
  | n + 1, a1, a2, a3, m => g_X14_norths_381_b w rec159 (g_X14_norths_381 w rec159 n) a1 a2 a3 m
def g_X14_norths_373 (w : rf_w) (rec159 : Int32 → Int32 → rf_m → Option (rf_m)) (rec189 : Int32 → Int32 → Int32 → rf_m → Option (rf_m)) (a1 : Int32) (a2 : Int32) (a3 : Int32) (m : rf_m) : Option (rf_m) := rec189 a1 a2 (a3 + 1) m
def g_X14_norths_310 (w : rf_w) (rec159 : Int32 → Int32 → rf_m → Option (rf_m)) (rec189 : Int32 → Int32 → Int32 → rf_m → Option (rf_m)) (a1 : Int32) (a2 : Int32) (a3 : Int32) (a4 : Int32) (a5 : Int32) (m : rf_m) : Option (rf_m) := rf_g (rf_in a5 900) ((if (m.1 293 (Int32.toNatClampNeg a5)) = a2 then rf_g (rf_in a4 900) ((if (m.1 293 (Int32.toNatClampNeg a4)) = ((-1)) then rf_g (rf_in a3 80) (rf_g (rf_in a3 80) (rf_g (rf_in a5 900) (rf_g (rf_in a5 900) (rf_g (rf_in a3 80) (rf_b (g_X14_rounded w m ((m.1 292 (Int32.toNatClampNeg a5)) - (m.1 248 (Int32.toNatClampNeg a3)))) fun y7 m7 => rf_bv (g_X14_offers w m7 (m.1 217 (Int32.toNatClampNeg a3)) (m.1 218 (Int32.toNatClampNeg a3)) (m.1 294 (Int32.toNatClampNeg a5)) a3 y7) fun m8 => g_X14_norths_373 w rec159 rec189 a1 a2 a3 m8))))) else g_X14_norths_373 w rec159 rec189 a1 a2 a3 m)) else g_X14_norths_373 w rec159 rec189 a1 a2 a3 m))
def g_X14_norths_189_b (w : rf_w) (rec159 : Int32 → Int32 → rf_m → Option (rf_m)) (rec189 : Int32 → Int32 → Int32 → rf_m → Option (rf_m)) (a1 : Int32) (a2 : Int32) (a3 : Int32) (m : rf_m) : Option (rf_m) := (if (m.1 206 16) ≤ a3 then g_X14_norths_381 w rec159 rf_fuel a1 a2 0 m else rf_g (rf_in a3 80) ((if (m.1 248 (Int32.toNatClampNeg a3)) = ((-2)) then g_X14_norths_373 w rec159 rec189 a1 a2 a3 m else rf_g (rf_in a3 80) (rf_g (rf_in a3 80) (rf_vi ((30 * (m.1 217 (Int32.toNatClampNeg a3))) + (m.1 218 (Int32.toNatClampNeg a3))) fun x3 => rf_g (rf_in a3 80) (rf_g (rf_in a3 80) (rf_vi ((30 * (m.1 217 (Int32.toNatClampNeg a3))) + (m.1 219 (Int32.toNatClampNeg a3))) fun x6 => rf_g (rf_in x3 900) ((if (m.1 293 (Int32.toNatClampNeg x3)) = a2 then rf_g (rf_in x6 900) ((if (m.1 293 (Int32.toNatClampNeg x6)) = ((-1)) then rf_g (rf_in a3 80) (rf_g (rf_in a3 80) (rf_g (rf_in x3 900) (rf_g (rf_in x3 900) (rf_g (rf_in a3 80) (rf_b (g_X14_rounded w m ((m.1 292 (Int32.toNatClampNeg x3)) + (m.1 248 (Int32.toNatClampNeg a3)))) fun y14 m14 => rf_bv (g_X14_offers w m14 (m.1 217 (Int32.toNatClampNeg a3)) (m.1 219 (Int32.toNatClampNeg a3)) (m.1 294 (Int32.toNatClampNeg x3)) a3 y14) fun m15 => g_X14_norths_310 w rec159 rec189 a1 a2 a3 x3 x6 m15))))) else g_X14_norths_310 w rec159 rec189 a1 a2 a3 x3 x6 m)) else g_X14_norths_310 w rec159 rec189 a1 a2 a3 x3 x6 m)))))))))
def g_X14_norths_189 (w : rf_w) (rec159 : Int32 → Int32 → rf_m → Option (rf_m)) : Nat → Int32 → Int32 → Int32 → rf_m → Option (rf_m)
  | 0, _, _, _, _ => none
  | n + 1, a1, a2, a3, m => g_X14_norths_189_b w rec159 (g_X14_norths_189 w rec159 n) a1 a2 a3 m
def g_X14_norths_167_b (w : rf_w) (rec159 : Int32 → Int32 → rf_m → Option (rf_m)) (rec167 : Int32 → Int32 → Int32 → rf_m → Option (rf_m)) (a1 : Int32) (a2 : Int32) (a3 : Int32) (m : rf_m) : Option (rf_m) := (if 900 ≤ a3 then g_X14_norths_189 w rec159 rf_fuel a1 a2 0 m else rf_g (rf_in a3 900) (rec167 a1 a2 (a3 + 1) (rf_i m 296 (Int32.toNatClampNeg a3) ((-1)))))
def g_X14_norths_167 (w : rf_w) (rec159 : Int32 → Int32 → rf_m → Option (rf_m)) : Nat → Int32 → Int32 → Int32 → rf_m → Option (rf_m)
  | 0, _, _, _, _ => none
  | n + 1, a1, a2, a3, m => g_X14_norths_167_b w rec159 (g_X14_norths_167 w rec159 n) a1 a2 a3 m
def g_X14_norths_159_b (w : rf_w) (rec159 : Int32 → Int32 → rf_m → Option (rf_m)) (a1 : Int32) (a2 : Int32) (m : rf_m) : Option (rf_m) := (if a1 = 0 then some m else g_X14_norths_167 w rec159 rf_fuel 0 a2 0 m)
def g_X14_norths_159 (w : rf_w) : Nat → Int32 → Int32 → rf_m → Option (rf_m)
  | 0, _, _, _ => none
  | n + 1, a1, a2, m => g_X14_norths_159_b w (g_X14_norths_159 w n) a1 a2 m
def g_X14_norths_139 (w : rf_w) (rec2 : Int32 → rf_m → Option (rf_m)) (rec12 : Int32 → Int32 → rf_m → Option (rf_m)) (a1 : Int32) (a2 : Int32) (m : rf_m) : Option (rf_m) := rec12 a1 (a2 + 1) m
def g_X14_norths_138 (w : rf_w) (rec2 : Int32 → rf_m → Option (rf_m)) (rec12 : Int32 → Int32 → rf_m → Option (rf_m)) (a1 : Int32) (a2 : Int32) (s1 : Int32) (s2 : Int32) (m : rf_m) : Option (rf_m) := rf_g (rf_in s1 900) (g_X14_norths_139 w rec2 rec12 a1 a2 (rf_i m 294 (Int32.toNatClampNeg s1) s2))
def g_X14_norths_120 (w : rf_w) (rec2 : Int32 → rf_m → Option (rf_m)) (rec12 : Int32 → Int32 → rf_m → Option (rf_m)) (a1 : Int32) (a2 : Int32) (a3 : Int32) (a4 : Int32) (s1 : Int32) (s2 : Int32) (m : rf_m) : Option (rf_m) := rf_g (rf_in s1 900) ((if a4 = ((-2)) then g_X14_norths_138 w rec2 rec12 a1 a2 a3 a2 (rf_i m 292 (Int32.toNatClampNeg s1) s2) else g_X14_norths_138 w rec2 rec12 a1 a2 a3 a1 (rf_i m 292 (Int32.toNatClampNeg s1) s2)))
def g_X14_norths_87 (w : rf_w) (rec2 : Int32 → rf_m → Option (rf_m)) (rec12 : Int32 → Int32 → rf_m → Option (rf_m)) (a1 : Int32) (a2 : Int32) (a3 : Int32) (a4 : Int32) (a5 : Int32) (m : rf_m) : Option (rf_m) := rf_g (rf_in a3 900) ((if a4 = ((-2)) then rf_b (g_X14_rounded w (rf_i m 293 (Int32.toNatClampNeg a3) 0) (a5 + 6480000)) fun y1 m1 => g_X14_norths_120 w rec2 rec12 a1 a2 a3 a4 a3 y1 m1 else g_X14_norths_120 w rec2 rec12 a1 a2 a3 a4 a3 a4 (rf_i m 293 (Int32.toNatClampNeg a3) 0)))
def g_X14_norths_68 (w : rf_w) (rec2 : Int32 → rf_m → Option (rf_m)) (rec12 : Int32 → Int32 → rf_m → Option (rf_m)) (a1 : Int32) (a2 : Int32) (a3 : Int32) (a4 : Int32) (s0 : Int32) (m : rf_m) : Option (rf_m) := (if a4 = ((-2)) then (if s0 = ((-2)) then g_X14_norths_139 w rec2 rec12 a1 a2 m else g_X14_norths_87 w rec2 rec12 a1 a2 a3 a4 s0 m) else g_X14_norths_87 w rec2 rec12 a1 a2 a3 a4 s0 m)
def g_X14_norths_50 (w : rf_w) (rec2 : Int32 → rf_m → Option (rf_m)) (rec12 : Int32 → Int32 → rf_m → Option (rf_m)) (a1 : Int32) (a2 : Int32) (a3 : Int32) (s0 : Int32) (m : rf_m) : Option (rf_m) := (if a1 = a2 then g_X14_norths_68 w rec2 rec12 a1 a2 a3 s0 ((-2)) m else rf_b (g_X14_ownNorth w m a2 a1) fun y0 m0 => g_X14_norths_68 w rec2 rec12 a1 a2 a3 s0 y0 m0)
def g_X14_norths_12_b (w : rf_w) (rec2 : Int32 → rf_m → Option (rf_m)) (rec12 : Int32 → Int32 → rf_m → Option (rf_m)) (a1 : Int32) (a2 : Int32) (m : rf_m) : Option (rf_m) := (if (m.1 206 4) ≤ a2 then rec2 (a1 + 1) m else rf_g (rf_in ((30 * a1) + a2) 900) ((if a1 = a2 then g_X14_norths_50 w rec2 rec12 a1 a2 ((30 * a1) + a2) ((-2)) (rf_i m 293 (Int32.toNatClampNeg ((30 * a1) + a2)) ((-1))) else rf_b (g_X14_ownNorth w (rf_i m 293 (Int32.toNatClampNeg ((30 * a1) + a2)) ((-1))) a1 a2) fun y1 m1 => g_X14_norths_50 w rec2 rec12 a1 a2 ((30 * a1) + a2) y1 m1)))
def g_X14_norths_12 (w : rf_w) (rec2 : Int32 → rf_m → Option (rf_m)) : Nat → Int32 → Int32 → rf_m → Option (rf_m)
  | 0, _, _, _ => none
  | n + 1, a1, a2, m => g_X14_norths_12_b w rec2 (g_X14_norths_12 w rec2 n) a1 a2 m
def g_X14_norths_2_b (w : rf_w) (rec2 : Int32 → rf_m → Option (rf_m)) (a1 : Int32) (m : rf_m) : Option (rf_m) := (if (m.1 206 4) ≤ a1 then rf_bv (g_X14_allMeans w m) fun m0 => g_X14_norths_159 w rf_fuel 1 0 m0 else g_X14_norths_12 w rec2 rf_fuel a1 0 m)
def g_X14_norths_2 (w : rf_w) : Nat → Int32 → rf_m → Option (rf_m)
  | 0, _, _ => none
  | n + 1, a1, m => g_X14_norths_2_b w (g_X14_norths_2 w n) a1 m
def g_X14_norths (w : rf_w) (m : rf_m) : Option (rf_m) := g_X14_norths_2 w rf_fuel 0 m
theorem s_X14_norths_539 {w : rf_w} {K : rf_K} {r : rf_m} (C : rf_Ctx 14 cX14_norths 8 10 (rf_sh w) K) (hE : rf_End none K (rf_sh w) 0 0 none (rf_MM w r)) {rec159 : Int32 → Int32 → rf_m → Option (rf_m)} {rec381 : Int32 → Int32 → Int32 → rf_m → Option (rf_m)} {rec394 : Int32 → Int32 → Int32 → Int32 → rf_m → Option (rf_m)} (hr159 : ∀ (a1 : Int32) (a2 : Int32) (m : rf_m), rec159 a1 a2 m = some r → rf_V 8 (rf_sh w) K 0 0 159 ([(0, .ref 206), (1, .int a1), (2, .int a2)], [], rf_MM w m)) (hr381 : ∀ (a1 : Int32) (a2 : Int32) (a3 : Int32) (m : rf_m), rec381 a1 a2 a3 m = some r → rf_V 8 (rf_sh w) K 0 0 381 ([(0, .ref 206), (1, .int a1), (2, .int a2), (3, .int a3)], [], rf_MM w m)) (hr394 : ∀ (a1 : Int32) (a2 : Int32) (a3 : Int32) (a4 : Int32) (m : rf_m), rec394 a1 a2 a3 a4 m = some r → rf_V 8 (rf_sh w) K 0 0 394 ([(0, .ref 206), (1, .int a1), (2, .int a2), (3, .int a3), (4, .int a4)], [], rf_MM w m)) (a1 : Int32) (a2 : Int32) (a3 : Int32) (a4 : Int32) (m : rf_m) (hg : g_X14_norths_539 w rec159 rec381 rec394 a1 a2 a3 a4 m = some r) : rf_V 8 (rf_sh w) K 0 0 539 ([(0, .ref 206), (1, .int a1), (2, .int a2), (3, .int a3), (4, .int a4)], [], rf_MM w m) := by
  unfold g_X14_norths_539 at hg
  refine rf_seg C [(.iinc 4 1, 3)] (pc' := 542) (S' := ([(4, .int (a4 + 1)), (0, .ref 206), (1, .int a1), (2, .int a2), (3, .int a3)], [], rf_MM w m)) (by decide +kernel) rfl trivial ?_
  refine rf_goto C (-148) 394 (by decide +kernel) ?_
  refine rf_few [1, 2, 3, 4, 0] rfl ?_
  exact hr394 a1 a2 a3 (a4 + 1) m hg
theorem s_X14_norths_511 {w : rf_w} {K : rf_K} {r : rf_m} (C : rf_Ctx 14 cX14_norths 8 10 (rf_sh w) K) (hE : rf_End none K (rf_sh w) 0 0 none (rf_MM w r)) {rec159 : Int32 → Int32 → rf_m → Option (rf_m)} {rec381 : Int32 → Int32 → Int32 → rf_m → Option (rf_m)} {rec394 : Int32 → Int32 → Int32 → Int32 → rf_m → Option (rf_m)} {rec434 : Int32 → Int32 → Int32 → Int32 → Int32 → Int32 → Int32 → rf_m → Option (rf_m)} (hr159 : ∀ (a1 : Int32) (a2 : Int32) (m : rf_m), rec159 a1 a2 m = some r → rf_V 8 (rf_sh w) K 0 0 159 ([(0, .ref 206), (1, .int a1), (2, .int a2)], [], rf_MM w m)) (hr381 : ∀ (a1 : Int32) (a2 : Int32) (a3 : Int32) (m : rf_m), rec381 a1 a2 a3 m = some r → rf_V 8 (rf_sh w) K 0 0 381 ([(0, .ref 206), (1, .int a1), (2, .int a2), (3, .int a3)], [], rf_MM w m)) (hr394 : ∀ (a1 : Int32) (a2 : Int32) (a3 : Int32) (a4 : Int32) (m : rf_m), rec394 a1 a2 a3 a4 m = some r → rf_V 8 (rf_sh w) K 0 0 394 ([(0, .ref 206), (1, .int a1), (2, .int a2), (3, .int a3), (4, .int a4)], [], rf_MM w m)) (hr434 : ∀ (a1 : Int32) (a2 : Int32) (a3 : Int32) (a4 : Int32) (a5 : Int32) (a6 : Int32) (a7 : Int32) (m : rf_m), rec434 a1 a2 a3 a4 a5 a6 a7 m = some r → rf_V 8 (rf_sh w) K 0 0 434 ([(0, .ref 206), (1, .int a1), (2, .int a2), (3, .int a3), (4, .int a4), (5, .int a5), (6, .int a6), (7, .int a7)], [], rf_MM w m)) (a1 : Int32) (a2 : Int32) (a3 : Int32) (a4 : Int32) (a5 : Int32) (a7 : Int32) (s0 : Int32) (s1 : Int32) (m : rf_m) (hg : g_X14_norths_511 w rec159 rec381 rec394 rec434 a1 a2 a3 a4 a5 a7 s0 s1 m = some r) : rf_V 8 (rf_sh w) K 0 0 511 ([(0, .ref 206), (1, .int a1), (2, .int a2), (3, .int a3), (4, .int a4), (5, .int a5), (7, .int a7)], [.int s1, .int s0], rf_MM w m) := by
  unfold g_X14_norths_511 at hg
  refine rf_seg C [(.iadd, 1), (.istore 6, 2), (.iinc 7 1, 3)] (pc' := 517) (S' := ([(7, .int (a7 + 1)), (6, .int (s0 + s1)), (0, .ref 206), (1, .int a1), (2, .int a2), (3, .int a3), (4, .int a4), (5, .int a5)], [], rf_MM w m)) (by decide +kernel) rfl trivial ?_
  refine rf_goto C (-83) 434 (by decide +kernel) ?_
  refine rf_few [2, 3, 4, 5, 6, 7, 1, 0] rfl ?_
  exact hr434 a1 a2 a3 a4 a5 (s0 + s1) (a7 + 1) m hg
theorem s_X14_norths_510 {w : rf_w} {K : rf_K} {r : rf_m} (C : rf_Ctx 14 cX14_norths 8 10 (rf_sh w) K) (hE : rf_End none K (rf_sh w) 0 0 none (rf_MM w r)) {rec159 : Int32 → Int32 → rf_m → Option (rf_m)} {rec381 : Int32 → Int32 → Int32 → rf_m → Option (rf_m)} {rec394 : Int32 → Int32 → Int32 → Int32 → rf_m → Option (rf_m)} {rec434 : Int32 → Int32 → Int32 → Int32 → Int32 → Int32 → Int32 → rf_m → Option (rf_m)} (hr159 : ∀ (a1 : Int32) (a2 : Int32) (m : rf_m), rec159 a1 a2 m = some r → rf_V 8 (rf_sh w) K 0 0 159 ([(0, .ref 206), (1, .int a1), (2, .int a2)], [], rf_MM w m)) (hr381 : ∀ (a1 : Int32) (a2 : Int32) (a3 : Int32) (m : rf_m), rec381 a1 a2 a3 m = some r → rf_V 8 (rf_sh w) K 0 0 381 ([(0, .ref 206), (1, .int a1), (2, .int a2), (3, .int a3)], [], rf_MM w m)) (hr394 : ∀ (a1 : Int32) (a2 : Int32) (a3 : Int32) (a4 : Int32) (m : rf_m), rec394 a1 a2 a3 a4 m = some r → rf_V 8 (rf_sh w) K 0 0 394 ([(0, .ref 206), (1, .int a1), (2, .int a2), (3, .int a3), (4, .int a4)], [], rf_MM w m)) (hr434 : ∀ (a1 : Int32) (a2 : Int32) (a3 : Int32) (a4 : Int32) (a5 : Int32) (a6 : Int32) (a7 : Int32) (m : rf_m), rec434 a1 a2 a3 a4 a5 a6 a7 m = some r → rf_V 8 (rf_sh w) K 0 0 434 ([(0, .ref 206), (1, .int a1), (2, .int a2), (3, .int a3), (4, .int a4), (5, .int a5), (6, .int a6), (7, .int a7)], [], rf_MM w m)) (a1 : Int32) (a2 : Int32) (a3 : Int32) (a4 : Int32) (a5 : Int32) (a7 : Int32) (s0 : Int32) (m : rf_m) (hg : g_X14_norths_510 w rec159 rec381 rec394 rec434 a1 a2 a3 a4 a5 a7 s0 m = some r) : rf_V 8 (rf_sh w) K 0 0 510 ([(0, .ref 206), (1, .int a1), (2, .int a2), (3, .int a3), (4, .int a4), (5, .int a5), (7, .int a7)], [.int s0], rf_MM w m) := by
  unfold g_X14_norths_510 at hg
  refine rf_seg C [(.iconst 0, 1)] (pc' := 511) (S' := ([(0, .ref 206), (1, .int a1), (2, .int a2), (3, .int a3), (4, .int a4), (5, .int a5), (7, .int a7)], [.int 0, .int s0], rf_MM w m)) (by decide +kernel) rfl trivial ?_
  refine rf_few [0, 1, 2, 3, 4, 5, 6] rfl ?_
  exact s_X14_norths_511 C hE hr159 hr381 hr394 hr434 a1 a2 a3 a4 a5 a7 s0 0 m hg
theorem s_X14_norths_506 {w : rf_w} {K : rf_K} {r : rf_m} (C : rf_Ctx 14 cX14_norths 8 10 (rf_sh w) K) (hE : rf_End none K (rf_sh w) 0 0 none (rf_MM w r)) {rec159 : Int32 → Int32 → rf_m → Option (rf_m)} {rec381 : Int32 → Int32 → Int32 → rf_m → Option (rf_m)} {rec394 : Int32 → Int32 → Int32 → Int32 → rf_m → Option (rf_m)} {rec434 : Int32 → Int32 → Int32 → Int32 → Int32 → Int32 → Int32 → rf_m → Option (rf_m)} (hr159 : ∀ (a1 : Int32) (a2 : Int32) (m : rf_m), rec159 a1 a2 m = some r → rf_V 8 (rf_sh w) K 0 0 159 ([(0, .ref 206), (1, .int a1), (2, .int a2)], [], rf_MM w m)) (hr381 : ∀ (a1 : Int32) (a2 : Int32) (a3 : Int32) (m : rf_m), rec381 a1 a2 a3 m = some r → rf_V 8 (rf_sh w) K 0 0 381 ([(0, .ref 206), (1, .int a1), (2, .int a2), (3, .int a3)], [], rf_MM w m)) (hr394 : ∀ (a1 : Int32) (a2 : Int32) (a3 : Int32) (a4 : Int32) (m : rf_m), rec394 a1 a2 a3 a4 m = some r → rf_V 8 (rf_sh w) K 0 0 394 ([(0, .ref 206), (1, .int a1), (2, .int a2), (3, .int a3), (4, .int a4)], [], rf_MM w m)) (hr434 : ∀ (a1 : Int32) (a2 : Int32) (a3 : Int32) (a4 : Int32) (a5 : Int32) (a6 : Int32) (a7 : Int32) (m : rf_m), rec434 a1 a2 a3 a4 a5 a6 a7 m = some r → rf_V 8 (rf_sh w) K 0 0 434 ([(0, .ref 206), (1, .int a1), (2, .int a2), (3, .int a3), (4, .int a4), (5, .int a5), (6, .int a6), (7, .int a7)], [], rf_MM w m)) (a1 : Int32) (a2 : Int32) (a3 : Int32) (a4 : Int32) (a5 : Int32) (a7 : Int32) (s0 : Int32) (m : rf_m) (hg : g_X14_norths_506 w rec159 rec381 rec394 rec434 a1 a2 a3 a4 a5 a7 s0 m = some r) : rf_V 8 (rf_sh w) K 0 0 506 ([(0, .ref 206), (1, .int a1), (2, .int a2), (3, .int a3), (4, .int a4), (5, .int a5), (7, .int a7)], [.int s0], rf_MM w m) := by
  unfold g_X14_norths_506 at hg
  refine rf_seg C [(.iconst 1, 1)] (pc' := 507) (S' := ([(0, .ref 206), (1, .int a1), (2, .int a2), (3, .int a3), (4, .int a4), (5, .int a5), (7, .int a7)], [.int 1, .int s0], rf_MM w m)) (by decide +kernel) rfl trivial ?_
  refine rf_goto C 4 511 (by decide +kernel) ?_
  refine rf_few [0, 1, 2, 3, 4, 5, 6] rfl ?_
  exact s_X14_norths_511 C hE hr159 hr381 hr394 hr434 a1 a2 a3 a4 a5 a7 s0 1 m hg
theorem s_X14_norths_434_b {w : rf_w} {K : rf_K} {r : rf_m} (C : rf_Ctx 14 cX14_norths 8 10 (rf_sh w) K) (hE : rf_End none K (rf_sh w) 0 0 none (rf_MM w r)) {rec159 : Int32 → Int32 → rf_m → Option (rf_m)} {rec381 : Int32 → Int32 → Int32 → rf_m → Option (rf_m)} {rec394 : Int32 → Int32 → Int32 → Int32 → rf_m → Option (rf_m)} {rec434 : Int32 → Int32 → Int32 → Int32 → Int32 → Int32 → Int32 → rf_m → Option (rf_m)} (hr159 : ∀ (a1 : Int32) (a2 : Int32) (m : rf_m), rec159 a1 a2 m = some r → rf_V 8 (rf_sh w) K 0 0 159 ([(0, .ref 206), (1, .int a1), (2, .int a2)], [], rf_MM w m)) (hr381 : ∀ (a1 : Int32) (a2 : Int32) (a3 : Int32) (m : rf_m), rec381 a1 a2 a3 m = some r → rf_V 8 (rf_sh w) K 0 0 381 ([(0, .ref 206), (1, .int a1), (2, .int a2), (3, .int a3)], [], rf_MM w m)) (hr394 : ∀ (a1 : Int32) (a2 : Int32) (a3 : Int32) (a4 : Int32) (m : rf_m), rec394 a1 a2 a3 a4 m = some r → rf_V 8 (rf_sh w) K 0 0 394 ([(0, .ref 206), (1, .int a1), (2, .int a2), (3, .int a3), (4, .int a4)], [], rf_MM w m)) (hr434 : ∀ (a1 : Int32) (a2 : Int32) (a3 : Int32) (a4 : Int32) (a5 : Int32) (a6 : Int32) (a7 : Int32) (m : rf_m), rec434 a1 a2 a3 a4 a5 a6 a7 m = some r → rf_V 8 (rf_sh w) K 0 0 434 ([(0, .ref 206), (1, .int a1), (2, .int a2), (3, .int a3), (4, .int a4), (5, .int a5), (6, .int a6), (7, .int a7)], [], rf_MM w m)) (a1 : Int32) (a2 : Int32) (a3 : Int32) (a4 : Int32) (a5 : Int32) (a6 : Int32) (a7 : Int32) (m : rf_m) (hg : g_X14_norths_434_b w rec159 rec381 rec394 rec434 a1 a2 a3 a4 a5 a6 a7 m = some r) : rf_V 8 (rf_sh w) K 0 0 434 ([(0, .ref 206), (1, .int a1), (2, .int a2), (3, .int a3), (4, .int a4), (5, .int a5), (6, .int a6), (7, .int a7)], [], rf_MM w m) := by
  unfold g_X14_norths_434_b at hg
  refine rf_seg C [(.iload 7, 2), (.iconst 900, 3)] (pc' := 439) (S' := ([(0, .ref 206), (1, .int a1), (2, .int a2), (3, .int a3), (4, .int a4), (5, .int a5), (6, .int a6), (7, .int a7)], [.int 900, .int a7], rf_MM w m)) (by decide +kernel) rfl trivial ?_
  refine rf_icmp_ge C 81 520 (by decide +kernel) (fun hc => ?_) (fun hc => ?_)
  · replace hg := (if_pos hc).symm.trans hg
    obtain ⟨q0, hg⟩ := rf_g_some hg
    refine rf_seg C [(.aload 0, 1), (.iload 3, 1), (.iload 4, 2), (.iload 2, 1), (.iconst 1, 1), (.iadd, 1), (.iload 6, 2), (.aload 0, 1), (.invokeinterface 14 135, 3), (.iload 5, 2), (.iaload, 1)] (pc' := 536) (S' := ([(0, .ref 206), (1, .int a1), (2, .int a2), (3, .int a3), (4, .int a4), (5, .int a5), (6, .int a6), (7, .int a7)], [.int (m.1 297 (Int32.toNatClampNeg a5)), .int a6, .int (a2 + 1), .int a4, .int a3, .ref 206], rf_MM w m)) (by decide +kernel) rfl (rf_in_of q0) ?_
    obtain ⟨m1, hc1, hg⟩ := rf_bv_some hg
    refine rf_callv C rf_fit0 j_X14_tells (ci := 14) (As := [.int a3, .int a4, .int (a2 + 1), .int a6, .int (m.1 297 (Int32.toNatClampNeg a5))]) (rest := []) mw_X14_tells (c_X14_tells hc1) (by decide) rfl (by decide) lk_14_887 rfl rfl (Nat.le_of_ble_eq_true rfl) (by decide +kernel) ?_
    show rf_V 8 (rf_sh w) K 0 0 539 ([(0, .ref 206), (1, .int a1), (2, .int a2), (3, .int a3), (4, .int a4), (5, .int a5), (6, .int a6), (7, .int a7)], [], rf_MM w m1)
    refine rf_few [0, 1, 2, 3, 4] rfl ?_
    exact s_X14_norths_539 C hE hr159 hr381 hr394 a1 a2 a3 a4 m1 hg
  · replace hg := (if_neg hc).symm.trans hg
    obtain ⟨q2, hg⟩ := rf_g_some hg
    refine rf_seg C [(.iload 6, 2), (.aload 0, 1), (.invokeinterface 14 134, 3), (.iload 7, 2), (.iaload, 1), (.iconst (-1), 1)] (pc' := 452) (S' := ([(0, .ref 206), (1, .int a1), (2, .int a2), (3, .int a3), (4, .int a4), (5, .int a5), (6, .int a6), (7, .int a7)], [.int ((-1)), .int (m.1 296 (Int32.toNatClampNeg a7)), .int a6], rf_MM w m)) (by decide +kernel) rfl (rf_in_of q2) ?_
    refine rf_icmp_eq C 58 510 (by decide +kernel) (fun hc => ?_) (fun hc => ?_)
    · replace hg := (if_pos hc).symm.trans hg
      refine rf_few [0, 1, 2, 3, 4, 5, 7] rfl ?_
      exact s_X14_norths_510 C hE hr159 hr381 hr394 hr434 a1 a2 a3 a4 a5 a7 a6 m hg
    · replace hg := (if_neg hc).symm.trans hg
      obtain ⟨q3, hg⟩ := rf_g_some hg
      obtain ⟨q4, hg⟩ := rf_g_some hg
      refine rf_seg C [(.aload 0, 1), (.invokeinterface 14 133, 3), (.iload 7, 2), (.iaload, 1), (.aload 0, 1), (.invokeinterface 14 133, 3), (.iload 5, 2), (.iaload, 1)] (pc' := 469) (S' := ([(0, .ref 206), (1, .int a1), (2, .int a2), (3, .int a3), (4, .int a4), (5, .int a5), (6, .int a6), (7, .int a7)], [.int (m.1 295 (Int32.toNatClampNeg a5)), .int (m.1 295 (Int32.toNatClampNeg a7)), .int a6], rf_MM w m)) (by decide +kernel) rfl (by exact ⟨(rf_in_of q3), (rf_in_of q4)⟩) ?_
      refine rf_icmp_lt C 37 506 (by decide +kernel) (fun hc => ?_) (fun hc => ?_)
      · replace hg := (if_pos hc).symm.trans hg
        refine rf_few [0, 1, 2, 3, 4, 5, 7] rfl ?_
        exact s_X14_norths_506 C hE hr159 hr381 hr394 hr434 a1 a2 a3 a4 a5 a7 a6 m hg
      · replace hg := (if_neg hc).symm.trans hg
        obtain ⟨q5, hg⟩ := rf_g_some hg
        obtain ⟨q6, hg⟩ := rf_g_some hg
        refine rf_seg C [(.aload 0, 1), (.invokeinterface 14 133, 3), (.iload 7, 2), (.iaload, 1), (.aload 0, 1), (.invokeinterface 14 133, 3), (.iload 5, 2), (.iaload, 1)] (pc' := 486) (S' := ([(0, .ref 206), (1, .int a1), (2, .int a2), (3, .int a3), (4, .int a4), (5, .int a5), (6, .int a6), (7, .int a7)], [.int (m.1 295 (Int32.toNatClampNeg a5)), .int (m.1 295 (Int32.toNatClampNeg a7)), .int a6], rf_MM w m)) (by decide +kernel) rfl (by exact ⟨(rf_in_of q5), (rf_in_of q6)⟩) ?_
        refine rf_icmp_ne C 24 510 (by decide +kernel) (fun hc => ?_) (fun hc => ?_)
        · replace hg := (if_neg hc).symm.trans hg
          refine rf_few [0, 1, 2, 3, 4, 5, 7] rfl ?_
          exact s_X14_norths_510 C hE hr159 hr381 hr394 hr434 a1 a2 a3 a4 a5 a7 a6 m hg
        · replace hg := (if_pos hc).symm.trans hg
          obtain ⟨q7, hg⟩ := rf_g_some hg
          obtain ⟨q8, hg⟩ := rf_g_some hg
          refine rf_seg C [(.aload 0, 1), (.invokeinterface 14 134, 3), (.iload 7, 2), (.iaload, 1), (.aload 0, 1), (.invokeinterface 14 134, 3), (.iload 5, 2), (.iaload, 1)] (pc' := 503) (S' := ([(0, .ref 206), (1, .int a1), (2, .int a2), (3, .int a3), (4, .int a4), (5, .int a5), (6, .int a6), (7, .int a7)], [.int (m.1 296 (Int32.toNatClampNeg a5)), .int (m.1 296 (Int32.toNatClampNeg a7)), .int a6], rf_MM w m)) (by decide +kernel) rfl (by exact ⟨(rf_in_of q7), (rf_in_of q8)⟩) ?_
          refine rf_icmp_ge C 7 510 (by decide +kernel) (fun hc => ?_) (fun hc => ?_)
          · replace hg := (if_pos hc).symm.trans hg
            refine rf_few [0, 1, 2, 3, 4, 5, 7] rfl ?_
            exact s_X14_norths_510 C hE hr159 hr381 hr394 hr434 a1 a2 a3 a4 a5 a7 a6 m hg
          · replace hg := (if_neg hc).symm.trans hg
            refine rf_few [0, 1, 2, 3, 4, 5, 7] rfl ?_
            exact s_X14_norths_506 C hE hr159 hr381 hr394 hr434 a1 a2 a3 a4 a5 a7 a6 m hg
theorem s_X14_norths_434 {w : rf_w} {K : rf_K} {r : rf_m} (C : rf_Ctx 14 cX14_norths 8 10 (rf_sh w) K) (hE : rf_End none K (rf_sh w) 0 0 none (rf_MM w r)) {rec159 : Int32 → Int32 → rf_m → Option (rf_m)} {rec381 : Int32 → Int32 → Int32 → rf_m → Option (rf_m)} {rec394 : Int32 → Int32 → Int32 → Int32 → rf_m → Option (rf_m)} (hr159 : ∀ (a1 : Int32) (a2 : Int32) (m : rf_m), rec159 a1 a2 m = some r → rf_V 8 (rf_sh w) K 0 0 159 ([(0, .ref 206), (1, .int a1), (2, .int a2)], [], rf_MM w m)) (hr381 : ∀ (a1 : Int32) (a2 : Int32) (a3 : Int32) (m : rf_m), rec381 a1 a2 a3 m = some r → rf_V 8 (rf_sh w) K 0 0 381 ([(0, .ref 206), (1, .int a1), (2, .int a2), (3, .int a3)], [], rf_MM w m)) (hr394 : ∀ (a1 : Int32) (a2 : Int32) (a3 : Int32) (a4 : Int32) (m : rf_m), rec394 a1 a2 a3 a4 m = some r → rf_V 8 (rf_sh w) K 0 0 394 ([(0, .ref 206), (1, .int a1), (2, .int a2), (3, .int a3), (4, .int a4)], [], rf_MM w m)) (n : Nat) : ∀ (a1 : Int32) (a2 : Int32) (a3 : Int32) (a4 : Int32) (a5 : Int32) (a6 : Int32) (a7 : Int32) (m : rf_m), g_X14_norths_434 w rec159 rec381 rec394 n a1 a2 a3 a4 a5 a6 a7 m = some r → rf_V 8 (rf_sh w) K 0 0 434 ([(0, .ref 206), (1, .int a1), (2, .int a2), (3, .int a3), (4, .int a4), (5, .int a5), (6, .int a6), (7, .int a7)], [], rf_MM w m) := by
  induction n with
  | zero => intro a1 a2 a3 a4 a5 a6 a7 m hg; cases hg
  | succ n ih => intro a1 a2 a3 a4 a5 a6 a7 m hg; exact s_X14_norths_434_b C hE hr159 hr381 hr394 ih a1 a2 a3 a4 a5 a6 a7 m hg
theorem s_X14_norths_394_b {w : rf_w} {K : rf_K} {r : rf_m} (C : rf_Ctx 14 cX14_norths 8 10 (rf_sh w) K) (hE : rf_End none K (rf_sh w) 0 0 none (rf_MM w r)) {rec159 : Int32 → Int32 → rf_m → Option (rf_m)} {rec381 : Int32 → Int32 → Int32 → rf_m → Option (rf_m)} {rec394 : Int32 → Int32 → Int32 → Int32 → rf_m → Option (rf_m)} (hr159 : ∀ (a1 : Int32) (a2 : Int32) (m : rf_m), rec159 a1 a2 m = some r → rf_V 8 (rf_sh w) K 0 0 159 ([(0, .ref 206), (1, .int a1), (2, .int a2)], [], rf_MM w m)) (hr381 : ∀ (a1 : Int32) (a2 : Int32) (a3 : Int32) (m : rf_m), rec381 a1 a2 a3 m = some r → rf_V 8 (rf_sh w) K 0 0 381 ([(0, .ref 206), (1, .int a1), (2, .int a2), (3, .int a3)], [], rf_MM w m)) (hr394 : ∀ (a1 : Int32) (a2 : Int32) (a3 : Int32) (a4 : Int32) (m : rf_m), rec394 a1 a2 a3 a4 m = some r → rf_V 8 (rf_sh w) K 0 0 394 ([(0, .ref 206), (1, .int a1), (2, .int a2), (3, .int a3), (4, .int a4)], [], rf_MM w m)) (a1 : Int32) (a2 : Int32) (a3 : Int32) (a4 : Int32) (m : rf_m) (hg : g_X14_norths_394_b w rec159 rec381 rec394 a1 a2 a3 a4 m = some r) : rf_V 8 (rf_sh w) K 0 0 394 ([(0, .ref 206), (1, .int a1), (2, .int a2), (3, .int a3), (4, .int a4)], [], rf_MM w m) := by
  unfold g_X14_norths_394_b at hg
  refine rf_seg C [(.iload 4, 2), (.aload 0, 1), (.invokeinterface 14 4, 3)] (pc' := 400) (S' := ([(0, .ref 206), (1, .int a1), (2, .int a2), (3, .int a3), (4, .int a4)], [.int (m.1 206 4), .int a4], rf_MM w m)) (by decide +kernel) rfl trivial ?_
  refine rf_icmp_ge C 145 545 (by decide +kernel) (fun hc => ?_) (fun hc => ?_)
  · replace hg := (if_pos hc).symm.trans hg
    refine rf_seg C [(.iinc 3 1, 3)] (pc' := 548) (S' := ([(3, .int (a3 + 1)), (0, .ref 206), (1, .int a1), (2, .int a2), (4, .int a4)], [], rf_MM w m)) (by decide +kernel) rfl trivial ?_
    refine rf_goto C (-167) 381 (by decide +kernel) ?_
    refine rf_few [1, 2, 3, 0] rfl ?_
    exact hr381 a1 a2 (a3 + 1) m hg
  · replace hg := (if_neg hc).symm.trans hg
    obtain ⟨q0, hg⟩ := rf_g_some hg
    refine rf_seg C [(.iconst 30, 2), (.iload 3, 1), (.imul, 1), (.iload 4, 2), (.iadd, 1), (.istore 5, 2), (.aload 0, 1), (.invokeinterface 14 134, 3), (.iload 5, 2), (.iaload, 1), (.iconst (-1), 1)] (pc' := 420) (S' := ([(5, .int ((30 * a3) + a4)), (0, .ref 206), (1, .int a1), (2, .int a2), (3, .int a3), (4, .int a4)], [.int ((-1)), .int (m.1 296 (Int32.toNatClampNeg ((30 * a3) + a4)))], rf_MM w m)) (by decide +kernel) rfl (rf_in_of q0) ?_
    refine rf_icmp_ne C 6 426 (by decide +kernel) (fun hc => ?_) (fun hc => ?_)
    · replace hg := (if_neg hc).symm.trans hg
      refine rf_seg C [(.iconst 1, 1), (.istore 1, 1), (.iconst 0, 1), (.istore 6, 2), (.iconst 0, 1), (.istore 7, 2)] (pc' := 434) (S' := ([(7, .int 0), (6, .int 0), (1, .int 1), (5, .int ((30 * a3) + a4)), (0, .ref 206), (2, .int a2), (3, .int a3), (4, .int a4)], [], rf_MM w m)) (by decide +kernel) rfl trivial ?_
      refine rf_few [4, 2, 5, 6, 7, 3, 1, 0] rfl ?_
      exact s_X14_norths_434 C hE hr159 hr381 hr394 rf_fuel 1 a2 a3 a4 ((30 * a3) + a4) 0 0 m hg
    · replace hg := (if_pos hc).symm.trans hg
      refine rf_goto C 116 539 (by decide +kernel) ?_
      refine rf_few [1, 2, 3, 4, 5] rfl ?_
      exact s_X14_norths_539 C hE hr159 hr381 hr394 a1 a2 a3 a4 m hg
theorem s_X14_norths_394 {w : rf_w} {K : rf_K} {r : rf_m} (C : rf_Ctx 14 cX14_norths 8 10 (rf_sh w) K) (hE : rf_End none K (rf_sh w) 0 0 none (rf_MM w r)) {rec159 : Int32 → Int32 → rf_m → Option (rf_m)} {rec381 : Int32 → Int32 → Int32 → rf_m → Option (rf_m)} (hr159 : ∀ (a1 : Int32) (a2 : Int32) (m : rf_m), rec159 a1 a2 m = some r → rf_V 8 (rf_sh w) K 0 0 159 ([(0, .ref 206), (1, .int a1), (2, .int a2)], [], rf_MM w m)) (hr381 : ∀ (a1 : Int32) (a2 : Int32) (a3 : Int32) (m : rf_m), rec381 a1 a2 a3 m = some r → rf_V 8 (rf_sh w) K 0 0 381 ([(0, .ref 206), (1, .int a1), (2, .int a2), (3, .int a3)], [], rf_MM w m)) (n : Nat) : ∀ (a1 : Int32) (a2 : Int32) (a3 : Int32) (a4 : Int32) (m : rf_m), g_X14_norths_394 w rec159 rec381 n a1 a2 a3 a4 m = some r → rf_V 8 (rf_sh w) K 0 0 394 ([(0, .ref 206), (1, .int a1), (2, .int a2), (3, .int a3), (4, .int a4)], [], rf_MM w m) := by
  induction n with
  | zero => intro a1 a2 a3 a4 m hg; cases hg
  | succ n ih => intro a1 a2 a3 a4 m hg; exact s_X14_norths_394_b C hE hr159 hr381 ih a1 a2 a3 a4 m hg
theorem s_X14_norths_381_b {w : rf_w} {K : rf_K} {r : rf_m} (C : rf_Ctx 14 cX14_norths 8 10 (rf_sh w) K) (hE : rf_End none K (rf_sh w) 0 0 none (rf_MM w r)) {rec159 : Int32 → Int32 → rf_m → Option (rf_m)} {rec381 : Int32 → Int32 → Int32 → rf_m → Option (rf_m)} (hr159 : ∀ (a1 : Int32) (a2 : Int32) (m : rf_m), rec159 a1 a2 m = some r → rf_V 8 (rf_sh w) K 0 0 159 ([(0, .ref 206), (1, .int a1), (2, .int a2)], [], rf_MM w m)) (hr381 : ∀ (a1 : Int32) (a2 : Int32) (a3 : Int32) (m : rf_m), rec381 a1 a2 a3 m = some r → rf_V 8 (rf_sh w) K 0 0 381 ([(0, .ref 206), (1, .int a1), (2, .int a2), (3, .int a3)], [], rf_MM w m)) (a1 : Int32) (a2 : Int32) (a3 : Int32) (m : rf_m) (hg : g_X14_norths_381_b w rec159 rec381 a1 a2 a3 m = some r) : rf_V 8 (rf_sh w) K 0 0 381 ([(0, .ref 206), (1, .int a1), (2, .int a2), (3, .int a3)], [], rf_MM w m) := by
  unfold g_X14_norths_381_b at hg
  refine rf_seg C [(.iload 3, 1), (.aload 0, 1), (.invokeinterface 14 4, 3)] (pc' := 386) (S' := ([(0, .ref 206), (1, .int a1), (2, .int a2), (3, .int a3)], [.int (m.1 206 4), .int a3], rf_MM w m)) (by decide +kernel) rfl trivial ?_
  refine rf_icmp_ge C 165 551 (by decide +kernel) (fun hc => ?_) (fun hc => ?_)
  · replace hg := (if_pos hc).symm.trans hg
    refine rf_seg C [(.iinc 2 1, 3)] (pc' := 554) (S' := ([(2, .int (a2 + 1)), (0, .ref 206), (1, .int a1), (3, .int a3)], [], rf_MM w m)) (by decide +kernel) rfl trivial ?_
    refine rf_goto C (-395) 159 (by decide +kernel) ?_
    refine rf_few [1, 2, 0] rfl ?_
    exact hr159 a1 (a2 + 1) m hg
  · replace hg := (if_neg hc).symm.trans hg
    refine rf_seg C [(.iload 3, 1), (.iconst 1, 1), (.iadd, 1), (.istore 4, 2)] (pc' := 394) (S' := ([(4, .int (a3 + 1)), (0, .ref 206), (1, .int a1), (2, .int a2), (3, .int a3)], [], rf_MM w m)) (by decide +kernel) rfl trivial ?_
    refine rf_few [1, 2, 3, 4, 0] rfl ?_
    exact s_X14_norths_394 C hE hr159 hr381 rf_fuel a1 a2 a3 (a3 + 1) m hg
theorem s_X14_norths_381 {w : rf_w} {K : rf_K} {r : rf_m} (C : rf_Ctx 14 cX14_norths 8 10 (rf_sh w) K) (hE : rf_End none K (rf_sh w) 0 0 none (rf_MM w r)) {rec159 : Int32 → Int32 → rf_m → Option (rf_m)} (hr159 : ∀ (a1 : Int32) (a2 : Int32) (m : rf_m), rec159 a1 a2 m = some r → rf_V 8 (rf_sh w) K 0 0 159 ([(0, .ref 206), (1, .int a1), (2, .int a2)], [], rf_MM w m)) (n : Nat) : ∀ (a1 : Int32) (a2 : Int32) (a3 : Int32) (m : rf_m), g_X14_norths_381 w rec159 n a1 a2 a3 m = some r → rf_V 8 (rf_sh w) K 0 0 381 ([(0, .ref 206), (1, .int a1), (2, .int a2), (3, .int a3)], [], rf_MM w m) := by
  induction n with
  | zero => intro a1 a2 a3 m hg; cases hg
  | succ n ih => intro a1 a2 a3 m hg; exact s_X14_norths_381_b C hE hr159 ih a1 a2 a3 m hg
theorem s_X14_norths_373 {w : rf_w} {K : rf_K} {r : rf_m} (C : rf_Ctx 14 cX14_norths 8 10 (rf_sh w) K) (hE : rf_End none K (rf_sh w) 0 0 none (rf_MM w r)) {rec159 : Int32 → Int32 → rf_m → Option (rf_m)} {rec189 : Int32 → Int32 → Int32 → rf_m → Option (rf_m)} (hr159 : ∀ (a1 : Int32) (a2 : Int32) (m : rf_m), rec159 a1 a2 m = some r → rf_V 8 (rf_sh w) K 0 0 159 ([(0, .ref 206), (1, .int a1), (2, .int a2)], [], rf_MM w m)) (hr189 : ∀ (a1 : Int32) (a2 : Int32) (a3 : Int32) (m : rf_m), rec189 a1 a2 a3 m = some r → rf_V 8 (rf_sh w) K 0 0 189 ([(0, .ref 206), (1, .int a1), (2, .int a2), (3, .int a3)], [], rf_MM w m)) (a1 : Int32) (a2 : Int32) (a3 : Int32) (m : rf_m) (hg : g_X14_norths_373 w rec159 rec189 a1 a2 a3 m = some r) : rf_V 8 (rf_sh w) K 0 0 373 ([(0, .ref 206), (1, .int a1), (2, .int a2), (3, .int a3)], [], rf_MM w m) := by
  unfold g_X14_norths_373 at hg
  refine rf_seg C [(.iinc 3 1, 3)] (pc' := 376) (S' := ([(3, .int (a3 + 1)), (0, .ref 206), (1, .int a1), (2, .int a2)], [], rf_MM w m)) (by decide +kernel) rfl trivial ?_
  refine rf_goto C (-187) 189 (by decide +kernel) ?_
  refine rf_few [1, 2, 3, 0] rfl ?_
  exact hr189 a1 a2 (a3 + 1) m hg
theorem s_X14_norths_310 {w : rf_w} {K : rf_K} {r : rf_m} (C : rf_Ctx 14 cX14_norths 8 10 (rf_sh w) K) (hE : rf_End none K (rf_sh w) 0 0 none (rf_MM w r)) {rec159 : Int32 → Int32 → rf_m → Option (rf_m)} {rec189 : Int32 → Int32 → Int32 → rf_m → Option (rf_m)} (hr159 : ∀ (a1 : Int32) (a2 : Int32) (m : rf_m), rec159 a1 a2 m = some r → rf_V 8 (rf_sh w) K 0 0 159 ([(0, .ref 206), (1, .int a1), (2, .int a2)], [], rf_MM w m)) (hr189 : ∀ (a1 : Int32) (a2 : Int32) (a3 : Int32) (m : rf_m), rec189 a1 a2 a3 m = some r → rf_V 8 (rf_sh w) K 0 0 189 ([(0, .ref 206), (1, .int a1), (2, .int a2), (3, .int a3)], [], rf_MM w m)) (a1 : Int32) (a2 : Int32) (a3 : Int32) (a4 : Int32) (a5 : Int32) (m : rf_m) (hg : g_X14_norths_310 w rec159 rec189 a1 a2 a3 a4 a5 m = some r) : rf_V 8 (rf_sh w) K 0 0 310 ([(0, .ref 206), (1, .int a1), (2, .int a2), (3, .int a3), (4, .int a4), (5, .int a5)], [], rf_MM w m) := by
  unfold g_X14_norths_310 at hg
  obtain ⟨q0, hg⟩ := rf_g_some hg
  refine rf_seg C [(.aload 0, 1), (.invokeinterface 14 131, 3), (.iload 5, 2), (.iaload, 1), (.iload 2, 1)] (pc' := 318) (S' := ([(0, .ref 206), (1, .int a1), (2, .int a2), (3, .int a3), (4, .int a4), (5, .int a5)], [.int a2, .int (m.1 293 (Int32.toNatClampNeg a5))], rf_MM w m)) (by decide +kernel) rfl (rf_in_of q0) ?_
  refine rf_icmp_ne C 55 373 (by decide +kernel) (fun hc => ?_) (fun hc => ?_)
  · replace hg := (if_neg hc).symm.trans hg
    refine rf_few [0, 1, 2, 3] rfl ?_
    exact s_X14_norths_373 C hE hr159 hr189 a1 a2 a3 m hg
  · replace hg := (if_pos hc).symm.trans hg
    obtain ⟨q1, hg⟩ := rf_g_some hg
    refine rf_seg C [(.aload 0, 1), (.invokeinterface 14 131, 3), (.iload 4, 2), (.iaload, 1), (.iconst (-1), 1)] (pc' := 329) (S' := ([(0, .ref 206), (1, .int a1), (2, .int a2), (3, .int a3), (4, .int a4), (5, .int a5)], [.int ((-1)), .int (m.1 293 (Int32.toNatClampNeg a4))], rf_MM w m)) (by decide +kernel) rfl (rf_in_of q1) ?_
    refine rf_icmp_ne C 44 373 (by decide +kernel) (fun hc => ?_) (fun hc => ?_)
    · replace hg := (if_neg hc).symm.trans hg
      refine rf_few [0, 1, 2, 3] rfl ?_
      exact s_X14_norths_373 C hE hr159 hr189 a1 a2 a3 m hg
    · replace hg := (if_pos hc).symm.trans hg
      obtain ⟨q2, hg⟩ := rf_g_some hg
      obtain ⟨q3, hg⟩ := rf_g_some hg
      obtain ⟨q4, hg⟩ := rf_g_some hg
      obtain ⟨q5, hg⟩ := rf_g_some hg
      obtain ⟨q6, hg⟩ := rf_g_some hg
      refine rf_seg C [(.aload 0, 1), (.aload 0, 1), (.invokeinterface 14 21, 3), (.iload 3, 1), (.iaload, 1), (.aload 0, 1), (.invokeinterface 14 22, 3), (.iload 3, 1), (.iaload, 1), (.aload 0, 1), (.invokeinterface 14 132, 3), (.iload 5, 2), (.iaload, 1), (.iload 3, 1), (.aload 0, 1), (.invokeinterface 14 130, 3), (.iload 5, 2), (.iaload, 1), (.aload 0, 1), (.invokeinterface 14 71, 3), (.iload 3, 1), (.iaload, 1), (.isub, 1)] (pc' := 367) (S' := ([(0, .ref 206), (1, .int a1), (2, .int a2), (3, .int a3), (4, .int a4), (5, .int a5)], [.int ((m.1 292 (Int32.toNatClampNeg a5)) - (m.1 248 (Int32.toNatClampNeg a3))), .int a3, .int (m.1 294 (Int32.toNatClampNeg a5)), .int (m.1 218 (Int32.toNatClampNeg a3)), .int (m.1 217 (Int32.toNatClampNeg a3)), .ref 206], rf_MM w m)) (by decide +kernel) rfl (by exact ⟨(rf_in_of q2), (rf_in_of q3), (rf_in_of q4), (rf_in_of q5), (rf_in_of q6)⟩) ?_
      obtain ⟨y7, m7, hc7, hg⟩ := rf_b_some hg
      refine rf_calls C rf_fit0 j_X14_rounded (As := [.int ((m.1 292 (Int32.toNatClampNeg a5)) - (m.1 248 (Int32.toNatClampNeg a3)))]) (rest := [.int a3, .int (m.1 294 (Int32.toNatClampNeg a5)), .int (m.1 218 (Int32.toNatClampNeg a3)), .int (m.1 217 (Int32.toNatClampNeg a3)), .ref 206]) mw_X14_rounded (c_X14_rounded hc7) (by decide) lk_14_877 rfl rfl (Nat.le_of_ble_eq_true rfl) (by decide +kernel) ?_
      show rf_V 8 (rf_sh w) K 0 0 370 ([(0, .ref 206), (1, .int a1), (2, .int a2), (3, .int a3), (4, .int a4), (5, .int a5)], [.int y7, .int a3, .int (m.1 294 (Int32.toNatClampNeg a5)), .int (m.1 218 (Int32.toNatClampNeg a3)), .int (m.1 217 (Int32.toNatClampNeg a3)), .ref 206], rf_MM w m7)
      obtain ⟨m8, hc8, hg⟩ := rf_bv_some hg
      refine rf_callv C rf_fit0 j_X14_offers (ci := 14) (As := [.int (m.1 217 (Int32.toNatClampNeg a3)), .int (m.1 218 (Int32.toNatClampNeg a3)), .int (m.1 294 (Int32.toNatClampNeg a5)), .int a3, .int y7]) (rest := []) mw_X14_offers (c_X14_offers hc8) (by decide) rfl (by decide) lk_14_883 rfl rfl (Nat.le_of_ble_eq_true rfl) (by decide +kernel) ?_
      show rf_V 8 (rf_sh w) K 0 0 373 ([(0, .ref 206), (1, .int a1), (2, .int a2), (3, .int a3), (4, .int a4), (5, .int a5)], [], rf_MM w m8)
      refine rf_few [0, 1, 2, 3] rfl ?_
      exact s_X14_norths_373 C hE hr159 hr189 a1 a2 a3 m8 hg
theorem s_X14_norths_189_b {w : rf_w} {K : rf_K} {r : rf_m} (C : rf_Ctx 14 cX14_norths 8 10 (rf_sh w) K) (hE : rf_End none K (rf_sh w) 0 0 none (rf_MM w r)) {rec159 : Int32 → Int32 → rf_m → Option (rf_m)} {rec189 : Int32 → Int32 → Int32 → rf_m → Option (rf_m)} (hr159 : ∀ (a1 : Int32) (a2 : Int32) (m : rf_m), rec159 a1 a2 m = some r → rf_V 8 (rf_sh w) K 0 0 159 ([(0, .ref 206), (1, .int a1), (2, .int a2)], [], rf_MM w m)) (hr189 : ∀ (a1 : Int32) (a2 : Int32) (a3 : Int32) (m : rf_m), rec189 a1 a2 a3 m = some r → rf_V 8 (rf_sh w) K 0 0 189 ([(0, .ref 206), (1, .int a1), (2, .int a2), (3, .int a3)], [], rf_MM w m)) (a1 : Int32) (a2 : Int32) (a3 : Int32) (m : rf_m) (hg : g_X14_norths_189_b w rec159 rec189 a1 a2 a3 m = some r) : rf_V 8 (rf_sh w) K 0 0 189 ([(0, .ref 206), (1, .int a1), (2, .int a2), (3, .int a3)], [], rf_MM w m) := by
  unfold g_X14_norths_189_b at hg
  refine rf_seg C [(.iload 3, 1), (.aload 0, 1), (.invokeinterface 14 16, 3)] (pc' := 194) (S' := ([(0, .ref 206), (1, .int a1), (2, .int a2), (3, .int a3)], [.int (m.1 206 16), .int a3], rf_MM w m)) (by decide +kernel) rfl trivial ?_
  refine rf_icmp_ge C 185 379 (by decide +kernel) (fun hc => ?_) (fun hc => ?_)
  · replace hg := (if_pos hc).symm.trans hg
    refine rf_seg C [(.iconst 0, 1), (.istore 3, 1)] (pc' := 381) (S' := ([(3, .int 0), (0, .ref 206), (1, .int a1), (2, .int a2)], [], rf_MM w m)) (by decide +kernel) rfl trivial ?_
    refine rf_few [1, 2, 3, 0] rfl ?_
    exact s_X14_norths_381 C hE hr159 rf_fuel a1 a2 0 m hg
  · replace hg := (if_neg hc).symm.trans hg
    obtain ⟨q0, hg⟩ := rf_g_some hg
    refine rf_seg C [(.aload 0, 1), (.invokeinterface 14 71, 3), (.iload 3, 1), (.iaload, 1), (.iconst (-2), 2)] (pc' := 205) (S' := ([(0, .ref 206), (1, .int a1), (2, .int a2), (3, .int a3)], [.int ((-2)), .int (m.1 248 (Int32.toNatClampNeg a3))], rf_MM w m)) (by decide +kernel) rfl (rf_in_of q0) ?_
    refine rf_icmp_ne C 6 211 (by decide +kernel) (fun hc => ?_) (fun hc => ?_)
    · replace hg := (if_neg hc).symm.trans hg
      obtain ⟨q1, hg⟩ := rf_g_some hg
      obtain ⟨q2, hg⟩ := rf_g_some hg
      refine rf_seg C [(.iconst 30, 2), (.aload 0, 1), (.invokeinterface 14 21, 3), (.iload 3, 1), (.iaload, 1), (.imul, 1), (.aload 0, 1), (.invokeinterface 14 22, 3), (.iload 3, 1), (.iaload, 1), (.iadd, 1)] (pc' := 227) (S' := ([(0, .ref 206), (1, .int a1), (2, .int a2), (3, .int a3)], [.int ((30 * (m.1 217 (Int32.toNatClampNeg a3))) + (m.1 218 (Int32.toNatClampNeg a3)))], rf_MM w m)) (by decide +kernel) rfl (by exact ⟨(rf_in_of q1), (rf_in_of q2)⟩) ?_
      obtain ⟨x3, hx3, hg⟩ := rf_vi_some hg
      refine rf_vi_top hx3 ?_
      obtain ⟨q4, hg⟩ := rf_g_some hg
      obtain ⟨q5, hg⟩ := rf_g_some hg
      refine rf_seg C [(.istore 4, 2), (.iconst 30, 2), (.aload 0, 1), (.invokeinterface 14 21, 3), (.iload 3, 1), (.iaload, 1), (.imul, 1), (.aload 0, 1), (.invokeinterface 14 23, 3), (.iload 3, 1), (.iaload, 1), (.iadd, 1)] (pc' := 245) (S' := ([(4, .int x3), (0, .ref 206), (1, .int a1), (2, .int a2), (3, .int a3)], [.int ((30 * (m.1 217 (Int32.toNatClampNeg a3))) + (m.1 219 (Int32.toNatClampNeg a3)))], rf_MM w m)) (by decide +kernel) rfl (by exact ⟨(rf_in_of q4), (rf_in_of q5)⟩) ?_
      obtain ⟨x6, hx6, hg⟩ := rf_vi_some hg
      refine rf_vi_top hx6 ?_
      obtain ⟨q7, hg⟩ := rf_g_some hg
      refine rf_seg C [(.istore 5, 2), (.aload 0, 1), (.invokeinterface 14 131, 3), (.iload 4, 2), (.iaload, 1), (.iload 2, 1)] (pc' := 255) (S' := ([(5, .int x6), (4, .int x3), (0, .ref 206), (1, .int a1), (2, .int a2), (3, .int a3)], [.int a2, .int (m.1 293 (Int32.toNatClampNeg x3))], rf_MM w m)) (by decide +kernel) rfl (rf_in_of q7) ?_
      refine rf_icmp_ne C 55 310 (by decide +kernel) (fun hc => ?_) (fun hc => ?_)
      · replace hg := (if_neg hc).symm.trans hg
        refine rf_few [2, 3, 4, 5, 1, 0] rfl ?_
        exact s_X14_norths_310 C hE hr159 hr189 a1 a2 a3 x3 x6 m hg
      · replace hg := (if_pos hc).symm.trans hg
        obtain ⟨q8, hg⟩ := rf_g_some hg
        refine rf_seg C [(.aload 0, 1), (.invokeinterface 14 131, 3), (.iload 5, 2), (.iaload, 1), (.iconst (-1), 1)] (pc' := 266) (S' := ([(5, .int x6), (4, .int x3), (0, .ref 206), (1, .int a1), (2, .int a2), (3, .int a3)], [.int ((-1)), .int (m.1 293 (Int32.toNatClampNeg x6))], rf_MM w m)) (by decide +kernel) rfl (rf_in_of q8) ?_
        refine rf_icmp_ne C 44 310 (by decide +kernel) (fun hc => ?_) (fun hc => ?_)
        · replace hg := (if_neg hc).symm.trans hg
          refine rf_few [2, 3, 4, 5, 1, 0] rfl ?_
          exact s_X14_norths_310 C hE hr159 hr189 a1 a2 a3 x3 x6 m hg
        · replace hg := (if_pos hc).symm.trans hg
          obtain ⟨q9, hg⟩ := rf_g_some hg
          obtain ⟨q10, hg⟩ := rf_g_some hg
          obtain ⟨q11, hg⟩ := rf_g_some hg
          obtain ⟨q12, hg⟩ := rf_g_some hg
          obtain ⟨q13, hg⟩ := rf_g_some hg
          refine rf_seg C [(.aload 0, 1), (.aload 0, 1), (.invokeinterface 14 21, 3), (.iload 3, 1), (.iaload, 1), (.aload 0, 1), (.invokeinterface 14 23, 3), (.iload 3, 1), (.iaload, 1), (.aload 0, 1), (.invokeinterface 14 132, 3), (.iload 4, 2), (.iaload, 1), (.iload 3, 1), (.aload 0, 1), (.invokeinterface 14 130, 3), (.iload 4, 2), (.iaload, 1), (.aload 0, 1), (.invokeinterface 14 71, 3), (.iload 3, 1), (.iaload, 1), (.iadd, 1)] (pc' := 304) (S' := ([(5, .int x6), (4, .int x3), (0, .ref 206), (1, .int a1), (2, .int a2), (3, .int a3)], [.int ((m.1 292 (Int32.toNatClampNeg x3)) + (m.1 248 (Int32.toNatClampNeg a3))), .int a3, .int (m.1 294 (Int32.toNatClampNeg x3)), .int (m.1 219 (Int32.toNatClampNeg a3)), .int (m.1 217 (Int32.toNatClampNeg a3)), .ref 206], rf_MM w m)) (by decide +kernel) rfl (by exact ⟨(rf_in_of q9), (rf_in_of q10), (rf_in_of q11), (rf_in_of q12), (rf_in_of q13)⟩) ?_
          obtain ⟨y14, m14, hc14, hg⟩ := rf_b_some hg
          refine rf_calls C rf_fit0 j_X14_rounded (As := [.int ((m.1 292 (Int32.toNatClampNeg x3)) + (m.1 248 (Int32.toNatClampNeg a3)))]) (rest := [.int a3, .int (m.1 294 (Int32.toNatClampNeg x3)), .int (m.1 219 (Int32.toNatClampNeg a3)), .int (m.1 217 (Int32.toNatClampNeg a3)), .ref 206]) mw_X14_rounded (c_X14_rounded hc14) (by decide) lk_14_877 rfl rfl (Nat.le_of_ble_eq_true rfl) (by decide +kernel) ?_
          show rf_V 8 (rf_sh w) K 0 0 307 ([(5, .int x6), (4, .int x3), (0, .ref 206), (1, .int a1), (2, .int a2), (3, .int a3)], [.int y14, .int a3, .int (m.1 294 (Int32.toNatClampNeg x3)), .int (m.1 219 (Int32.toNatClampNeg a3)), .int (m.1 217 (Int32.toNatClampNeg a3)), .ref 206], rf_MM w m14)
          obtain ⟨m15, hc15, hg⟩ := rf_bv_some hg
          refine rf_callv C rf_fit0 j_X14_offers (ci := 14) (As := [.int (m.1 217 (Int32.toNatClampNeg a3)), .int (m.1 219 (Int32.toNatClampNeg a3)), .int (m.1 294 (Int32.toNatClampNeg x3)), .int a3, .int y14]) (rest := []) mw_X14_offers (c_X14_offers hc15) (by decide) rfl (by decide) lk_14_883 rfl rfl (Nat.le_of_ble_eq_true rfl) (by decide +kernel) ?_
          show rf_V 8 (rf_sh w) K 0 0 310 ([(5, .int x6), (4, .int x3), (0, .ref 206), (1, .int a1), (2, .int a2), (3, .int a3)], [], rf_MM w m15)
          refine rf_few [2, 3, 4, 5, 1, 0] rfl ?_
          exact s_X14_norths_310 C hE hr159 hr189 a1 a2 a3 x3 x6 m15 hg
    · replace hg := (if_pos hc).symm.trans hg
      refine rf_goto C 165 373 (by decide +kernel) ?_
      refine rf_few [0, 1, 2, 3] rfl ?_
      exact s_X14_norths_373 C hE hr159 hr189 a1 a2 a3 m hg
theorem s_X14_norths_189 {w : rf_w} {K : rf_K} {r : rf_m} (C : rf_Ctx 14 cX14_norths 8 10 (rf_sh w) K) (hE : rf_End none K (rf_sh w) 0 0 none (rf_MM w r)) {rec159 : Int32 → Int32 → rf_m → Option (rf_m)} (hr159 : ∀ (a1 : Int32) (a2 : Int32) (m : rf_m), rec159 a1 a2 m = some r → rf_V 8 (rf_sh w) K 0 0 159 ([(0, .ref 206), (1, .int a1), (2, .int a2)], [], rf_MM w m)) (n : Nat) : ∀ (a1 : Int32) (a2 : Int32) (a3 : Int32) (m : rf_m), g_X14_norths_189 w rec159 n a1 a2 a3 m = some r → rf_V 8 (rf_sh w) K 0 0 189 ([(0, .ref 206), (1, .int a1), (2, .int a2), (3, .int a3)], [], rf_MM w m) := by
  induction n with
  | zero => intro a1 a2 a3 m hg; cases hg
  | succ n ih => intro a1 a2 a3 m hg; exact s_X14_norths_189_b C hE hr159 ih a1 a2 a3 m hg
theorem s_X14_norths_167_b {w : rf_w} {K : rf_K} {r : rf_m} (C : rf_Ctx 14 cX14_norths 8 10 (rf_sh w) K) (hE : rf_End none K (rf_sh w) 0 0 none (rf_MM w r)) {rec159 : Int32 → Int32 → rf_m → Option (rf_m)} {rec167 : Int32 → Int32 → Int32 → rf_m → Option (rf_m)} (hr159 : ∀ (a1 : Int32) (a2 : Int32) (m : rf_m), rec159 a1 a2 m = some r → rf_V 8 (rf_sh w) K 0 0 159 ([(0, .ref 206), (1, .int a1), (2, .int a2)], [], rf_MM w m)) (hr167 : ∀ (a1 : Int32) (a2 : Int32) (a3 : Int32) (m : rf_m), rec167 a1 a2 a3 m = some r → rf_V 8 (rf_sh w) K 0 0 167 ([(0, .ref 206), (1, .int a1), (2, .int a2), (3, .int a3)], [], rf_MM w m)) (a1 : Int32) (a2 : Int32) (a3 : Int32) (m : rf_m) (hg : g_X14_norths_167_b w rec159 rec167 a1 a2 a3 m = some r) : rf_V 8 (rf_sh w) K 0 0 167 ([(0, .ref 206), (1, .int a1), (2, .int a2), (3, .int a3)], [], rf_MM w m) := by
  unfold g_X14_norths_167_b at hg
  refine rf_seg C [(.iload 3, 1), (.iconst 900, 3)] (pc' := 171) (S' := ([(0, .ref 206), (1, .int a1), (2, .int a2), (3, .int a3)], [.int 900, .int a3], rf_MM w m)) (by decide +kernel) rfl trivial ?_
  refine rf_icmp_ge C 16 187 (by decide +kernel) (fun hc => ?_) (fun hc => ?_)
  · replace hg := (if_pos hc).symm.trans hg
    refine rf_seg C [(.iconst 0, 1), (.istore 3, 1)] (pc' := 189) (S' := ([(3, .int 0), (0, .ref 206), (1, .int a1), (2, .int a2)], [], rf_MM w m)) (by decide +kernel) rfl trivial ?_
    refine rf_few [1, 2, 3, 0] rfl ?_
    exact s_X14_norths_189 C hE hr159 rf_fuel a1 a2 0 m hg
  · replace hg := (if_neg hc).symm.trans hg
    obtain ⟨q0, hg⟩ := rf_g_some hg
    refine rf_seg C [(.aload 0, 1), (.invokeinterface 14 134, 3), (.iload 3, 1), (.iconst (-1), 1), (.iastore, 1), (.iinc 3 1, 3)] (pc' := 184) (S' := ([(3, .int (a3 + 1)), (0, .ref 206), (1, .int a1), (2, .int a2)], [], rf_MM w (rf_i m 296 (Int32.toNatClampNeg a3) ((-1))))) (by decide +kernel) rfl (rf_in_of q0) ?_
    refine rf_goto C (-17) 167 (by decide +kernel) ?_
    refine rf_few [1, 2, 3, 0] rfl ?_
    exact hr167 a1 a2 (a3 + 1) (rf_i m 296 (Int32.toNatClampNeg a3) ((-1))) hg
theorem s_X14_norths_167 {w : rf_w} {K : rf_K} {r : rf_m} (C : rf_Ctx 14 cX14_norths 8 10 (rf_sh w) K) (hE : rf_End none K (rf_sh w) 0 0 none (rf_MM w r)) {rec159 : Int32 → Int32 → rf_m → Option (rf_m)} (hr159 : ∀ (a1 : Int32) (a2 : Int32) (m : rf_m), rec159 a1 a2 m = some r → rf_V 8 (rf_sh w) K 0 0 159 ([(0, .ref 206), (1, .int a1), (2, .int a2)], [], rf_MM w m)) (n : Nat) : ∀ (a1 : Int32) (a2 : Int32) (a3 : Int32) (m : rf_m), g_X14_norths_167 w rec159 n a1 a2 a3 m = some r → rf_V 8 (rf_sh w) K 0 0 167 ([(0, .ref 206), (1, .int a1), (2, .int a2), (3, .int a3)], [], rf_MM w m) := by
  induction n with
  | zero => intro a1 a2 a3 m hg; cases hg
  | succ n ih => intro a1 a2 a3 m hg; exact s_X14_norths_167_b C hE hr159 ih a1 a2 a3 m hg
theorem s_X14_norths_159_b {w : rf_w} {K : rf_K} {r : rf_m} (C : rf_Ctx 14 cX14_norths 8 10 (rf_sh w) K) (hE : rf_End none K (rf_sh w) 0 0 none (rf_MM w r)) {rec159 : Int32 → Int32 → rf_m → Option (rf_m)} (hr159 : ∀ (a1 : Int32) (a2 : Int32) (m : rf_m), rec159 a1 a2 m = some r → rf_V 8 (rf_sh w) K 0 0 159 ([(0, .ref 206), (1, .int a1), (2, .int a2)], [], rf_MM w m)) (a1 : Int32) (a2 : Int32) (m : rf_m) (hg : g_X14_norths_159_b w rec159 a1 a2 m = some r) : rf_V 8 (rf_sh w) K 0 0 159 ([(0, .ref 206), (1, .int a1), (2, .int a2)], [], rf_MM w m) := by
  unfold g_X14_norths_159_b at hg
  refine rf_seg C [(.iload 1, 1)] (pc' := 160) (S' := ([(0, .ref 206), (1, .int a1), (2, .int a2)], [.int a1], rf_MM w m)) (by decide +kernel) rfl trivial ?_
  refine rf_if_eq C 397 557 (by decide +kernel) (fun hc => ?_) (fun hc => ?_)
  · replace hg := (if_pos hc).symm.trans hg
    obtain rfl := Option.some.inj hg
    exact rf_vret C hE (by decide +kernel)
  · replace hg := (if_neg hc).symm.trans hg
    refine rf_seg C [(.iconst 0, 1), (.istore 1, 1), (.iconst 0, 1), (.istore 3, 1)] (pc' := 167) (S' := ([(3, .int 0), (1, .int 0), (0, .ref 206), (2, .int a2)], [], rf_MM w m)) (by decide +kernel) rfl trivial ?_
    refine rf_few [2, 1, 3, 0] rfl ?_
    exact s_X14_norths_167 C hE hr159 rf_fuel 0 a2 0 m hg
theorem s_X14_norths_159 {w : rf_w} {K : rf_K} {r : rf_m} (C : rf_Ctx 14 cX14_norths 8 10 (rf_sh w) K) (hE : rf_End none K (rf_sh w) 0 0 none (rf_MM w r)) (n : Nat) : ∀ (a1 : Int32) (a2 : Int32) (m : rf_m), g_X14_norths_159 w n a1 a2 m = some r → rf_V 8 (rf_sh w) K 0 0 159 ([(0, .ref 206), (1, .int a1), (2, .int a2)], [], rf_MM w m) := by
  induction n with
  | zero => intro a1 a2 m hg; cases hg
  | succ n ih => intro a1 a2 m hg; exact s_X14_norths_159_b C hE ih a1 a2 m hg
theorem s_X14_norths_139 {w : rf_w} {K : rf_K} {r : rf_m} (C : rf_Ctx 14 cX14_norths 8 10 (rf_sh w) K) (hE : rf_End none K (rf_sh w) 0 0 none (rf_MM w r)) {rec2 : Int32 → rf_m → Option (rf_m)} {rec12 : Int32 → Int32 → rf_m → Option (rf_m)} (hr2 : ∀ (a1 : Int32) (m : rf_m), rec2 a1 m = some r → rf_V 8 (rf_sh w) K 0 0 2 ([(0, .ref 206), (1, .int a1)], [], rf_MM w m)) (hr12 : ∀ (a1 : Int32) (a2 : Int32) (m : rf_m), rec12 a1 a2 m = some r → rf_V 8 (rf_sh w) K 0 0 12 ([(0, .ref 206), (1, .int a1), (2, .int a2)], [], rf_MM w m)) (a1 : Int32) (a2 : Int32) (m : rf_m) (hg : g_X14_norths_139 w rec2 rec12 a1 a2 m = some r) : rf_V 8 (rf_sh w) K 0 0 139 ([(0, .ref 206), (1, .int a1), (2, .int a2)], [], rf_MM w m) := by
  unfold g_X14_norths_139 at hg
  refine rf_seg C [(.iinc 2 1, 3)] (pc' := 142) (S' := ([(2, .int (a2 + 1)), (0, .ref 206), (1, .int a1)], [], rf_MM w m)) (by decide +kernel) rfl trivial ?_
  refine rf_goto C (-130) 12 (by decide +kernel) ?_
  refine rf_few [1, 2, 0] rfl ?_
  exact hr12 a1 (a2 + 1) m hg
theorem s_X14_norths_138 {w : rf_w} {K : rf_K} {r : rf_m} (C : rf_Ctx 14 cX14_norths 8 10 (rf_sh w) K) (hE : rf_End none K (rf_sh w) 0 0 none (rf_MM w r)) {rec2 : Int32 → rf_m → Option (rf_m)} {rec12 : Int32 → Int32 → rf_m → Option (rf_m)} (hr2 : ∀ (a1 : Int32) (m : rf_m), rec2 a1 m = some r → rf_V 8 (rf_sh w) K 0 0 2 ([(0, .ref 206), (1, .int a1)], [], rf_MM w m)) (hr12 : ∀ (a1 : Int32) (a2 : Int32) (m : rf_m), rec12 a1 a2 m = some r → rf_V 8 (rf_sh w) K 0 0 12 ([(0, .ref 206), (1, .int a1), (2, .int a2)], [], rf_MM w m)) (a1 : Int32) (a2 : Int32) (s1 : Int32) (s2 : Int32) (m : rf_m) (hg : g_X14_norths_138 w rec2 rec12 a1 a2 s1 s2 m = some r) : rf_V 8 (rf_sh w) K 0 0 138 ([(0, .ref 206), (1, .int a1), (2, .int a2)], [.int s2, .int s1, .ref 294], rf_MM w m) := by
  unfold g_X14_norths_138 at hg
  obtain ⟨q0, hg⟩ := rf_g_some hg
  refine rf_seg C [(.iastore, 1)] (pc' := 139) (S' := ([(0, .ref 206), (1, .int a1), (2, .int a2)], [], rf_MM w (rf_i m 294 (Int32.toNatClampNeg s1) s2))) (by decide +kernel) rfl (rf_in_of q0) ?_
  refine rf_few [0, 1, 2] rfl ?_
  exact s_X14_norths_139 C hE hr2 hr12 a1 a2 (rf_i m 294 (Int32.toNatClampNeg s1) s2) hg
theorem s_X14_norths_120 {w : rf_w} {K : rf_K} {r : rf_m} (C : rf_Ctx 14 cX14_norths 8 10 (rf_sh w) K) (hE : rf_End none K (rf_sh w) 0 0 none (rf_MM w r)) {rec2 : Int32 → rf_m → Option (rf_m)} {rec12 : Int32 → Int32 → rf_m → Option (rf_m)} (hr2 : ∀ (a1 : Int32) (m : rf_m), rec2 a1 m = some r → rf_V 8 (rf_sh w) K 0 0 2 ([(0, .ref 206), (1, .int a1)], [], rf_MM w m)) (hr12 : ∀ (a1 : Int32) (a2 : Int32) (m : rf_m), rec12 a1 a2 m = some r → rf_V 8 (rf_sh w) K 0 0 12 ([(0, .ref 206), (1, .int a1), (2, .int a2)], [], rf_MM w m)) (a1 : Int32) (a2 : Int32) (a3 : Int32) (a4 : Int32) (s1 : Int32) (s2 : Int32) (m : rf_m) (hg : g_X14_norths_120 w rec2 rec12 a1 a2 a3 a4 s1 s2 m = some r) : rf_V 8 (rf_sh w) K 0 0 120 ([(0, .ref 206), (1, .int a1), (2, .int a2), (3, .int a3), (4, .int a4)], [.int s2, .int s1, .ref 292], rf_MM w m) := by
  unfold g_X14_norths_120 at hg
  obtain ⟨q0, hg⟩ := rf_g_some hg
  refine rf_seg C [(.iastore, 1), (.aload 0, 1), (.invokeinterface 14 132, 3), (.iload 3, 1), (.iload 4, 2), (.iconst (-2), 2)] (pc' := 130) (S' := ([(0, .ref 206), (1, .int a1), (2, .int a2), (3, .int a3), (4, .int a4)], [.int ((-2)), .int a4, .int a3, .ref 294], rf_MM w (rf_i m 292 (Int32.toNatClampNeg s1) s2))) (by decide +kernel) rfl (rf_in_of q0) ?_
  refine rf_icmp_eq C 7 137 (by decide +kernel) (fun hc => ?_) (fun hc => ?_)
  · replace hg := (if_pos hc).symm.trans hg
    refine rf_seg C [(.iload 2, 1)] (pc' := 138) (S' := ([(0, .ref 206), (1, .int a1), (2, .int a2), (3, .int a3), (4, .int a4)], [.int a2, .int a3, .ref 294], rf_MM w (rf_i m 292 (Int32.toNatClampNeg s1) s2))) (by decide +kernel) rfl trivial ?_
    refine rf_few [0, 1, 2] rfl ?_
    exact s_X14_norths_138 C hE hr2 hr12 a1 a2 a3 a2 (rf_i m 292 (Int32.toNatClampNeg s1) s2) hg
  · replace hg := (if_neg hc).symm.trans hg
    refine rf_seg C [(.iload 1, 1)] (pc' := 134) (S' := ([(0, .ref 206), (1, .int a1), (2, .int a2), (3, .int a3), (4, .int a4)], [.int a1, .int a3, .ref 294], rf_MM w (rf_i m 292 (Int32.toNatClampNeg s1) s2))) (by decide +kernel) rfl trivial ?_
    refine rf_goto C 4 138 (by decide +kernel) ?_
    refine rf_few [0, 1, 2] rfl ?_
    exact s_X14_norths_138 C hE hr2 hr12 a1 a2 a3 a1 (rf_i m 292 (Int32.toNatClampNeg s1) s2) hg
theorem s_X14_norths_87 {w : rf_w} {K : rf_K} {r : rf_m} (C : rf_Ctx 14 cX14_norths 8 10 (rf_sh w) K) (hE : rf_End none K (rf_sh w) 0 0 none (rf_MM w r)) {rec2 : Int32 → rf_m → Option (rf_m)} {rec12 : Int32 → Int32 → rf_m → Option (rf_m)} (hr2 : ∀ (a1 : Int32) (m : rf_m), rec2 a1 m = some r → rf_V 8 (rf_sh w) K 0 0 2 ([(0, .ref 206), (1, .int a1)], [], rf_MM w m)) (hr12 : ∀ (a1 : Int32) (a2 : Int32) (m : rf_m), rec12 a1 a2 m = some r → rf_V 8 (rf_sh w) K 0 0 12 ([(0, .ref 206), (1, .int a1), (2, .int a2)], [], rf_MM w m)) (a1 : Int32) (a2 : Int32) (a3 : Int32) (a4 : Int32) (a5 : Int32) (m : rf_m) (hg : g_X14_norths_87 w rec2 rec12 a1 a2 a3 a4 a5 m = some r) : rf_V 8 (rf_sh w) K 0 0 87 ([(0, .ref 206), (1, .int a1), (2, .int a2), (3, .int a3), (4, .int a4), (5, .int a5)], [], rf_MM w m) := by
  unfold g_X14_norths_87 at hg
  obtain ⟨q0, hg⟩ := rf_g_some hg
  refine rf_seg C [(.aload 0, 1), (.invokeinterface 14 131, 3), (.iload 3, 1), (.iconst 0, 1), (.iastore, 1), (.aload 0, 1), (.invokeinterface 14 130, 3), (.iload 3, 1), (.iload 4, 2), (.iconst (-2), 2)] (pc' := 103) (S' := ([(0, .ref 206), (1, .int a1), (2, .int a2), (3, .int a3), (4, .int a4), (5, .int a5)], [.int ((-2)), .int a4, .int a3, .ref 292], rf_MM w (rf_i m 293 (Int32.toNatClampNeg a3) 0))) (by decide +kernel) rfl (rf_in_of q0) ?_
  refine rf_icmp_eq C 8 111 (by decide +kernel) (fun hc => ?_) (fun hc => ?_)
  · replace hg := (if_pos hc).symm.trans hg
    refine rf_seg C [(.iload 5, 2), (.iconst 6480000, 3), (.iadd, 1)] (pc' := 117) (S' := ([(0, .ref 206), (1, .int a1), (2, .int a2), (3, .int a3), (4, .int a4), (5, .int a5)], [.int (a5 + 6480000), .int a3, .ref 292], rf_MM w (rf_i m 293 (Int32.toNatClampNeg a3) 0))) (by decide +kernel) rfl trivial ?_
    obtain ⟨y1, m1, hc1, hg⟩ := rf_b_some hg
    refine rf_calls C rf_fit0 j_X14_rounded (As := [.int (a5 + 6480000)]) (rest := [.int a3, .ref 292]) mw_X14_rounded (c_X14_rounded hc1) (by decide) lk_14_877 rfl rfl (Nat.le_of_ble_eq_true rfl) (by decide +kernel) ?_
    show rf_V 8 (rf_sh w) K 0 0 120 ([(0, .ref 206), (1, .int a1), (2, .int a2), (3, .int a3), (4, .int a4), (5, .int a5)], [.int y1, .int a3, .ref 292], rf_MM w m1)
    refine rf_few [0, 1, 2, 3, 4] rfl ?_
    exact s_X14_norths_120 C hE hr2 hr12 a1 a2 a3 a4 a3 y1 m1 hg
  · replace hg := (if_neg hc).symm.trans hg
    refine rf_seg C [(.iload 4, 2)] (pc' := 108) (S' := ([(0, .ref 206), (1, .int a1), (2, .int a2), (3, .int a3), (4, .int a4), (5, .int a5)], [.int a4, .int a3, .ref 292], rf_MM w (rf_i m 293 (Int32.toNatClampNeg a3) 0))) (by decide +kernel) rfl trivial ?_
    refine rf_goto C 12 120 (by decide +kernel) ?_
    refine rf_few [0, 1, 2, 3, 4] rfl ?_
    exact s_X14_norths_120 C hE hr2 hr12 a1 a2 a3 a4 a3 a4 (rf_i m 293 (Int32.toNatClampNeg a3) 0) hg
theorem s_X14_norths_68 {w : rf_w} {K : rf_K} {r : rf_m} (C : rf_Ctx 14 cX14_norths 8 10 (rf_sh w) K) (hE : rf_End none K (rf_sh w) 0 0 none (rf_MM w r)) {rec2 : Int32 → rf_m → Option (rf_m)} {rec12 : Int32 → Int32 → rf_m → Option (rf_m)} (hr2 : ∀ (a1 : Int32) (m : rf_m), rec2 a1 m = some r → rf_V 8 (rf_sh w) K 0 0 2 ([(0, .ref 206), (1, .int a1)], [], rf_MM w m)) (hr12 : ∀ (a1 : Int32) (a2 : Int32) (m : rf_m), rec12 a1 a2 m = some r → rf_V 8 (rf_sh w) K 0 0 12 ([(0, .ref 206), (1, .int a1), (2, .int a2)], [], rf_MM w m)) (a1 : Int32) (a2 : Int32) (a3 : Int32) (a4 : Int32) (s0 : Int32) (m : rf_m) (hg : g_X14_norths_68 w rec2 rec12 a1 a2 a3 a4 s0 m = some r) : rf_V 8 (rf_sh w) K 0 0 68 ([(0, .ref 206), (1, .int a1), (2, .int a2), (3, .int a3), (4, .int a4)], [.int s0], rf_MM w m) := by
  unfold g_X14_norths_68 at hg
  refine rf_seg C [(.istore 5, 2), (.iload 4, 2), (.iconst (-2), 2)] (pc' := 74) (S' := ([(5, .int s0), (0, .ref 206), (1, .int a1), (2, .int a2), (3, .int a3), (4, .int a4)], [.int ((-2)), .int a4], rf_MM w m)) (by decide +kernel) rfl trivial ?_
  refine rf_icmp_ne C 13 87 (by decide +kernel) (fun hc => ?_) (fun hc => ?_)
  · replace hg := (if_neg hc).symm.trans hg
    refine rf_few [1, 2, 3, 4, 5, 0] rfl ?_
    exact s_X14_norths_87 C hE hr2 hr12 a1 a2 a3 a4 s0 m hg
  · replace hg := (if_pos hc).symm.trans hg
    refine rf_seg C [(.iload 5, 2), (.iconst (-2), 2)] (pc' := 81) (S' := ([(5, .int s0), (0, .ref 206), (1, .int a1), (2, .int a2), (3, .int a3), (4, .int a4)], [.int ((-2)), .int s0], rf_MM w m)) (by decide +kernel) rfl trivial ?_
    refine rf_icmp_ne C 6 87 (by decide +kernel) (fun hc => ?_) (fun hc => ?_)
    · replace hg := (if_neg hc).symm.trans hg
      refine rf_few [1, 2, 3, 4, 5, 0] rfl ?_
      exact s_X14_norths_87 C hE hr2 hr12 a1 a2 a3 a4 s0 m hg
    · replace hg := (if_pos hc).symm.trans hg
      refine rf_goto C 55 139 (by decide +kernel) ?_
      refine rf_few [1, 2, 3] rfl ?_
      exact s_X14_norths_139 C hE hr2 hr12 a1 a2 m hg
theorem s_X14_norths_50 {w : rf_w} {K : rf_K} {r : rf_m} (C : rf_Ctx 14 cX14_norths 8 10 (rf_sh w) K) (hE : rf_End none K (rf_sh w) 0 0 none (rf_MM w r)) {rec2 : Int32 → rf_m → Option (rf_m)} {rec12 : Int32 → Int32 → rf_m → Option (rf_m)} (hr2 : ∀ (a1 : Int32) (m : rf_m), rec2 a1 m = some r → rf_V 8 (rf_sh w) K 0 0 2 ([(0, .ref 206), (1, .int a1)], [], rf_MM w m)) (hr12 : ∀ (a1 : Int32) (a2 : Int32) (m : rf_m), rec12 a1 a2 m = some r → rf_V 8 (rf_sh w) K 0 0 12 ([(0, .ref 206), (1, .int a1), (2, .int a2)], [], rf_MM w m)) (a1 : Int32) (a2 : Int32) (a3 : Int32) (s0 : Int32) (m : rf_m) (hg : g_X14_norths_50 w rec2 rec12 a1 a2 a3 s0 m = some r) : rf_V 8 (rf_sh w) K 0 0 50 ([(0, .ref 206), (1, .int a1), (2, .int a2), (3, .int a3)], [.int s0], rf_MM w m) := by
  unfold g_X14_norths_50 at hg
  refine rf_seg C [(.istore 4, 2), (.iload 1, 1), (.iload 2, 1)] (pc' := 54) (S' := ([(4, .int s0), (0, .ref 206), (1, .int a1), (2, .int a2), (3, .int a3)], [.int a2, .int a1], rf_MM w m)) (by decide +kernel) rfl trivial ?_
  refine rf_icmp_ne C 8 62 (by decide +kernel) (fun hc => ?_) (fun hc => ?_)
  · replace hg := (if_neg hc).symm.trans hg
    refine rf_seg C [(.aload 0, 1), (.iload 2, 1), (.iload 1, 1)] (pc' := 65) (S' := ([(4, .int s0), (0, .ref 206), (1, .int a1), (2, .int a2), (3, .int a3)], [.int a1, .int a2, .ref 206], rf_MM w m)) (by decide +kernel) rfl trivial ?_
    obtain ⟨y0, m0, hc0, hg⟩ := rf_b_some hg
    refine rf_callv C rf_fit0 j_X14_ownNorth (ci := 14) (As := [.int a2, .int a1]) (rest := []) mw_X14_ownNorth (c_X14_ownNorth hc0) (by decide) rfl (by decide) lk_14_880 rfl rfl (Nat.le_of_ble_eq_true rfl) (by decide +kernel) ?_
    show rf_V 8 (rf_sh w) K 0 0 68 ([(4, .int s0), (0, .ref 206), (1, .int a1), (2, .int a2), (3, .int a3)], [.int y0], rf_MM w m0)
    refine rf_few [1, 2, 3, 4, 0] rfl ?_
    exact s_X14_norths_68 C hE hr2 hr12 a1 a2 a3 s0 y0 m0 hg
  · replace hg := (if_pos hc).symm.trans hg
    refine rf_seg C [(.iconst (-2), 2)] (pc' := 59) (S' := ([(4, .int s0), (0, .ref 206), (1, .int a1), (2, .int a2), (3, .int a3)], [.int ((-2))], rf_MM w m)) (by decide +kernel) rfl trivial ?_
    refine rf_goto C 9 68 (by decide +kernel) ?_
    refine rf_few [1, 2, 3, 4, 0] rfl ?_
    exact s_X14_norths_68 C hE hr2 hr12 a1 a2 a3 s0 ((-2)) m hg
theorem s_X14_norths_12_b {w : rf_w} {K : rf_K} {r : rf_m} (C : rf_Ctx 14 cX14_norths 8 10 (rf_sh w) K) (hE : rf_End none K (rf_sh w) 0 0 none (rf_MM w r)) {rec2 : Int32 → rf_m → Option (rf_m)} {rec12 : Int32 → Int32 → rf_m → Option (rf_m)} (hr2 : ∀ (a1 : Int32) (m : rf_m), rec2 a1 m = some r → rf_V 8 (rf_sh w) K 0 0 2 ([(0, .ref 206), (1, .int a1)], [], rf_MM w m)) (hr12 : ∀ (a1 : Int32) (a2 : Int32) (m : rf_m), rec12 a1 a2 m = some r → rf_V 8 (rf_sh w) K 0 0 12 ([(0, .ref 206), (1, .int a1), (2, .int a2)], [], rf_MM w m)) (a1 : Int32) (a2 : Int32) (m : rf_m) (hg : g_X14_norths_12_b w rec2 rec12 a1 a2 m = some r) : rf_V 8 (rf_sh w) K 0 0 12 ([(0, .ref 206), (1, .int a1), (2, .int a2)], [], rf_MM w m) := by
  unfold g_X14_norths_12_b at hg
  refine rf_seg C [(.iload 2, 1), (.aload 0, 1), (.invokeinterface 14 4, 3)] (pc' := 17) (S' := ([(0, .ref 206), (1, .int a1), (2, .int a2)], [.int (m.1 206 4), .int a2], rf_MM w m)) (by decide +kernel) rfl trivial ?_
  refine rf_icmp_ge C 128 145 (by decide +kernel) (fun hc => ?_) (fun hc => ?_)
  · replace hg := (if_pos hc).symm.trans hg
    refine rf_seg C [(.iinc 1 1, 3)] (pc' := 148) (S' := ([(1, .int (a1 + 1)), (0, .ref 206), (2, .int a2)], [], rf_MM w m)) (by decide +kernel) rfl trivial ?_
    refine rf_goto C (-146) 2 (by decide +kernel) ?_
    refine rf_few [1, 0] rfl ?_
    exact hr2 (a1 + 1) m hg
  · replace hg := (if_neg hc).symm.trans hg
    obtain ⟨q0, hg⟩ := rf_g_some hg
    refine rf_seg C [(.iconst 30, 2), (.iload 1, 1), (.imul, 1), (.iload 2, 1), (.iadd, 1), (.istore 3, 1), (.aload 0, 1), (.invokeinterface 14 131, 3), (.iload 3, 1), (.iconst (-1), 1), (.iastore, 1), (.iload 1, 1), (.iload 2, 1)] (pc' := 36) (S' := ([(3, .int ((30 * a1) + a2)), (0, .ref 206), (1, .int a1), (2, .int a2)], [.int a2, .int a1], rf_MM w (rf_i m 293 (Int32.toNatClampNeg ((30 * a1) + a2)) ((-1))))) (by decide +kernel) rfl (rf_in_of q0) ?_
    refine rf_icmp_ne C 8 44 (by decide +kernel) (fun hc => ?_) (fun hc => ?_)
    · replace hg := (if_neg hc).symm.trans hg
      refine rf_seg C [(.aload 0, 1), (.iload 1, 1), (.iload 2, 1)] (pc' := 47) (S' := ([(3, .int ((30 * a1) + a2)), (0, .ref 206), (1, .int a1), (2, .int a2)], [.int a2, .int a1, .ref 206], rf_MM w (rf_i m 293 (Int32.toNatClampNeg ((30 * a1) + a2)) ((-1))))) (by decide +kernel) rfl trivial ?_
      obtain ⟨y1, m1, hc1, hg⟩ := rf_b_some hg
      refine rf_callv C rf_fit0 j_X14_ownNorth (ci := 14) (As := [.int a1, .int a2]) (rest := []) mw_X14_ownNorth (c_X14_ownNorth hc1) (by decide) rfl (by decide) lk_14_880 rfl rfl (Nat.le_of_ble_eq_true rfl) (by decide +kernel) ?_
      show rf_V 8 (rf_sh w) K 0 0 50 ([(3, .int ((30 * a1) + a2)), (0, .ref 206), (1, .int a1), (2, .int a2)], [.int y1], rf_MM w m1)
      refine rf_few [1, 2, 3, 0] rfl ?_
      exact s_X14_norths_50 C hE hr2 hr12 a1 a2 ((30 * a1) + a2) y1 m1 hg
    · replace hg := (if_pos hc).symm.trans hg
      refine rf_seg C [(.iconst (-2), 2)] (pc' := 41) (S' := ([(3, .int ((30 * a1) + a2)), (0, .ref 206), (1, .int a1), (2, .int a2)], [.int ((-2))], rf_MM w (rf_i m 293 (Int32.toNatClampNeg ((30 * a1) + a2)) ((-1))))) (by decide +kernel) rfl trivial ?_
      refine rf_goto C 9 50 (by decide +kernel) ?_
      refine rf_few [1, 2, 3, 0] rfl ?_
      exact s_X14_norths_50 C hE hr2 hr12 a1 a2 ((30 * a1) + a2) ((-2)) (rf_i m 293 (Int32.toNatClampNeg ((30 * a1) + a2)) ((-1))) hg
theorem s_X14_norths_12 {w : rf_w} {K : rf_K} {r : rf_m} (C : rf_Ctx 14 cX14_norths 8 10 (rf_sh w) K) (hE : rf_End none K (rf_sh w) 0 0 none (rf_MM w r)) {rec2 : Int32 → rf_m → Option (rf_m)} (hr2 : ∀ (a1 : Int32) (m : rf_m), rec2 a1 m = some r → rf_V 8 (rf_sh w) K 0 0 2 ([(0, .ref 206), (1, .int a1)], [], rf_MM w m)) (n : Nat) : ∀ (a1 : Int32) (a2 : Int32) (m : rf_m), g_X14_norths_12 w rec2 n a1 a2 m = some r → rf_V 8 (rf_sh w) K 0 0 12 ([(0, .ref 206), (1, .int a1), (2, .int a2)], [], rf_MM w m) := by
  induction n with
  | zero => intro a1 a2 m hg; cases hg
  | succ n ih => intro a1 a2 m hg; exact s_X14_norths_12_b C hE hr2 ih a1 a2 m hg
theorem s_X14_norths_2_b {w : rf_w} {K : rf_K} {r : rf_m} (C : rf_Ctx 14 cX14_norths 8 10 (rf_sh w) K) (hE : rf_End none K (rf_sh w) 0 0 none (rf_MM w r)) {rec2 : Int32 → rf_m → Option (rf_m)} (hr2 : ∀ (a1 : Int32) (m : rf_m), rec2 a1 m = some r → rf_V 8 (rf_sh w) K 0 0 2 ([(0, .ref 206), (1, .int a1)], [], rf_MM w m)) (a1 : Int32) (m : rf_m) (hg : g_X14_norths_2_b w rec2 a1 m = some r) : rf_V 8 (rf_sh w) K 0 0 2 ([(0, .ref 206), (1, .int a1)], [], rf_MM w m) := by
  unfold g_X14_norths_2_b at hg
  refine rf_seg C [(.iload 1, 1), (.aload 0, 1), (.invokeinterface 14 4, 3)] (pc' := 7) (S' := ([(0, .ref 206), (1, .int a1)], [.int (m.1 206 4), .int a1], rf_MM w m)) (by decide +kernel) rfl trivial ?_
  refine rf_icmp_ge C 144 151 (by decide +kernel) (fun hc => ?_) (fun hc => ?_)
  · replace hg := (if_pos hc).symm.trans hg
    refine rf_seg C [(.aload 0, 1)] (pc' := 152) (S' := ([(0, .ref 206), (1, .int a1)], [.ref 206], rf_MM w m)) (by decide +kernel) rfl trivial ?_
    obtain ⟨m0, hc0, hg⟩ := rf_bv_some hg
    refine rf_callv C rf_fit0 j_X14_allMeans (ci := 14) (As := []) (rest := []) mw_X14_allMeans (c_X14_allMeans hc0) (by decide) rfl (by decide) lk_14_713 rfl rfl (Nat.le_of_ble_eq_true rfl) (by decide +kernel) ?_
    show rf_V 8 (rf_sh w) K 0 0 155 ([(0, .ref 206), (1, .int a1)], [], rf_MM w m0)
    refine rf_seg C [(.iconst 1, 1), (.istore 1, 1), (.iconst 0, 1), (.istore 2, 1)] (pc' := 159) (S' := ([(2, .int 0), (1, .int 1), (0, .ref 206)], [], rf_MM w m0)) (by decide +kernel) rfl trivial ?_
    refine rf_few [2, 1, 0] rfl ?_
    exact s_X14_norths_159 C hE rf_fuel 1 0 m0 hg
  · replace hg := (if_neg hc).symm.trans hg
    refine rf_seg C [(.iconst 0, 1), (.istore 2, 1)] (pc' := 12) (S' := ([(2, .int 0), (0, .ref 206), (1, .int a1)], [], rf_MM w m)) (by decide +kernel) rfl trivial ?_
    refine rf_few [1, 2, 0] rfl ?_
    exact s_X14_norths_12 C hE hr2 rf_fuel a1 0 m hg
theorem s_X14_norths_2 {w : rf_w} {K : rf_K} {r : rf_m} (C : rf_Ctx 14 cX14_norths 8 10 (rf_sh w) K) (hE : rf_End none K (rf_sh w) 0 0 none (rf_MM w r)) (n : Nat) : ∀ (a1 : Int32) (m : rf_m), g_X14_norths_2 w n a1 m = some r → rf_V 8 (rf_sh w) K 0 0 2 ([(0, .ref 206), (1, .int a1)], [], rf_MM w m) := by
  induction n with
  | zero => intro a1 m hg; cases hg
  | succ n ih => intro a1 m hg; exact s_X14_norths_2_b C hE ih a1 m hg
theorem c_X14_norths {w : rf_w} {m : rf_m} {r : rf_m} (hg : g_X14_norths w m = some r) : rf_Con j_X14_norths 10 (rf_sh w) [.ref 206] (rf_MM w m) none (rf_MM w r) := by
  refine rf_con j_X14_norths 10 ⟨by decide +kernel, rfl, Nat.le_of_ble_eq_true rfl⟩ (fun K C hE => ?_)
  unfold g_X14_norths at hg
  show rf_V 8 (rf_sh w) K 0 0 0 ([(0, .ref 206)], [], rf_MM w m)
  refine rf_seg C [(.iconst 0, 1), (.istore 1, 1)] (pc' := 2) (S' := ([(1, .int 0), (0, .ref 206)], [], rf_MM w m)) (by decide +kernel) rfl trivial ?_
  refine rf_few [1, 0] rfl ?_
  exact s_X14_norths_2 C hE rf_fuel 0 m hg
-- X14_north
abbrev j_X14_north : rf_J := (14, yX14_north, cX14_north, 3, (some .int))
theorem mw_X14_north : rf_mv j_X14_north (rf_R 14) 2 := ⟨⟨rf_mem 90 (by decide +kernel), rf_mem 90 (by decide +kernel), rf_mem 0 (by decide +kernel), rf_mem 90 (by decide +kernel)⟩, by decide +kernel, by decide⟩
def g_X14_north (w : rf_w) (m : rf_m) (a1 : Int32) (a2 : Int32) : Option (Int32 × rf_m) := rf_b (g_X14_isMark w (rf_i m 206 0 0) a1) fun y0 m0 => (if y0 = 0 then some ((-1), m0) else rf_b (g_X14_isMark w m0 a2) fun y1 m1 => (if y1 = 0 then some ((-1), m1) else (if a1 = a2 then some ((-1), m1) else rf_bv (g_X14_norths w m1) fun m2 => rf_g (rf_in ((30 * a1) + a2) 900) ((if (m2.1 293 (Int32.toNatClampNeg ((30 * a1) + a2))) = ((-1)) then some ((-2), m2) else rf_g (rf_in ((30 * a1) + a2) 900) (some (m2.1 292 (Int32.toNatClampNeg ((30 * a1) + a2)), m2)))))))
theorem c_X14_north {w : rf_w} {m : rf_m} {a1 : Int32} {a2 : Int32} {r : Int32 × rf_m} (hg : g_X14_north w m a1 a2 = some r) : rf_Con j_X14_north 11 (rf_sh w) [.ref 206, .int a1, .int a2] (rf_MM w m) (some (.int r.1)) (rf_MM w r.2) := by
  refine rf_con j_X14_north 11 ⟨by decide +kernel, rfl, Nat.le_of_ble_eq_true rfl⟩ (fun K C hE => ?_)
  unfold g_X14_north at hg
  show rf_V 3 (rf_sh w) K 0 0 0 ([(0, .ref 206), (1, .int a1), (2, .int a2)], [], rf_MM w m)
  refine rf_seg C [(.aload 0, 1), (.iconst 0, 1), (.multianewarray 14 0, 3), (.aload 0, 1), (.iload 1, 1)] (pc' := 7) (S' := ([(0, .ref 206), (1, .int a1), (2, .int a2)], [.int a1, .ref 206], rf_MM w (rf_i m 206 0 0))) (by decide +kernel) rfl trivial ?_
  obtain ⟨y0, m0, hc0, hg⟩ := rf_b_some hg
  refine rf_callv C rf_fit0 j_X14_isMark (ci := 14) (As := [.int a1]) (rest := []) mw_X14_isMark (c_X14_isMark hc0) (by decide) rfl (by decide) lk_14_360 rfl rfl (Nat.le_of_ble_eq_true rfl) (by decide +kernel) ?_
  show rf_V 3 (rf_sh w) K 0 0 10 ([(0, .ref 206), (1, .int a1), (2, .int a2)], [.int y0], rf_MM w m0)
  refine rf_if_eq C 16 26 (by decide +kernel) (fun hc => ?_) (fun hc => ?_)
  · replace hg := (if_pos hc).symm.trans hg
    refine rf_seg C [(.iconst (-1), 1)] (pc' := 27) (S' := ([(0, .ref 206), (1, .int a1), (2, .int a2)], [.int ((-1))], rf_MM w m0)) (by decide +kernel) rfl trivial ?_
    obtain rfl := Option.some.inj hg
    exact rf_iret C hE (by decide +kernel)
  · replace hg := (if_neg hc).symm.trans hg
    refine rf_seg C [(.aload 0, 1), (.iload 2, 1)] (pc' := 15) (S' := ([(0, .ref 206), (1, .int a1), (2, .int a2)], [.int a2, .ref 206], rf_MM w m0)) (by decide +kernel) rfl trivial ?_
    obtain ⟨y1, m1, hc1, hg⟩ := rf_b_some hg
    refine rf_callv C rf_fit0 j_X14_isMark (ci := 14) (As := [.int a2]) (rest := []) mw_X14_isMark (c_X14_isMark hc1) (by decide) rfl (by decide) lk_14_360 rfl rfl (Nat.le_of_ble_eq_true rfl) (by decide +kernel) ?_
    show rf_V 3 (rf_sh w) K 0 0 18 ([(0, .ref 206), (1, .int a1), (2, .int a2)], [.int y1], rf_MM w m1)
    refine rf_if_eq C 8 26 (by decide +kernel) (fun hc => ?_) (fun hc => ?_)
    · replace hg := (if_pos hc).symm.trans hg
      refine rf_seg C [(.iconst (-1), 1)] (pc' := 27) (S' := ([(0, .ref 206), (1, .int a1), (2, .int a2)], [.int ((-1))], rf_MM w m1)) (by decide +kernel) rfl trivial ?_
      obtain rfl := Option.some.inj hg
      exact rf_iret C hE (by decide +kernel)
    · replace hg := (if_neg hc).symm.trans hg
      refine rf_seg C [(.iload 1, 1), (.iload 2, 1)] (pc' := 23) (S' := ([(0, .ref 206), (1, .int a1), (2, .int a2)], [.int a2, .int a1], rf_MM w m1)) (by decide +kernel) rfl trivial ?_
      refine rf_icmp_ne C 5 28 (by decide +kernel) (fun hc => ?_) (fun hc => ?_)
      · replace hg := (if_neg hc).symm.trans hg
        refine rf_seg C [(.aload 0, 1)] (pc' := 29) (S' := ([(0, .ref 206), (1, .int a1), (2, .int a2)], [.ref 206], rf_MM w m1)) (by decide +kernel) rfl trivial ?_
        obtain ⟨m2, hc2, hg⟩ := rf_bv_some hg
        refine rf_callv C rf_fit0 j_X14_norths (ci := 14) (As := []) (rest := []) mw_X14_norths (c_X14_norths hc2) (by decide) rfl (by decide) lk_14_890 rfl rfl (Nat.le_of_ble_eq_true rfl) (by decide +kernel) ?_
        show rf_V 3 (rf_sh w) K 0 0 32 ([(0, .ref 206), (1, .int a1), (2, .int a2)], [], rf_MM w m2)
        obtain ⟨q3, hg⟩ := rf_g_some hg
        refine rf_seg C [(.aload 0, 1), (.invokeinterface 14 131, 3), (.iconst 30, 2), (.iload 1, 1), (.imul, 1), (.iload 2, 1), (.iadd, 1), (.iaload, 1), (.iconst (-1), 1)] (pc' := 44) (S' := ([(0, .ref 206), (1, .int a1), (2, .int a2)], [.int ((-1)), .int (m2.1 293 (Int32.toNatClampNeg ((30 * a1) + a2)))], rf_MM w m2)) (by decide +kernel) rfl (rf_in_of q3) ?_
        refine rf_icmp_ne C 8 52 (by decide +kernel) (fun hc => ?_) (fun hc => ?_)
        · replace hg := (if_neg hc).symm.trans hg
          obtain ⟨q4, hg⟩ := rf_g_some hg
          refine rf_seg C [(.aload 0, 1), (.invokeinterface 14 130, 3), (.iconst 30, 2), (.iload 1, 1), (.imul, 1), (.iload 2, 1), (.iadd, 1), (.iaload, 1)] (pc' := 63) (S' := ([(0, .ref 206), (1, .int a1), (2, .int a2)], [.int (m2.1 292 (Int32.toNatClampNeg ((30 * a1) + a2)))], rf_MM w m2)) (by decide +kernel) rfl (rf_in_of q4) ?_
          obtain rfl := Option.some.inj hg
          exact rf_iret C hE (by decide +kernel)
        · replace hg := (if_pos hc).symm.trans hg
          refine rf_seg C [(.iconst (-2), 2)] (pc' := 49) (S' := ([(0, .ref 206), (1, .int a1), (2, .int a2)], [.int ((-2))], rf_MM w m2)) (by decide +kernel) rfl trivial ?_
          refine rf_goto C 14 63 (by decide +kernel) ?_
          obtain rfl := Option.some.inj hg
          exact rf_iret C hE (by decide +kernel)
      · replace hg := (if_pos hc).symm.trans hg
        refine rf_seg C [(.iconst (-1), 1)] (pc' := 27) (S' := ([(0, .ref 206), (1, .int a1), (2, .int a2)], [.int ((-1))], rf_MM w m1)) (by decide +kernel) rfl trivial ?_
        obtain rfl := Option.some.inj hg
        exact rf_iret C hE (by decide +kernel)
-- X14_steps
abbrev j_X14_steps : rf_J := (14, yX14_steps, cX14_steps, 3, (some .int))
theorem mw_X14_steps : rf_mv j_X14_steps (rf_R 14) 2 := ⟨⟨rf_mem 91 (by decide +kernel), rf_mem 91 (by decide +kernel), rf_mem 0 (by decide +kernel), rf_mem 91 (by decide +kernel)⟩, by decide +kernel, by decide⟩
def g_X14_steps (w : rf_w) (m : rf_m) (a1 : Int32) (a2 : Int32) : Option (Int32 × rf_m) := rf_b (g_X14_isMark w (rf_i m 206 0 0) a1) fun y0 m0 => (if y0 = 0 then some ((-1), m0) else rf_b (g_X14_isMark w m0 a2) fun y1 m1 => (if y1 = 0 then some ((-1), m1) else (if a1 = a2 then some ((-1), m1) else rf_bv (g_X14_norths w m1) fun m2 => rf_g (rf_in ((30 * a1) + a2) 900) ((if (m2.1 293 (Int32.toNatClampNeg ((30 * a1) + a2))) = ((-1)) then some ((-2), m2) else rf_g (rf_in ((30 * a1) + a2) 900) (some (m2.1 293 (Int32.toNatClampNeg ((30 * a1) + a2)), m2)))))))
theorem c_X14_steps {w : rf_w} {m : rf_m} {a1 : Int32} {a2 : Int32} {r : Int32 × rf_m} (hg : g_X14_steps w m a1 a2 = some r) : rf_Con j_X14_steps 11 (rf_sh w) [.ref 206, .int a1, .int a2] (rf_MM w m) (some (.int r.1)) (rf_MM w r.2) := by
  refine rf_con j_X14_steps 11 ⟨by decide +kernel, rfl, Nat.le_of_ble_eq_true rfl⟩ (fun K C hE => ?_)
  unfold g_X14_steps at hg
  show rf_V 3 (rf_sh w) K 0 0 0 ([(0, .ref 206), (1, .int a1), (2, .int a2)], [], rf_MM w m)
  refine rf_seg C [(.aload 0, 1), (.iconst 0, 1), (.multianewarray 14 0, 3), (.aload 0, 1), (.iload 1, 1)] (pc' := 7) (S' := ([(0, .ref 206), (1, .int a1), (2, .int a2)], [.int a1, .ref 206], rf_MM w (rf_i m 206 0 0))) (by decide +kernel) rfl trivial ?_
  obtain ⟨y0, m0, hc0, hg⟩ := rf_b_some hg
  refine rf_callv C rf_fit0 j_X14_isMark (ci := 14) (As := [.int a1]) (rest := []) mw_X14_isMark (c_X14_isMark hc0) (by decide) rfl (by decide) lk_14_360 rfl rfl (Nat.le_of_ble_eq_true rfl) (by decide +kernel) ?_
  show rf_V 3 (rf_sh w) K 0 0 10 ([(0, .ref 206), (1, .int a1), (2, .int a2)], [.int y0], rf_MM w m0)
  refine rf_if_eq C 16 26 (by decide +kernel) (fun hc => ?_) (fun hc => ?_)
  · replace hg := (if_pos hc).symm.trans hg
    refine rf_seg C [(.iconst (-1), 1)] (pc' := 27) (S' := ([(0, .ref 206), (1, .int a1), (2, .int a2)], [.int ((-1))], rf_MM w m0)) (by decide +kernel) rfl trivial ?_
    obtain rfl := Option.some.inj hg
    exact rf_iret C hE (by decide +kernel)
  · replace hg := (if_neg hc).symm.trans hg
    refine rf_seg C [(.aload 0, 1), (.iload 2, 1)] (pc' := 15) (S' := ([(0, .ref 206), (1, .int a1), (2, .int a2)], [.int a2, .ref 206], rf_MM w m0)) (by decide +kernel) rfl trivial ?_
    obtain ⟨y1, m1, hc1, hg⟩ := rf_b_some hg
    refine rf_callv C rf_fit0 j_X14_isMark (ci := 14) (As := [.int a2]) (rest := []) mw_X14_isMark (c_X14_isMark hc1) (by decide) rfl (by decide) lk_14_360 rfl rfl (Nat.le_of_ble_eq_true rfl) (by decide +kernel) ?_
    show rf_V 3 (rf_sh w) K 0 0 18 ([(0, .ref 206), (1, .int a1), (2, .int a2)], [.int y1], rf_MM w m1)
    refine rf_if_eq C 8 26 (by decide +kernel) (fun hc => ?_) (fun hc => ?_)
    · replace hg := (if_pos hc).symm.trans hg
      refine rf_seg C [(.iconst (-1), 1)] (pc' := 27) (S' := ([(0, .ref 206), (1, .int a1), (2, .int a2)], [.int ((-1))], rf_MM w m1)) (by decide +kernel) rfl trivial ?_
      obtain rfl := Option.some.inj hg
      exact rf_iret C hE (by decide +kernel)
    · replace hg := (if_neg hc).symm.trans hg
      refine rf_seg C [(.iload 1, 1), (.iload 2, 1)] (pc' := 23) (S' := ([(0, .ref 206), (1, .int a1), (2, .int a2)], [.int a2, .int a1], rf_MM w m1)) (by decide +kernel) rfl trivial ?_
      refine rf_icmp_ne C 5 28 (by decide +kernel) (fun hc => ?_) (fun hc => ?_)
      · replace hg := (if_neg hc).symm.trans hg
        refine rf_seg C [(.aload 0, 1)] (pc' := 29) (S' := ([(0, .ref 206), (1, .int a1), (2, .int a2)], [.ref 206], rf_MM w m1)) (by decide +kernel) rfl trivial ?_
        obtain ⟨m2, hc2, hg⟩ := rf_bv_some hg
        refine rf_callv C rf_fit0 j_X14_norths (ci := 14) (As := []) (rest := []) mw_X14_norths (c_X14_norths hc2) (by decide) rfl (by decide) lk_14_890 rfl rfl (Nat.le_of_ble_eq_true rfl) (by decide +kernel) ?_
        show rf_V 3 (rf_sh w) K 0 0 32 ([(0, .ref 206), (1, .int a1), (2, .int a2)], [], rf_MM w m2)
        obtain ⟨q3, hg⟩ := rf_g_some hg
        refine rf_seg C [(.aload 0, 1), (.invokeinterface 14 131, 3), (.iconst 30, 2), (.iload 1, 1), (.imul, 1), (.iload 2, 1), (.iadd, 1), (.iaload, 1), (.iconst (-1), 1)] (pc' := 44) (S' := ([(0, .ref 206), (1, .int a1), (2, .int a2)], [.int ((-1)), .int (m2.1 293 (Int32.toNatClampNeg ((30 * a1) + a2)))], rf_MM w m2)) (by decide +kernel) rfl (rf_in_of q3) ?_
        refine rf_icmp_ne C 8 52 (by decide +kernel) (fun hc => ?_) (fun hc => ?_)
        · replace hg := (if_neg hc).symm.trans hg
          obtain ⟨q4, hg⟩ := rf_g_some hg
          refine rf_seg C [(.aload 0, 1), (.invokeinterface 14 131, 3), (.iconst 30, 2), (.iload 1, 1), (.imul, 1), (.iload 2, 1), (.iadd, 1), (.iaload, 1)] (pc' := 63) (S' := ([(0, .ref 206), (1, .int a1), (2, .int a2)], [.int (m2.1 293 (Int32.toNatClampNeg ((30 * a1) + a2)))], rf_MM w m2)) (by decide +kernel) rfl (rf_in_of q4) ?_
          obtain rfl := Option.some.inj hg
          exact rf_iret C hE (by decide +kernel)
        · replace hg := (if_pos hc).symm.trans hg
          refine rf_seg C [(.iconst (-2), 2)] (pc' := 49) (S' := ([(0, .ref 206), (1, .int a1), (2, .int a2)], [.int ((-2))], rf_MM w m2)) (by decide +kernel) rfl trivial ?_
          refine rf_goto C 14 63 (by decide +kernel) ?_
          obtain rfl := Option.some.inj hg
          exact rf_iret C hE (by decide +kernel)
      · replace hg := (if_pos hc).symm.trans hg
        refine rf_seg C [(.iconst (-1), 1)] (pc' := 27) (S' := ([(0, .ref 206), (1, .int a1), (2, .int a2)], [.int ((-1))], rf_MM w m1)) (by decide +kernel) rfl trivial ?_
        obtain rfl := Option.some.inj hg
        exact rf_iret C hE (by decide +kernel)
-- X14_level
abbrev j_X14_level : rf_J := (14, yX14_level, cX14_level, 5, (some .int))
theorem mw_X14_level : rf_mv j_X14_level (rf_R 14) 4 := ⟨⟨rf_mem 92 (by decide +kernel), rf_mem 92 (by decide +kernel), rf_mem 0 (by decide +kernel), rf_mem 92 (by decide +kernel)⟩, by decide +kernel, by decide⟩
def g_X14_level (w : rf_w) (m : rf_m) (a1 : Int32) (a2 : Int32) (a3 : Int32) (a4 : Int32) : Option (Int32 × rf_m) := rf_b (g_X14_isMark w (rf_i m 206 0 0) a1) fun y0 m0 => (if y0 = 0 then rf_b (g_X14_refused w m0 1) fun y1 m1 => some (y1, m1) else rf_b (g_X14_isMark w m0 a2) fun y2 m2 => (if y2 = 0 then rf_b (g_X14_refused w m2 1) fun y3 m3 => some (y3, m3) else (if a1 = a2 then rf_b (g_X14_refused w m2 1) fun y13 m13 => some (y13, m13) else rf_b (g_X14_in w m2 a3 ((-1000000)) 1000000) fun y4 m4 => (if y4 = 0 then rf_b (g_X14_refused w m4 2) fun y5 m5 => some (y5, m5) else rf_b (g_X14_isHour w m4 a4) fun y6 m6 => (if y6 = 0 then rf_b (g_X14_refused w m6 2) fun y12 m12 => some (y12, m12) else (if (m6.1 206 136) = 60 then rf_b (g_X14_refused w m6 3) fun y11 m11 => some (y11, m11) else rf_g (rf_in (m6.1 206 136) 60) (rf_g (rf_in ((rf_i m6 298 (Int32.toNatClampNeg (m6.1 206 136)) a1).1 206 136) 60) (rf_g (rf_in ((rf_i (rf_i m6 298 (Int32.toNatClampNeg (m6.1 206 136)) a1) 299 (Int32.toNatClampNeg ((rf_i m6 298 (Int32.toNatClampNeg (m6.1 206 136)) a1).1 206 136)) a2).1 206 136) 60) (rf_b (g_X14_done w (rf_i (rf_i (rf_i (rf_i m6 298 (Int32.toNatClampNeg (m6.1 206 136)) a1) 299 (Int32.toNatClampNeg ((rf_i m6 298 (Int32.toNatClampNeg (m6.1 206 136)) a1).1 206 136)) a2) 300 (Int32.toNatClampNeg ((rf_i (rf_i m6 298 (Int32.toNatClampNeg (m6.1 206 136)) a1) 299 (Int32.toNatClampNeg ((rf_i m6 298 (Int32.toNatClampNeg (m6.1 206 136)) a1).1 206 136)) a2).1 206 136)) a3) 206 136 (((rf_i (rf_i (rf_i m6 298 (Int32.toNatClampNeg (m6.1 206 136)) a1) 299 (Int32.toNatClampNeg ((rf_i m6 298 (Int32.toNatClampNeg (m6.1 206 136)) a1).1 206 136)) a2) 300 (Int32.toNatClampNeg ((rf_i (rf_i m6 298 (Int32.toNatClampNeg (m6.1 206 136)) a1) 299 (Int32.toNatClampNeg ((rf_i m6 298 (Int32.toNatClampNeg (m6.1 206 136)) a1).1 206 136)) a2).1 206 136)) a3).1 206 136) + 1)) (((rf_i (rf_i (rf_i (rf_i m6 298 (Int32.toNatClampNeg (m6.1 206 136)) a1) 299 (Int32.toNatClampNeg ((rf_i m6 298 (Int32.toNatClampNeg (m6.1 206 136)) a1).1 206 136)) a2) 300 (Int32.toNatClampNeg ((rf_i (rf_i m6 298 (Int32.toNatClampNeg (m6.1 206 136)) a1) 299 (Int32.toNatClampNeg ((rf_i m6 298 (Int32.toNatClampNeg (m6.1 206 136)) a1).1 206 136)) a2).1 206 136)) a3) 206 136 (((rf_i (rf_i (rf_i m6 298 (Int32.toNatClampNeg (m6.1 206 136)) a1) 299 (Int32.toNatClampNeg ((rf_i m6 298 (Int32.toNatClampNeg (m6.1 206 136)) a1).1 206 136)) a2) 300 (Int32.toNatClampNeg ((rf_i (rf_i m6 298 (Int32.toNatClampNeg (m6.1 206 136)) a1) 299 (Int32.toNatClampNeg ((rf_i m6 298 (Int32.toNatClampNeg (m6.1 206 136)) a1).1 206 136)) a2).1 206 136)) a3).1 206 136) + 1)).1 206 136) - 1)) fun y10 m10 => some (y10, m10))))))))))
theorem c_X14_level {w : rf_w} {m : rf_m} {a1 : Int32} {a2 : Int32} {a3 : Int32} {a4 : Int32} {r : Int32 × rf_m} (hg : g_X14_level w m a1 a2 a3 a4 = some r) : rf_Con j_X14_level 2 (rf_sh w) [.ref 206, .int a1, .int a2, .int a3, .int a4] (rf_MM w m) (some (.int r.1)) (rf_MM w r.2) := by
  refine rf_con j_X14_level 2 ⟨by decide +kernel, rfl, Nat.le_of_ble_eq_true rfl⟩ (fun K C hE => ?_)
  unfold g_X14_level at hg
  show rf_V 5 (rf_sh w) K 0 0 0 ([(0, .ref 206), (1, .int a1), (2, .int a2), (3, .int a3), (4, .int a4)], [], rf_MM w m)
  refine rf_seg C [(.aload 0, 1), (.iconst 0, 1), (.multianewarray 14 0, 3), (.aload 0, 1), (.iload 1, 1)] (pc' := 7) (S' := ([(0, .ref 206), (1, .int a1), (2, .int a2), (3, .int a3), (4, .int a4)], [.int a1, .ref 206], rf_MM w (rf_i m 206 0 0))) (by decide +kernel) rfl trivial ?_
  obtain ⟨y0, m0, hc0, hg⟩ := rf_b_some hg
  refine rf_callv C rf_fit0 j_X14_isMark (ci := 14) (As := [.int a1]) (rest := []) mw_X14_isMark (c_X14_isMark hc0) (by decide) rfl (by decide) lk_14_360 rfl rfl (Nat.le_of_ble_eq_true rfl) (by decide +kernel) ?_
  show rf_V 5 (rf_sh w) K 0 0 10 ([(0, .ref 206), (1, .int a1), (2, .int a2), (3, .int a3), (4, .int a4)], [.int y0], rf_MM w m0)
  refine rf_if_eq C 16 26 (by decide +kernel) (fun hc => ?_) (fun hc => ?_)
  · replace hg := (if_pos hc).symm.trans hg
    refine rf_seg C [(.aload 0, 1), (.iconst 1, 1)] (pc' := 28) (S' := ([(0, .ref 206), (1, .int a1), (2, .int a2), (3, .int a3), (4, .int a4)], [.int 1, .ref 206], rf_MM w m0)) (by decide +kernel) rfl trivial ?_
    obtain ⟨y1, m1, hc1, hg⟩ := rf_b_some hg
    refine rf_callv C rf_fit0 j_X14_refused (ci := 14) (As := [.int 1]) (rest := []) mw_X14_refused (c_X14_refused hc1) (by decide) rfl (by decide) lk_14_353 rfl rfl (Nat.le_of_ble_eq_true rfl) (by decide +kernel) ?_
    show rf_V 5 (rf_sh w) K 0 0 31 ([(0, .ref 206), (1, .int a1), (2, .int a2), (3, .int a3), (4, .int a4)], [.int y1], rf_MM w m1)
    obtain rfl := Option.some.inj hg
    exact rf_iret C hE (by decide +kernel)
  · replace hg := (if_neg hc).symm.trans hg
    refine rf_seg C [(.aload 0, 1), (.iload 2, 1)] (pc' := 15) (S' := ([(0, .ref 206), (1, .int a1), (2, .int a2), (3, .int a3), (4, .int a4)], [.int a2, .ref 206], rf_MM w m0)) (by decide +kernel) rfl trivial ?_
    obtain ⟨y2, m2, hc2, hg⟩ := rf_b_some hg
    refine rf_callv C rf_fit0 j_X14_isMark (ci := 14) (As := [.int a2]) (rest := []) mw_X14_isMark (c_X14_isMark hc2) (by decide) rfl (by decide) lk_14_360 rfl rfl (Nat.le_of_ble_eq_true rfl) (by decide +kernel) ?_
    show rf_V 5 (rf_sh w) K 0 0 18 ([(0, .ref 206), (1, .int a1), (2, .int a2), (3, .int a3), (4, .int a4)], [.int y2], rf_MM w m2)
    refine rf_if_eq C 8 26 (by decide +kernel) (fun hc => ?_) (fun hc => ?_)
    · replace hg := (if_pos hc).symm.trans hg
      refine rf_seg C [(.aload 0, 1), (.iconst 1, 1)] (pc' := 28) (S' := ([(0, .ref 206), (1, .int a1), (2, .int a2), (3, .int a3), (4, .int a4)], [.int 1, .ref 206], rf_MM w m2)) (by decide +kernel) rfl trivial ?_
      obtain ⟨y3, m3, hc3, hg⟩ := rf_b_some hg
      refine rf_callv C rf_fit0 j_X14_refused (ci := 14) (As := [.int 1]) (rest := []) mw_X14_refused (c_X14_refused hc3) (by decide) rfl (by decide) lk_14_353 rfl rfl (Nat.le_of_ble_eq_true rfl) (by decide +kernel) ?_
      show rf_V 5 (rf_sh w) K 0 0 31 ([(0, .ref 206), (1, .int a1), (2, .int a2), (3, .int a3), (4, .int a4)], [.int y3], rf_MM w m3)
      obtain rfl := Option.some.inj hg
      exact rf_iret C hE (by decide +kernel)
    · replace hg := (if_neg hc).symm.trans hg
      refine rf_seg C [(.iload 1, 1), (.iload 2, 1)] (pc' := 23) (S' := ([(0, .ref 206), (1, .int a1), (2, .int a2), (3, .int a3), (4, .int a4)], [.int a2, .int a1], rf_MM w m2)) (by decide +kernel) rfl trivial ?_
      refine rf_icmp_ne C 9 32 (by decide +kernel) (fun hc => ?_) (fun hc => ?_)
      · replace hg := (if_neg hc).symm.trans hg
        refine rf_seg C [(.iload 3, 1), (.iconst (-1000000), 3), (.iconst 1000000, 3)] (pc' := 39) (S' := ([(0, .ref 206), (1, .int a1), (2, .int a2), (3, .int a3), (4, .int a4)], [.int 1000000, .int ((-1000000)), .int a3], rf_MM w m2)) (by decide +kernel) rfl trivial ?_
        obtain ⟨y4, m4, hc4, hg⟩ := rf_b_some hg
        refine rf_calls C rf_fit0 j_X14_in (As := [.int a3, .int ((-1000000)), .int 1000000]) (rest := []) mw_X14_in (c_X14_in hc4) (by decide) lk_14_345 rfl rfl (Nat.le_of_ble_eq_true rfl) (by decide +kernel) ?_
        show rf_V 5 (rf_sh w) K 0 0 42 ([(0, .ref 206), (1, .int a1), (2, .int a2), (3, .int a3), (4, .int a4)], [.int y4], rf_MM w m4)
        refine rf_if_eq C 11 53 (by decide +kernel) (fun hc => ?_) (fun hc => ?_)
        · replace hg := (if_pos hc).symm.trans hg
          refine rf_seg C [(.aload 0, 1), (.iconst 2, 1)] (pc' := 55) (S' := ([(0, .ref 206), (1, .int a1), (2, .int a2), (3, .int a3), (4, .int a4)], [.int 2, .ref 206], rf_MM w m4)) (by decide +kernel) rfl trivial ?_
          obtain ⟨y5, m5, hc5, hg⟩ := rf_b_some hg
          refine rf_callv C rf_fit0 j_X14_refused (ci := 14) (As := [.int 2]) (rest := []) mw_X14_refused (c_X14_refused hc5) (by decide) rfl (by decide) lk_14_353 rfl rfl (Nat.le_of_ble_eq_true rfl) (by decide +kernel) ?_
          show rf_V 5 (rf_sh w) K 0 0 58 ([(0, .ref 206), (1, .int a1), (2, .int a2), (3, .int a3), (4, .int a4)], [.int y5], rf_MM w m5)
          obtain rfl := Option.some.inj hg
          exact rf_iret C hE (by decide +kernel)
        · replace hg := (if_neg hc).symm.trans hg
          refine rf_seg C [(.iload 4, 2)] (pc' := 47) (S' := ([(0, .ref 206), (1, .int a1), (2, .int a2), (3, .int a3), (4, .int a4)], [.int a4], rf_MM w m4)) (by decide +kernel) rfl trivial ?_
          obtain ⟨y6, m6, hc6, hg⟩ := rf_b_some hg
          refine rf_calls C rf_fit0 j_X14_isHour (As := [.int a4]) (rest := []) mw_X14_isHour (c_X14_isHour hc6) (by decide) lk_14_369 rfl rfl (Nat.le_of_ble_eq_true rfl) (by decide +kernel) ?_
          show rf_V 5 (rf_sh w) K 0 0 50 ([(0, .ref 206), (1, .int a1), (2, .int a2), (3, .int a3), (4, .int a4)], [.int y6], rf_MM w m6)
          refine rf_if_ne C 9 59 (by decide +kernel) (fun hc => ?_) (fun hc => ?_)
          · replace hg := (if_neg hc).symm.trans hg
            refine rf_seg C [(.aload 0, 1), (.invokeinterface 14 136, 3), (.iconst 60, 2)] (pc' := 65) (S' := ([(0, .ref 206), (1, .int a1), (2, .int a2), (3, .int a3), (4, .int a4)], [.int 60, .int (m6.1 206 136)], rf_MM w m6)) (by decide +kernel) rfl trivial ?_
            refine rf_icmp_ne C 9 74 (by decide +kernel) (fun hc => ?_) (fun hc => ?_)
            · replace hg := (if_neg hc).symm.trans hg
              obtain ⟨q7, hg⟩ := rf_g_some hg
              obtain ⟨q8, hg⟩ := rf_g_some hg
              obtain ⟨q9, hg⟩ := rf_g_some hg
              refine rf_seg C [(.aload 0, 1), (.invokeinterface 14 141, 3), (.aload 0, 1), (.invokeinterface 14 136, 3), (.iload 1, 1), (.iastore, 1), (.aload 0, 1), (.invokeinterface 14 142, 3), (.aload 0, 1), (.invokeinterface 14 136, 3), (.iload 2, 1), (.iastore, 1), (.aload 0, 1), (.invokeinterface 14 143, 3), (.aload 0, 1), (.invokeinterface 14 136, 3), (.iload 3, 1), (.iastore, 1), (.aload 0, 1), (.dup, 1), (.invokeinterface 14 136, 3), (.iconst 1, 1), (.iadd, 1), (.multianewarray 14 136, 3), (.aload 0, 1), (.aload 0, 1), (.invokeinterface 14 136, 3), (.iconst 1, 1), (.isub, 1)] (pc' := 121) (S' := ([(0, .ref 206), (1, .int a1), (2, .int a2), (3, .int a3), (4, .int a4)], [.int (((rf_i (rf_i (rf_i (rf_i m6 298 (Int32.toNatClampNeg (m6.1 206 136)) a1) 299 (Int32.toNatClampNeg ((rf_i m6 298 (Int32.toNatClampNeg (m6.1 206 136)) a1).1 206 136)) a2) 300 (Int32.toNatClampNeg ((rf_i (rf_i m6 298 (Int32.toNatClampNeg (m6.1 206 136)) a1) 299 (Int32.toNatClampNeg ((rf_i m6 298 (Int32.toNatClampNeg (m6.1 206 136)) a1).1 206 136)) a2).1 206 136)) a3) 206 136 (((rf_i (rf_i (rf_i m6 298 (Int32.toNatClampNeg (m6.1 206 136)) a1) 299 (Int32.toNatClampNeg ((rf_i m6 298 (Int32.toNatClampNeg (m6.1 206 136)) a1).1 206 136)) a2) 300 (Int32.toNatClampNeg ((rf_i (rf_i m6 298 (Int32.toNatClampNeg (m6.1 206 136)) a1) 299 (Int32.toNatClampNeg ((rf_i m6 298 (Int32.toNatClampNeg (m6.1 206 136)) a1).1 206 136)) a2).1 206 136)) a3).1 206 136) + 1)).1 206 136) - 1), .ref 206], rf_MM w (rf_i (rf_i (rf_i (rf_i m6 298 (Int32.toNatClampNeg (m6.1 206 136)) a1) 299 (Int32.toNatClampNeg ((rf_i m6 298 (Int32.toNatClampNeg (m6.1 206 136)) a1).1 206 136)) a2) 300 (Int32.toNatClampNeg ((rf_i (rf_i m6 298 (Int32.toNatClampNeg (m6.1 206 136)) a1) 299 (Int32.toNatClampNeg ((rf_i m6 298 (Int32.toNatClampNeg (m6.1 206 136)) a1).1 206 136)) a2).1 206 136)) a3) 206 136 (((rf_i (rf_i (rf_i m6 298 (Int32.toNatClampNeg (m6.1 206 136)) a1) 299 (Int32.toNatClampNeg ((rf_i m6 298 (Int32.toNatClampNeg (m6.1 206 136)) a1).1 206 136)) a2) 300 (Int32.toNatClampNeg ((rf_i (rf_i m6 298 (Int32.toNatClampNeg (m6.1 206 136)) a1) 299 (Int32.toNatClampNeg ((rf_i m6 298 (Int32.toNatClampNeg (m6.1 206 136)) a1).1 206 136)) a2).1 206 136)) a3).1 206 136) + 1)))) (by decide +kernel) rfl (by exact ⟨(rf_in_of q7), (rf_in_of q8), (rf_in_of q9)⟩) ?_
              obtain ⟨y10, m10, hc10, hg⟩ := rf_b_some hg
              refine rf_callv C rf_fit0 j_X14_done (ci := 14) (As := [.int (((rf_i (rf_i (rf_i (rf_i m6 298 (Int32.toNatClampNeg (m6.1 206 136)) a1) 299 (Int32.toNatClampNeg ((rf_i m6 298 (Int32.toNatClampNeg (m6.1 206 136)) a1).1 206 136)) a2) 300 (Int32.toNatClampNeg ((rf_i (rf_i m6 298 (Int32.toNatClampNeg (m6.1 206 136)) a1) 299 (Int32.toNatClampNeg ((rf_i m6 298 (Int32.toNatClampNeg (m6.1 206 136)) a1).1 206 136)) a2).1 206 136)) a3) 206 136 (((rf_i (rf_i (rf_i m6 298 (Int32.toNatClampNeg (m6.1 206 136)) a1) 299 (Int32.toNatClampNeg ((rf_i m6 298 (Int32.toNatClampNeg (m6.1 206 136)) a1).1 206 136)) a2) 300 (Int32.toNatClampNeg ((rf_i (rf_i m6 298 (Int32.toNatClampNeg (m6.1 206 136)) a1) 299 (Int32.toNatClampNeg ((rf_i m6 298 (Int32.toNatClampNeg (m6.1 206 136)) a1).1 206 136)) a2).1 206 136)) a3).1 206 136) + 1)).1 206 136) - 1)]) (rest := []) mw_X14_done (c_X14_done hc10) (by decide) rfl (by decide) lk_14_357 rfl rfl (Nat.le_of_ble_eq_true rfl) (by decide +kernel) ?_
              show rf_V 5 (rf_sh w) K 0 0 124 ([(0, .ref 206), (1, .int a1), (2, .int a2), (3, .int a3), (4, .int a4)], [.int y10], rf_MM w m10)
              obtain rfl := Option.some.inj hg
              exact rf_iret C hE (by decide +kernel)
            · replace hg := (if_pos hc).symm.trans hg
              refine rf_seg C [(.aload 0, 1), (.iconst 3, 1)] (pc' := 70) (S' := ([(0, .ref 206), (1, .int a1), (2, .int a2), (3, .int a3), (4, .int a4)], [.int 3, .ref 206], rf_MM w m6)) (by decide +kernel) rfl trivial ?_
              obtain ⟨y11, m11, hc11, hg⟩ := rf_b_some hg
              refine rf_callv C rf_fit0 j_X14_refused (ci := 14) (As := [.int 3]) (rest := []) mw_X14_refused (c_X14_refused hc11) (by decide) rfl (by decide) lk_14_353 rfl rfl (Nat.le_of_ble_eq_true rfl) (by decide +kernel) ?_
              show rf_V 5 (rf_sh w) K 0 0 73 ([(0, .ref 206), (1, .int a1), (2, .int a2), (3, .int a3), (4, .int a4)], [.int y11], rf_MM w m11)
              obtain rfl := Option.some.inj hg
              exact rf_iret C hE (by decide +kernel)
          · replace hg := (if_pos hc).symm.trans hg
            refine rf_seg C [(.aload 0, 1), (.iconst 2, 1)] (pc' := 55) (S' := ([(0, .ref 206), (1, .int a1), (2, .int a2), (3, .int a3), (4, .int a4)], [.int 2, .ref 206], rf_MM w m6)) (by decide +kernel) rfl trivial ?_
            obtain ⟨y12, m12, hc12, hg⟩ := rf_b_some hg
            refine rf_callv C rf_fit0 j_X14_refused (ci := 14) (As := [.int 2]) (rest := []) mw_X14_refused (c_X14_refused hc12) (by decide) rfl (by decide) lk_14_353 rfl rfl (Nat.le_of_ble_eq_true rfl) (by decide +kernel) ?_
            show rf_V 5 (rf_sh w) K 0 0 58 ([(0, .ref 206), (1, .int a1), (2, .int a2), (3, .int a3), (4, .int a4)], [.int y12], rf_MM w m12)
            obtain rfl := Option.some.inj hg
            exact rf_iret C hE (by decide +kernel)
      · replace hg := (if_pos hc).symm.trans hg
        refine rf_seg C [(.aload 0, 1), (.iconst 1, 1)] (pc' := 28) (S' := ([(0, .ref 206), (1, .int a1), (2, .int a2), (3, .int a3), (4, .int a4)], [.int 1, .ref 206], rf_MM w m2)) (by decide +kernel) rfl trivial ?_
        obtain ⟨y13, m13, hc13, hg⟩ := rf_b_some hg
        refine rf_callv C rf_fit0 j_X14_refused (ci := 14) (As := [.int 1]) (rest := []) mw_X14_refused (c_X14_refused hc13) (by decide) rfl (by decide) lk_14_353 rfl rfl (Nat.le_of_ble_eq_true rfl) (by decide +kernel) ?_
        show rf_V 5 (rf_sh w) K 0 0 31 ([(0, .ref 206), (1, .int a1), (2, .int a2), (3, .int a3), (4, .int a4)], [.int y13], rf_MM w m13)
        obtain rfl := Option.some.inj hg
        exact rf_iret C hE (by decide +kernel)
-- X14_meanUp
abbrev j_X14_meanUp : rf_J := (14, yX14_meanUp, cX14_meanUp, 6, (some .int))
theorem mw_X14_meanUp : rf_mv j_X14_meanUp (rf_R 14) 2 := ⟨⟨rf_mem 93 (by decide +kernel), rf_mem 93 (by decide +kernel), rf_mem 0 (by decide +kernel), rf_mem 93 (by decide +kernel)⟩, by decide +kernel, by decide⟩
def g_X14_meanUp_55 (w : rf_w) (rec8 : Int32 → Int32 → Int32 → Int32 → Int32 → rf_m → Option (Int32 × rf_m)) (a1 : Int32) (a2 : Int32) (a3 : Int32) (a4 : Int32) (a5 : Int32) (m : rf_m) : Option (Int32 × rf_m) := rec8 a1 a2 a3 a4 (a5 + 1) m
def g_X14_meanUp_8_b (w : rf_w) (rec8 : Int32 → Int32 → Int32 → Int32 → Int32 → rf_m → Option (Int32 × rf_m)) (a1 : Int32) (a2 : Int32) (a3 : Int32) (a4 : Int32) (a5 : Int32) (m : rf_m) : Option (Int32 × rf_m) := (if (m.1 206 136) ≤ a5 then (if a4 = 0 then some ((-2147483648), m) else rf_b (g_X14_down w m a3 a4) fun y0 m0 => some (y0, m0)) else rf_g (rf_in a5 60) ((if (m.1 298 (Int32.toNatClampNeg a5)) = a1 then rf_g (rf_in a5 60) ((if (m.1 299 (Int32.toNatClampNeg a5)) = a2 then rf_g (rf_in a5 60) (rf_vi (a3 + (m.1 300 (Int32.toNatClampNeg a5))) fun x4 => g_X14_meanUp_55 w rec8 a1 a2 x4 (a4 + 1) a5 m) else g_X14_meanUp_55 w rec8 a1 a2 a3 a4 a5 m)) else g_X14_meanUp_55 w rec8 a1 a2 a3 a4 a5 m)))
def g_X14_meanUp_8 (w : rf_w) : Nat → Int32 → Int32 → Int32 → Int32 → Int32 → rf_m → Option (Int32 × rf_m)
  | 0, _, _, _, _, _, _ => none
  | n + 1, a1, a2, a3, a4, a5, m => g_X14_meanUp_8_b w (g_X14_meanUp_8 w n) a1 a2 a3 a4 a5 m
def g_X14_meanUp (w : rf_w) (m : rf_m) (a1 : Int32) (a2 : Int32) : Option (Int32 × rf_m) := g_X14_meanUp_8 w rf_fuel a1 a2 0 0 0 m
theorem s_X14_meanUp_55 {w : rf_w} {K : rf_K} {r : Int32 × rf_m} (C : rf_Ctx 14 cX14_meanUp 6 2 (rf_sh w) K) (hE : rf_End (some .int) K (rf_sh w) 0 0 (some (.int r.1)) (rf_MM w r.2)) {rec8 : Int32 → Int32 → Int32 → Int32 → Int32 → rf_m → Option (Int32 × rf_m)} (hr8 : ∀ (a1 : Int32) (a2 : Int32) (a3 : Int32) (a4 : Int32) (a5 : Int32) (m : rf_m), rec8 a1 a2 a3 a4 a5 m = some r → rf_V 6 (rf_sh w) K 0 0 8 ([(0, .ref 206), (1, .int a1), (2, .int a2), (3, .int a3), (4, .int a4), (5, .int a5)], [], rf_MM w m)) (a1 : Int32) (a2 : Int32) (a3 : Int32) (a4 : Int32) (a5 : Int32) (m : rf_m) (hg : g_X14_meanUp_55 w rec8 a1 a2 a3 a4 a5 m = some r) : rf_V 6 (rf_sh w) K 0 0 55 ([(0, .ref 206), (1, .int a1), (2, .int a2), (3, .int a3), (4, .int a4), (5, .int a5)], [], rf_MM w m) := by
  unfold g_X14_meanUp_55 at hg
  refine rf_seg C [(.iinc 5 1, 3)] (pc' := 58) (S' := ([(5, .int (a5 + 1)), (0, .ref 206), (1, .int a1), (2, .int a2), (3, .int a3), (4, .int a4)], [], rf_MM w m)) (by decide +kernel) rfl trivial ?_
  refine rf_goto C (-50) 8 (by decide +kernel) ?_
  refine rf_few [1, 2, 3, 4, 5, 0] rfl ?_
  exact hr8 a1 a2 a3 a4 (a5 + 1) m hg
theorem s_X14_meanUp_8_b {w : rf_w} {K : rf_K} {r : Int32 × rf_m} (C : rf_Ctx 14 cX14_meanUp 6 2 (rf_sh w) K) (hE : rf_End (some .int) K (rf_sh w) 0 0 (some (.int r.1)) (rf_MM w r.2)) {rec8 : Int32 → Int32 → Int32 → Int32 → Int32 → rf_m → Option (Int32 × rf_m)} (hr8 : ∀ (a1 : Int32) (a2 : Int32) (a3 : Int32) (a4 : Int32) (a5 : Int32) (m : rf_m), rec8 a1 a2 a3 a4 a5 m = some r → rf_V 6 (rf_sh w) K 0 0 8 ([(0, .ref 206), (1, .int a1), (2, .int a2), (3, .int a3), (4, .int a4), (5, .int a5)], [], rf_MM w m)) (a1 : Int32) (a2 : Int32) (a3 : Int32) (a4 : Int32) (a5 : Int32) (m : rf_m) (hg : g_X14_meanUp_8_b w rec8 a1 a2 a3 a4 a5 m = some r) : rf_V 6 (rf_sh w) K 0 0 8 ([(0, .ref 206), (1, .int a1), (2, .int a2), (3, .int a3), (4, .int a4), (5, .int a5)], [], rf_MM w m) := by
  unfold g_X14_meanUp_8_b at hg
  refine rf_seg C [(.iload 5, 2), (.aload 0, 1), (.invokeinterface 14 136, 3)] (pc' := 14) (S' := ([(0, .ref 206), (1, .int a1), (2, .int a2), (3, .int a3), (4, .int a4), (5, .int a5)], [.int (m.1 206 136), .int a5], rf_MM w m)) (by decide +kernel) rfl trivial ?_
  refine rf_icmp_ge C 47 61 (by decide +kernel) (fun hc => ?_) (fun hc => ?_)
  · replace hg := (if_pos hc).symm.trans hg
    refine rf_seg C [(.iload 4, 2)] (pc' := 63) (S' := ([(0, .ref 206), (1, .int a1), (2, .int a2), (3, .int a3), (4, .int a4), (5, .int a5)], [.int a4], rf_MM w m)) (by decide +kernel) rfl trivial ?_
    refine rf_if_ne C 9 72 (by decide +kernel) (fun hc => ?_) (fun hc => ?_)
    · replace hg := (if_neg hc).symm.trans hg
      refine rf_seg C [(.iload 3, 1), (.iload 4, 2)] (pc' := 75) (S' := ([(0, .ref 206), (1, .int a1), (2, .int a2), (3, .int a3), (4, .int a4), (5, .int a5)], [.int a4, .int a3], rf_MM w m)) (by decide +kernel) rfl trivial ?_
      obtain ⟨y0, m0, hc0, hg⟩ := rf_b_some hg
      refine rf_calls C rf_fit0 j_X14_down (As := [.int a3, .int a4]) (rest := []) mw_X14_down (c_X14_down hc0) (by decide) lk_14_390 rfl rfl (Nat.le_of_ble_eq_true rfl) (by decide +kernel) ?_
      show rf_V 6 (rf_sh w) K 0 0 78 ([(0, .ref 206), (1, .int a1), (2, .int a2), (3, .int a3), (4, .int a4), (5, .int a5)], [.int y0], rf_MM w m0)
      obtain rfl := Option.some.inj hg
      exact rf_iret C hE (by decide +kernel)
    · replace hg := (if_pos hc).symm.trans hg
      refine rf_seg C [(.iconst (-2147483648), 3)] (pc' := 69) (S' := ([(0, .ref 206), (1, .int a1), (2, .int a2), (3, .int a3), (4, .int a4), (5, .int a5)], [.int ((-2147483648))], rf_MM w m)) (by decide +kernel) rfl trivial ?_
      refine rf_goto C 9 78 (by decide +kernel) ?_
      obtain rfl := Option.some.inj hg
      exact rf_iret C hE (by decide +kernel)
  · replace hg := (if_neg hc).symm.trans hg
    obtain ⟨q1, hg⟩ := rf_g_some hg
    refine rf_seg C [(.aload 0, 1), (.invokeinterface 14 141, 3), (.iload 5, 2), (.iaload, 1), (.iload 1, 1)] (pc' := 25) (S' := ([(0, .ref 206), (1, .int a1), (2, .int a2), (3, .int a3), (4, .int a4), (5, .int a5)], [.int a1, .int (m.1 298 (Int32.toNatClampNeg a5))], rf_MM w m)) (by decide +kernel) rfl (rf_in_of q1) ?_
    refine rf_icmp_ne C 30 55 (by decide +kernel) (fun hc => ?_) (fun hc => ?_)
    · replace hg := (if_neg hc).symm.trans hg
      refine rf_few [0, 1, 2, 3, 4, 5] rfl ?_
      exact s_X14_meanUp_55 C hE hr8 a1 a2 a3 a4 a5 m hg
    · replace hg := (if_pos hc).symm.trans hg
      obtain ⟨q2, hg⟩ := rf_g_some hg
      refine rf_seg C [(.aload 0, 1), (.invokeinterface 14 142, 3), (.iload 5, 2), (.iaload, 1), (.iload 2, 1)] (pc' := 36) (S' := ([(0, .ref 206), (1, .int a1), (2, .int a2), (3, .int a3), (4, .int a4), (5, .int a5)], [.int a2, .int (m.1 299 (Int32.toNatClampNeg a5))], rf_MM w m)) (by decide +kernel) rfl (rf_in_of q2) ?_
      refine rf_icmp_eq C 6 42 (by decide +kernel) (fun hc => ?_) (fun hc => ?_)
      · replace hg := (if_pos hc).symm.trans hg
        obtain ⟨q3, hg⟩ := rf_g_some hg
        refine rf_seg C [(.iload 3, 1), (.aload 0, 1), (.invokeinterface 14 143, 3), (.iload 5, 2), (.iaload, 1), (.iadd, 1)] (pc' := 51) (S' := ([(0, .ref 206), (1, .int a1), (2, .int a2), (3, .int a3), (4, .int a4), (5, .int a5)], [.int (a3 + (m.1 300 (Int32.toNatClampNeg a5)))], rf_MM w m)) (by decide +kernel) rfl (rf_in_of q3) ?_
        obtain ⟨x4, hx4, hg⟩ := rf_vi_some hg
        refine rf_vi_top hx4 ?_
        refine rf_seg C [(.istore 3, 1), (.iinc 4 1, 3)] (pc' := 55) (S' := ([(4, .int (a4 + 1)), (3, .int x4), (0, .ref 206), (1, .int a1), (2, .int a2), (5, .int a5)], [], rf_MM w m)) (by decide +kernel) rfl trivial ?_
        refine rf_few [2, 3, 4, 1, 0, 5] rfl ?_
        exact s_X14_meanUp_55 C hE hr8 a1 a2 x4 (a4 + 1) a5 m hg
      · replace hg := (if_neg hc).symm.trans hg
        refine rf_goto C 16 55 (by decide +kernel) ?_
        refine rf_few [0, 1, 2, 3, 4, 5] rfl ?_
        exact s_X14_meanUp_55 C hE hr8 a1 a2 a3 a4 a5 m hg
theorem s_X14_meanUp_8 {w : rf_w} {K : rf_K} {r : Int32 × rf_m} (C : rf_Ctx 14 cX14_meanUp 6 2 (rf_sh w) K) (hE : rf_End (some .int) K (rf_sh w) 0 0 (some (.int r.1)) (rf_MM w r.2)) (n : Nat) : ∀ (a1 : Int32) (a2 : Int32) (a3 : Int32) (a4 : Int32) (a5 : Int32) (m : rf_m), g_X14_meanUp_8 w n a1 a2 a3 a4 a5 m = some r → rf_V 6 (rf_sh w) K 0 0 8 ([(0, .ref 206), (1, .int a1), (2, .int a2), (3, .int a3), (4, .int a4), (5, .int a5)], [], rf_MM w m) := by
  induction n with
  | zero => intro a1 a2 a3 a4 a5 m hg; cases hg
  | succ n ih => intro a1 a2 a3 a4 a5 m hg; exact s_X14_meanUp_8_b C hE ih a1 a2 a3 a4 a5 m hg
theorem c_X14_meanUp {w : rf_w} {m : rf_m} {a1 : Int32} {a2 : Int32} {r : Int32 × rf_m} (hg : g_X14_meanUp w m a1 a2 = some r) : rf_Con j_X14_meanUp 2 (rf_sh w) [.ref 206, .int a1, .int a2] (rf_MM w m) (some (.int r.1)) (rf_MM w r.2) := by
  refine rf_con j_X14_meanUp 2 ⟨by decide +kernel, rfl, Nat.le_of_ble_eq_true rfl⟩ (fun K C hE => ?_)
  unfold g_X14_meanUp at hg
  show rf_V 6 (rf_sh w) K 0 0 0 ([(0, .ref 206), (1, .int a1), (2, .int a2)], [], rf_MM w m)
  refine rf_seg C [(.iconst 0, 1), (.istore 3, 1), (.iconst 0, 1), (.istore 4, 2), (.iconst 0, 1), (.istore 5, 2)] (pc' := 8) (S' := ([(5, .int 0), (4, .int 0), (3, .int 0), (0, .ref 206), (1, .int a1), (2, .int a2)], [], rf_MM w m)) (by decide +kernel) rfl trivial ?_
  refine rf_few [3, 4, 5, 2, 1, 0] rfl ?_
  exact s_X14_meanUp_8 C hE rf_fuel a1 a2 0 0 0 m hg
-- X14_isLevelled
abbrev j_X14_isLevelled : rf_J := (14, yX14_isLevelled, cX14_isLevelled, 7, (some .boolean))
theorem mw_X14_isLevelled : rf_mv j_X14_isLevelled (rf_R 14) 2 := ⟨⟨rf_mem 93 (by decide +kernel), rf_mem 93 (by decide +kernel), rf_mem 0 (by decide +kernel), rf_mem 93 (by decide +kernel)⟩, by decide +kernel, by decide⟩
def g_X14_isLevelled_111 (w : rf_w) (a5 : Int32) (a6 : Int32) (s1 : Int32) (m : rf_m) : Option (Int32 × rf_m) := (if a5 = 0 then rf_b (g_abs w (rf_i m 206 139 s1) ((rf_i m 206 139 s1).1 206 139)) fun y0 m0 => some (1, rf_i m0 206 140 (((y0 + 99) / 100) + 10)) else (if a6 = 0 then rf_b (g_abs w (rf_i m 206 139 s1) ((rf_i m 206 139 s1).1 206 139)) fun y1 m1 => some (1, rf_i m1 206 140 (((y1 + 99) / 100) + 10)) else some (1, rf_i (rf_i m 206 139 s1) 206 140 0)))
def g_X14_isLevelled_99 (w : rf_w) (a3 : Int32) (a4 : Int32) (a5 : Int32) (a6 : Int32) (m : rf_m) : Option (Int32 × rf_m) := (if a5 = 0 then g_X14_isLevelled_111 w a5 a6 (-a4) m else g_X14_isLevelled_111 w a5 a6 a3 m)
def g_X14_isLevelled_79 (w : rf_w) (a3 : Int32) (a4 : Int32) (a5 : Int32) (a6 : Int32) (m : rf_m) : Option (Int32 × rf_m) := (if a5 = 0 then g_X14_isLevelled_99 w a3 a4 a5 a6 m else (if a6 = 0 then g_X14_isLevelled_99 w a3 a4 a5 a6 m else g_X14_isLevelled_111 w a5 a6 ((a3 - a4) / 2) m))
def g_X14_isLevelled_65 (w : rf_w) (a3 : Int32) (a4 : Int32) (a5 : Int32) (s0 : Int32) (m : rf_m) : Option (Int32 × rf_m) := (if a5 = 0 then (if s0 = 0 then some (0, m) else g_X14_isLevelled_79 w a3 a4 a5 s0 m) else g_X14_isLevelled_79 w a3 a4 a5 s0 m)
def g_X14_isLevelled_50 (w : rf_w) (a3 : Int32) (a4 : Int32) (s0 : Int32) (m : rf_m) : Option (Int32 × rf_m) := (if a4 = ((-2147483648)) then g_X14_isLevelled_65 w a3 a4 s0 0 m else g_X14_isLevelled_65 w a3 a4 s0 1 m)
def g_X14_isLevelled (w : rf_w) (m : rf_m) (a1 : Int32) (a2 : Int32) : Option (Int32 × rf_m) := rf_b (g_X14_isMark w m a1) fun y0 m0 => (if y0 = 0 then some (0, m0) else rf_b (g_X14_isMark w m0 a2) fun y1 m1 => (if y1 = 0 then some (0, m1) else (if a1 = a2 then some (0, m1) else rf_b (g_X14_meanUp w m1 a1 a2) fun y2 m2 => rf_b (g_X14_meanUp w m2 a2 a1) fun y3 m3 => (if y2 = ((-2147483648)) then g_X14_isLevelled_50 w y2 y3 0 m3 else g_X14_isLevelled_50 w y2 y3 1 m3))))
theorem s_X14_isLevelled_111 {w : rf_w} {K : rf_K} {r : Int32 × rf_m} (C : rf_Ctx 14 cX14_isLevelled 7 3 (rf_sh w) K) (hE : rf_End (some .boolean) K (rf_sh w) 0 0 (some (.int r.1)) (rf_MM w r.2)) (a5 : Int32) (a6 : Int32) (s1 : Int32) (m : rf_m) (hg : g_X14_isLevelled_111 w a5 a6 s1 m = some r) : rf_V 7 (rf_sh w) K 0 0 111 ([(0, .ref 206), (5, .int a5), (6, .int a6)], [.int s1, .ref 206], rf_MM w m) := by
  unfold g_X14_isLevelled_111 at hg
  refine rf_seg C [(.multianewarray 14 139, 3), (.aload 0, 1), (.iload 5, 2)] (pc' := 117) (S' := ([(0, .ref 206), (5, .int a5), (6, .int a6)], [.int a5, .ref 206], rf_MM w (rf_i m 206 139 s1))) (by decide +kernel) rfl trivial ?_
  refine rf_if_eq C 12 129 (by decide +kernel) (fun hc => ?_) (fun hc => ?_)
  · replace hg := (if_pos hc).symm.trans hg
    refine rf_seg C [(.aload 0, 1), (.invokeinterface 14 139, 3)] (pc' := 133) (S' := ([(0, .ref 206), (5, .int a5), (6, .int a6)], [.int ((rf_i m 206 139 s1).1 206 139), .ref 206], rf_MM w (rf_i m 206 139 s1))) (by decide +kernel) rfl trivial ?_
    obtain ⟨y0, m0, hc0, hg⟩ := rf_b_some hg
    refine rf_calls C rf_fit0 j_abs (As := [.int ((rf_i m 206 139 s1).1 206 139)]) (rest := [.ref 206]) mw_abs (c_abs hc0) (by decide) lk_14_381 rfl rfl (Nat.le_of_ble_eq_true rfl) (by decide +kernel) ?_
    show rf_V 7 (rf_sh w) K 0 0 136 ([(0, .ref 206), (5, .int a5), (6, .int a6)], [.int y0, .ref 206], rf_MM w m0)
    refine rf_seg C [(.iconst 99, 2), (.iadd, 1), (.iconst 100, 2), (.idiv, 1), (.iconst 10, 2), (.iadd, 1), (.multianewarray 14 140, 3), (.iconst 1, 1)] (pc' := 149) (S' := ([(0, .ref 206), (5, .int a5), (6, .int a6)], [.int 1], rf_MM w (rf_i m0 206 140 (((y0 + 99) / 100) + 10)))) (by decide +kernel) rfl (rf_nz_of (by decide)) ?_
    obtain rfl := Option.some.inj hg
    exact rf_zret C hE (by decide) (by decide +kernel)
  · replace hg := (if_neg hc).symm.trans hg
    refine rf_seg C [(.iload 6, 2)] (pc' := 122) (S' := ([(0, .ref 206), (5, .int a5), (6, .int a6)], [.int a6, .ref 206], rf_MM w (rf_i m 206 139 s1))) (by decide +kernel) rfl trivial ?_
    refine rf_if_eq C 7 129 (by decide +kernel) (fun hc => ?_) (fun hc => ?_)
    · replace hg := (if_pos hc).symm.trans hg
      refine rf_seg C [(.aload 0, 1), (.invokeinterface 14 139, 3)] (pc' := 133) (S' := ([(0, .ref 206), (5, .int a5), (6, .int a6)], [.int ((rf_i m 206 139 s1).1 206 139), .ref 206], rf_MM w (rf_i m 206 139 s1))) (by decide +kernel) rfl trivial ?_
      obtain ⟨y1, m1, hc1, hg⟩ := rf_b_some hg
      refine rf_calls C rf_fit0 j_abs (As := [.int ((rf_i m 206 139 s1).1 206 139)]) (rest := [.ref 206]) mw_abs (c_abs hc1) (by decide) lk_14_381 rfl rfl (Nat.le_of_ble_eq_true rfl) (by decide +kernel) ?_
      show rf_V 7 (rf_sh w) K 0 0 136 ([(0, .ref 206), (5, .int a5), (6, .int a6)], [.int y1, .ref 206], rf_MM w m1)
      refine rf_seg C [(.iconst 99, 2), (.iadd, 1), (.iconst 100, 2), (.idiv, 1), (.iconst 10, 2), (.iadd, 1), (.multianewarray 14 140, 3), (.iconst 1, 1)] (pc' := 149) (S' := ([(0, .ref 206), (5, .int a5), (6, .int a6)], [.int 1], rf_MM w (rf_i m1 206 140 (((y1 + 99) / 100) + 10)))) (by decide +kernel) rfl (rf_nz_of (by decide)) ?_
      obtain rfl := Option.some.inj hg
      exact rf_zret C hE (by decide) (by decide +kernel)
    · replace hg := (if_neg hc).symm.trans hg
      refine rf_seg C [(.iconst 0, 1)] (pc' := 126) (S' := ([(0, .ref 206), (5, .int a5), (6, .int a6)], [.int 0, .ref 206], rf_MM w (rf_i m 206 139 s1))) (by decide +kernel) rfl trivial ?_
      refine rf_goto C 19 145 (by decide +kernel) ?_
      refine rf_seg C [(.multianewarray 14 140, 3), (.iconst 1, 1)] (pc' := 149) (S' := ([(0, .ref 206), (5, .int a5), (6, .int a6)], [.int 1], rf_MM w (rf_i (rf_i m 206 139 s1) 206 140 0))) (by decide +kernel) rfl trivial ?_
      obtain rfl := Option.some.inj hg
      exact rf_zret C hE (by decide) (by decide +kernel)
theorem s_X14_isLevelled_99 {w : rf_w} {K : rf_K} {r : Int32 × rf_m} (C : rf_Ctx 14 cX14_isLevelled 7 3 (rf_sh w) K) (hE : rf_End (some .boolean) K (rf_sh w) 0 0 (some (.int r.1)) (rf_MM w r.2)) (a3 : Int32) (a4 : Int32) (a5 : Int32) (a6 : Int32) (m : rf_m) (hg : g_X14_isLevelled_99 w a3 a4 a5 a6 m = some r) : rf_V 7 (rf_sh w) K 0 0 99 ([(0, .ref 206), (3, .int a3), (4, .int a4), (5, .int a5), (6, .int a6)], [.ref 206], rf_MM w m) := by
  unfold g_X14_isLevelled_99 at hg
  refine rf_seg C [(.iload 5, 2)] (pc' := 101) (S' := ([(0, .ref 206), (3, .int a3), (4, .int a4), (5, .int a5), (6, .int a6)], [.int a5, .ref 206], rf_MM w m)) (by decide +kernel) rfl trivial ?_
  refine rf_if_eq C 7 108 (by decide +kernel) (fun hc => ?_) (fun hc => ?_)
  · replace hg := (if_pos hc).symm.trans hg
    refine rf_seg C [(.iload 4, 2), (.ineg, 1)] (pc' := 111) (S' := ([(0, .ref 206), (3, .int a3), (4, .int a4), (5, .int a5), (6, .int a6)], [.int (-a4), .ref 206], rf_MM w m)) (by decide +kernel) rfl trivial ?_
    refine rf_few [0, 3, 4] rfl ?_
    exact s_X14_isLevelled_111 C hE a5 a6 (-a4) m hg
  · replace hg := (if_neg hc).symm.trans hg
    refine rf_seg C [(.iload 3, 1)] (pc' := 105) (S' := ([(0, .ref 206), (3, .int a3), (4, .int a4), (5, .int a5), (6, .int a6)], [.int a3, .ref 206], rf_MM w m)) (by decide +kernel) rfl trivial ?_
    refine rf_goto C 6 111 (by decide +kernel) ?_
    refine rf_few [0, 3, 4] rfl ?_
    exact s_X14_isLevelled_111 C hE a5 a6 a3 m hg
theorem s_X14_isLevelled_79 {w : rf_w} {K : rf_K} {r : Int32 × rf_m} (C : rf_Ctx 14 cX14_isLevelled 7 3 (rf_sh w) K) (hE : rf_End (some .boolean) K (rf_sh w) 0 0 (some (.int r.1)) (rf_MM w r.2)) (a3 : Int32) (a4 : Int32) (a5 : Int32) (a6 : Int32) (m : rf_m) (hg : g_X14_isLevelled_79 w a3 a4 a5 a6 m = some r) : rf_V 7 (rf_sh w) K 0 0 79 ([(0, .ref 206), (3, .int a3), (4, .int a4), (5, .int a5), (6, .int a6)], [], rf_MM w m) := by
  unfold g_X14_isLevelled_79 at hg
  refine rf_seg C [(.aload 0, 1), (.iload 5, 2)] (pc' := 82) (S' := ([(0, .ref 206), (3, .int a3), (4, .int a4), (5, .int a5), (6, .int a6)], [.int a5, .ref 206], rf_MM w m)) (by decide +kernel) rfl trivial ?_
  refine rf_if_eq C 17 99 (by decide +kernel) (fun hc => ?_) (fun hc => ?_)
  · replace hg := (if_pos hc).symm.trans hg
    refine rf_few [0, 1, 2, 3, 4] rfl ?_
    exact s_X14_isLevelled_99 C hE a3 a4 a5 a6 m hg
  · replace hg := (if_neg hc).symm.trans hg
    refine rf_seg C [(.iload 6, 2)] (pc' := 87) (S' := ([(0, .ref 206), (3, .int a3), (4, .int a4), (5, .int a5), (6, .int a6)], [.int a6, .ref 206], rf_MM w m)) (by decide +kernel) rfl trivial ?_
    refine rf_if_eq C 12 99 (by decide +kernel) (fun hc => ?_) (fun hc => ?_)
    · replace hg := (if_pos hc).symm.trans hg
      refine rf_few [0, 1, 2, 3, 4] rfl ?_
      exact s_X14_isLevelled_99 C hE a3 a4 a5 a6 m hg
    · replace hg := (if_neg hc).symm.trans hg
      refine rf_seg C [(.iload 3, 1), (.iload 4, 2), (.isub, 1), (.iconst 2, 1), (.idiv, 1)] (pc' := 96) (S' := ([(0, .ref 206), (3, .int a3), (4, .int a4), (5, .int a5), (6, .int a6)], [.int ((a3 - a4) / 2), .ref 206], rf_MM w m)) (by decide +kernel) rfl (rf_nz_of (by decide)) ?_
      refine rf_goto C 15 111 (by decide +kernel) ?_
      refine rf_few [0, 3, 4] rfl ?_
      exact s_X14_isLevelled_111 C hE a5 a6 ((a3 - a4) / 2) m hg
theorem s_X14_isLevelled_65 {w : rf_w} {K : rf_K} {r : Int32 × rf_m} (C : rf_Ctx 14 cX14_isLevelled 7 3 (rf_sh w) K) (hE : rf_End (some .boolean) K (rf_sh w) 0 0 (some (.int r.1)) (rf_MM w r.2)) (a3 : Int32) (a4 : Int32) (a5 : Int32) (s0 : Int32) (m : rf_m) (hg : g_X14_isLevelled_65 w a3 a4 a5 s0 m = some r) : rf_V 7 (rf_sh w) K 0 0 65 ([(0, .ref 206), (3, .int a3), (4, .int a4), (5, .int a5)], [.int s0], rf_MM w m) := by
  unfold g_X14_isLevelled_65 at hg
  refine rf_seg C [(.istore 6, 2), (.iload 5, 2)] (pc' := 69) (S' := ([(6, .int s0), (0, .ref 206), (3, .int a3), (4, .int a4), (5, .int a5)], [.int a5], rf_MM w m)) (by decide +kernel) rfl trivial ?_
  refine rf_if_ne C 10 79 (by decide +kernel) (fun hc => ?_) (fun hc => ?_)
  · replace hg := (if_neg hc).symm.trans hg
    refine rf_few [1, 2, 3, 4, 0] rfl ?_
    exact s_X14_isLevelled_79 C hE a3 a4 a5 s0 m hg
  · replace hg := (if_pos hc).symm.trans hg
    refine rf_seg C [(.iload 6, 2)] (pc' := 74) (S' := ([(6, .int s0), (0, .ref 206), (3, .int a3), (4, .int a4), (5, .int a5)], [.int s0], rf_MM w m)) (by decide +kernel) rfl trivial ?_
    refine rf_if_ne C 5 79 (by decide +kernel) (fun hc => ?_) (fun hc => ?_)
    · replace hg := (if_neg hc).symm.trans hg
      refine rf_few [1, 2, 3, 4, 0] rfl ?_
      exact s_X14_isLevelled_79 C hE a3 a4 a5 s0 m hg
    · replace hg := (if_pos hc).symm.trans hg
      refine rf_seg C [(.iconst 0, 1)] (pc' := 78) (S' := ([(6, .int s0), (0, .ref 206), (3, .int a3), (4, .int a4), (5, .int a5)], [.int 0], rf_MM w m)) (by decide +kernel) rfl trivial ?_
      obtain rfl := Option.some.inj hg
      exact rf_zret C hE (by decide) (by decide +kernel)
theorem s_X14_isLevelled_50 {w : rf_w} {K : rf_K} {r : Int32 × rf_m} (C : rf_Ctx 14 cX14_isLevelled 7 3 (rf_sh w) K) (hE : rf_End (some .boolean) K (rf_sh w) 0 0 (some (.int r.1)) (rf_MM w r.2)) (a3 : Int32) (a4 : Int32) (s0 : Int32) (m : rf_m) (hg : g_X14_isLevelled_50 w a3 a4 s0 m = some r) : rf_V 7 (rf_sh w) K 0 0 50 ([(0, .ref 206), (3, .int a3), (4, .int a4)], [.int s0], rf_MM w m) := by
  unfold g_X14_isLevelled_50 at hg
  refine rf_seg C [(.istore 5, 2), (.iload 4, 2), (.iconst (-2147483648), 3)] (pc' := 57) (S' := ([(5, .int s0), (0, .ref 206), (3, .int a3), (4, .int a4)], [.int ((-2147483648)), .int a4], rf_MM w m)) (by decide +kernel) rfl trivial ?_
  refine rf_icmp_eq C 7 64 (by decide +kernel) (fun hc => ?_) (fun hc => ?_)
  · replace hg := (if_pos hc).symm.trans hg
    refine rf_seg C [(.iconst 0, 1)] (pc' := 65) (S' := ([(5, .int s0), (0, .ref 206), (3, .int a3), (4, .int a4)], [.int 0], rf_MM w m)) (by decide +kernel) rfl trivial ?_
    refine rf_few [1, 2, 3, 0] rfl ?_
    exact s_X14_isLevelled_65 C hE a3 a4 s0 0 m hg
  · replace hg := (if_neg hc).symm.trans hg
    refine rf_seg C [(.iconst 1, 1)] (pc' := 61) (S' := ([(5, .int s0), (0, .ref 206), (3, .int a3), (4, .int a4)], [.int 1], rf_MM w m)) (by decide +kernel) rfl trivial ?_
    refine rf_goto C 4 65 (by decide +kernel) ?_
    refine rf_few [1, 2, 3, 0] rfl ?_
    exact s_X14_isLevelled_65 C hE a3 a4 s0 1 m hg
theorem c_X14_isLevelled {w : rf_w} {m : rf_m} {a1 : Int32} {a2 : Int32} {r : Int32 × rf_m} (hg : g_X14_isLevelled w m a1 a2 = some r) : rf_Con j_X14_isLevelled 3 (rf_sh w) [.ref 206, .int a1, .int a2] (rf_MM w m) (some (.int r.1)) (rf_MM w r.2) := by
  refine rf_con j_X14_isLevelled 3 ⟨by decide +kernel, rfl, Nat.le_of_ble_eq_true rfl⟩ (fun K C hE => ?_)
  unfold g_X14_isLevelled at hg
  show rf_V 7 (rf_sh w) K 0 0 0 ([(0, .ref 206), (1, .int a1), (2, .int a2)], [], rf_MM w m)
  refine rf_seg C [(.aload 0, 1), (.iload 1, 1)] (pc' := 2) (S' := ([(0, .ref 206), (1, .int a1), (2, .int a2)], [.int a1, .ref 206], rf_MM w m)) (by decide +kernel) rfl trivial ?_
  obtain ⟨y0, m0, hc0, hg⟩ := rf_b_some hg
  refine rf_callv C rf_fit0 j_X14_isMark (ci := 14) (As := [.int a1]) (rest := []) mw_X14_isMark (c_X14_isMark hc0) (by decide) rfl (by decide) lk_14_360 rfl rfl (Nat.le_of_ble_eq_true rfl) (by decide +kernel) ?_
  show rf_V 7 (rf_sh w) K 0 0 5 ([(0, .ref 206), (1, .int a1), (2, .int a2)], [.int y0], rf_MM w m0)
  refine rf_if_eq C 16 21 (by decide +kernel) (fun hc => ?_) (fun hc => ?_)
  · replace hg := (if_pos hc).symm.trans hg
    refine rf_seg C [(.iconst 0, 1)] (pc' := 22) (S' := ([(0, .ref 206), (1, .int a1), (2, .int a2)], [.int 0], rf_MM w m0)) (by decide +kernel) rfl trivial ?_
    obtain rfl := Option.some.inj hg
    exact rf_zret C hE (by decide) (by decide +kernel)
  · replace hg := (if_neg hc).symm.trans hg
    refine rf_seg C [(.aload 0, 1), (.iload 2, 1)] (pc' := 10) (S' := ([(0, .ref 206), (1, .int a1), (2, .int a2)], [.int a2, .ref 206], rf_MM w m0)) (by decide +kernel) rfl trivial ?_
    obtain ⟨y1, m1, hc1, hg⟩ := rf_b_some hg
    refine rf_callv C rf_fit0 j_X14_isMark (ci := 14) (As := [.int a2]) (rest := []) mw_X14_isMark (c_X14_isMark hc1) (by decide) rfl (by decide) lk_14_360 rfl rfl (Nat.le_of_ble_eq_true rfl) (by decide +kernel) ?_
    show rf_V 7 (rf_sh w) K 0 0 13 ([(0, .ref 206), (1, .int a1), (2, .int a2)], [.int y1], rf_MM w m1)
    refine rf_if_eq C 8 21 (by decide +kernel) (fun hc => ?_) (fun hc => ?_)
    · replace hg := (if_pos hc).symm.trans hg
      refine rf_seg C [(.iconst 0, 1)] (pc' := 22) (S' := ([(0, .ref 206), (1, .int a1), (2, .int a2)], [.int 0], rf_MM w m1)) (by decide +kernel) rfl trivial ?_
      obtain rfl := Option.some.inj hg
      exact rf_zret C hE (by decide) (by decide +kernel)
    · replace hg := (if_neg hc).symm.trans hg
      refine rf_seg C [(.iload 1, 1), (.iload 2, 1)] (pc' := 18) (S' := ([(0, .ref 206), (1, .int a1), (2, .int a2)], [.int a2, .int a1], rf_MM w m1)) (by decide +kernel) rfl trivial ?_
      refine rf_icmp_ne C 5 23 (by decide +kernel) (fun hc => ?_) (fun hc => ?_)
      · replace hg := (if_neg hc).symm.trans hg
        refine rf_seg C [(.aload 0, 1), (.iload 1, 1), (.iload 2, 1)] (pc' := 26) (S' := ([(0, .ref 206), (1, .int a1), (2, .int a2)], [.int a2, .int a1, .ref 206], rf_MM w m1)) (by decide +kernel) rfl trivial ?_
        obtain ⟨y2, m2, hc2, hg⟩ := rf_b_some hg
        refine rf_callv C rf_fit0 j_X14_meanUp (ci := 14) (As := [.int a1, .int a2]) (rest := []) mw_X14_meanUp (c_X14_meanUp hc2) (by decide) rfl (by decide) lk_14_898 rfl rfl (Nat.le_of_ble_eq_true rfl) (by decide +kernel) ?_
        show rf_V 7 (rf_sh w) K 0 0 29 ([(0, .ref 206), (1, .int a1), (2, .int a2)], [.int y2], rf_MM w m2)
        refine rf_seg C [(.istore 3, 1), (.aload 0, 1), (.iload 2, 1), (.iload 1, 1)] (pc' := 33) (S' := ([(3, .int y2), (0, .ref 206), (1, .int a1), (2, .int a2)], [.int a1, .int a2, .ref 206], rf_MM w m2)) (by decide +kernel) rfl trivial ?_
        obtain ⟨y3, m3, hc3, hg⟩ := rf_b_some hg
        refine rf_callv C rf_fit0 j_X14_meanUp (ci := 14) (As := [.int a2, .int a1]) (rest := []) mw_X14_meanUp (c_X14_meanUp hc3) (by decide) rfl (by decide) lk_14_898 rfl rfl (Nat.le_of_ble_eq_true rfl) (by decide +kernel) ?_
        show rf_V 7 (rf_sh w) K 0 0 36 ([(3, .int y2), (0, .ref 206), (1, .int a1), (2, .int a2)], [.int y3], rf_MM w m3)
        refine rf_seg C [(.istore 4, 2), (.iload 3, 1), (.iconst (-2147483648), 3)] (pc' := 42) (S' := ([(4, .int y3), (3, .int y2), (0, .ref 206), (1, .int a1), (2, .int a2)], [.int ((-2147483648)), .int y2], rf_MM w m3)) (by decide +kernel) rfl trivial ?_
        refine rf_icmp_eq C 7 49 (by decide +kernel) (fun hc => ?_) (fun hc => ?_)
        · replace hg := (if_pos hc).symm.trans hg
          refine rf_seg C [(.iconst 0, 1)] (pc' := 50) (S' := ([(4, .int y3), (3, .int y2), (0, .ref 206), (1, .int a1), (2, .int a2)], [.int 0], rf_MM w m3)) (by decide +kernel) rfl trivial ?_
          refine rf_few [2, 1, 0] rfl ?_
          exact s_X14_isLevelled_50 C hE y2 y3 0 m3 hg
        · replace hg := (if_neg hc).symm.trans hg
          refine rf_seg C [(.iconst 1, 1)] (pc' := 46) (S' := ([(4, .int y3), (3, .int y2), (0, .ref 206), (1, .int a1), (2, .int a2)], [.int 1], rf_MM w m3)) (by decide +kernel) rfl trivial ?_
          refine rf_goto C 4 50 (by decide +kernel) ?_
          refine rf_few [2, 1, 0] rfl ?_
          exact s_X14_isLevelled_50 C hE y2 y3 1 m3 hg
      · replace hg := (if_pos hc).symm.trans hg
        refine rf_seg C [(.iconst 0, 1)] (pc' := 22) (S' := ([(0, .ref 206), (1, .int a1), (2, .int a2)], [.int 0], rf_MM w m1)) (by decide +kernel) rfl trivial ?_
        obtain rfl := Option.some.inj hg
        exact rf_zret C hE (by decide) (by decide +kernel)
-- X14_between
abbrev j_X14_between : rf_J := (14, yX14_between, cX14_between, 3, (some .int))
theorem mw_X14_between : rf_mv j_X14_between (rf_R 14) 2 := ⟨⟨rf_mem 93 (by decide +kernel), rf_mem 93 (by decide +kernel), rf_mem 0 (by decide +kernel), rf_mem 93 (by decide +kernel)⟩, by decide +kernel, by decide⟩
def g_X14_between (w : rf_w) (m : rf_m) (a1 : Int32) (a2 : Int32) : Option (Int32 × rf_m) := rf_b (g_X14_isLevelled w (rf_i m 206 0 0) a1 a2) fun y0 m0 => (if y0 = 0 then some ((-2147483648), m0) else some (m0.1 206 139, m0))
theorem c_X14_between {w : rf_w} {m : rf_m} {a1 : Int32} {a2 : Int32} {r : Int32 × rf_m} (hg : g_X14_between w m a1 a2 = some r) : rf_Con j_X14_between 4 (rf_sh w) [.ref 206, .int a1, .int a2] (rf_MM w m) (some (.int r.1)) (rf_MM w r.2) := by
  refine rf_con j_X14_between 4 ⟨by decide +kernel, rfl, Nat.le_of_ble_eq_true rfl⟩ (fun K C hE => ?_)
  unfold g_X14_between at hg
  show rf_V 3 (rf_sh w) K 0 0 0 ([(0, .ref 206), (1, .int a1), (2, .int a2)], [], rf_MM w m)
  refine rf_seg C [(.aload 0, 1), (.iconst 0, 1), (.multianewarray 14 0, 3), (.aload 0, 1), (.iload 1, 1), (.iload 2, 1)] (pc' := 8) (S' := ([(0, .ref 206), (1, .int a1), (2, .int a2)], [.int a2, .int a1, .ref 206], rf_MM w (rf_i m 206 0 0))) (by decide +kernel) rfl trivial ?_
  obtain ⟨y0, m0, hc0, hg⟩ := rf_b_some hg
  refine rf_callv C rf_fit0 j_X14_isLevelled (ci := 14) (As := [.int a1, .int a2]) (rest := []) mw_X14_isLevelled (c_X14_isLevelled hc0) (by decide) rfl (by decide) lk_14_907 rfl rfl (Nat.le_of_ble_eq_true rfl) (by decide +kernel) ?_
  show rf_V 3 (rf_sh w) K 0 0 11 ([(0, .ref 206), (1, .int a1), (2, .int a2)], [.int y0], rf_MM w m0)
  refine rf_if_eq C 10 21 (by decide +kernel) (fun hc => ?_) (fun hc => ?_)
  · replace hg := (if_pos hc).symm.trans hg
    refine rf_seg C [(.iconst (-2147483648), 3)] (pc' := 24) (S' := ([(0, .ref 206), (1, .int a1), (2, .int a2)], [.int ((-2147483648))], rf_MM w m0)) (by decide +kernel) rfl trivial ?_
    obtain rfl := Option.some.inj hg
    exact rf_iret C hE (by decide +kernel)
  · replace hg := (if_neg hc).symm.trans hg
    refine rf_seg C [(.aload 0, 1), (.invokeinterface 14 139, 3)] (pc' := 18) (S' := ([(0, .ref 206), (1, .int a1), (2, .int a2)], [.int (m0.1 206 139)], rf_MM w m0)) (by decide +kernel) rfl trivial ?_
    refine rf_goto C 6 24 (by decide +kernel) ?_
    obtain rfl := Option.some.inj hg
    exact rf_iret C hE (by decide +kernel)
-- X14_doubt
abbrev j_X14_doubt : rf_J := (14, yX14_doubt, cX14_doubt, 3, (some .int))
theorem mw_X14_doubt : rf_mv j_X14_doubt (rf_R 14) 2 := ⟨⟨rf_mem 94 (by decide +kernel), rf_mem 94 (by decide +kernel), rf_mem 0 (by decide +kernel), rf_mem 94 (by decide +kernel)⟩, by decide +kernel, by decide⟩
def g_X14_doubt (w : rf_w) (m : rf_m) (a1 : Int32) (a2 : Int32) : Option (Int32 × rf_m) := rf_b (g_X14_isLevelled w (rf_i m 206 0 0) a1 a2) fun y0 m0 => (if y0 = 0 then some ((-1), m0) else some (m0.1 206 140, m0))
theorem c_X14_doubt {w : rf_w} {m : rf_m} {a1 : Int32} {a2 : Int32} {r : Int32 × rf_m} (hg : g_X14_doubt w m a1 a2 = some r) : rf_Con j_X14_doubt 4 (rf_sh w) [.ref 206, .int a1, .int a2] (rf_MM w m) (some (.int r.1)) (rf_MM w r.2) := by
  refine rf_con j_X14_doubt 4 ⟨by decide +kernel, rfl, Nat.le_of_ble_eq_true rfl⟩ (fun K C hE => ?_)
  unfold g_X14_doubt at hg
  show rf_V 3 (rf_sh w) K 0 0 0 ([(0, .ref 206), (1, .int a1), (2, .int a2)], [], rf_MM w m)
  refine rf_seg C [(.aload 0, 1), (.iconst 0, 1), (.multianewarray 14 0, 3), (.aload 0, 1), (.iload 1, 1), (.iload 2, 1)] (pc' := 8) (S' := ([(0, .ref 206), (1, .int a1), (2, .int a2)], [.int a2, .int a1, .ref 206], rf_MM w (rf_i m 206 0 0))) (by decide +kernel) rfl trivial ?_
  obtain ⟨y0, m0, hc0, hg⟩ := rf_b_some hg
  refine rf_callv C rf_fit0 j_X14_isLevelled (ci := 14) (As := [.int a1, .int a2]) (rest := []) mw_X14_isLevelled (c_X14_isLevelled hc0) (by decide) rfl (by decide) lk_14_907 rfl rfl (Nat.le_of_ble_eq_true rfl) (by decide +kernel) ?_
  show rf_V 3 (rf_sh w) K 0 0 11 ([(0, .ref 206), (1, .int a1), (2, .int a2)], [.int y0], rf_MM w m0)
  refine rf_if_eq C 10 21 (by decide +kernel) (fun hc => ?_) (fun hc => ?_)
  · replace hg := (if_pos hc).symm.trans hg
    refine rf_seg C [(.iconst (-1), 1)] (pc' := 22) (S' := ([(0, .ref 206), (1, .int a1), (2, .int a2)], [.int ((-1))], rf_MM w m0)) (by decide +kernel) rfl trivial ?_
    obtain rfl := Option.some.inj hg
    exact rf_iret C hE (by decide +kernel)
  · replace hg := (if_neg hc).symm.trans hg
    refine rf_seg C [(.aload 0, 1), (.invokeinterface 14 140, 3)] (pc' := 18) (S' := ([(0, .ref 206), (1, .int a1), (2, .int a2)], [.int (m0.1 206 140)], rf_MM w m0)) (by decide +kernel) rfl trivial ?_
    refine rf_goto C 4 22 (by decide +kernel) ?_
    obtain rfl := Option.some.inj hg
    exact rf_iret C hE (by decide +kernel)
-- X14_mass
abbrev j_X14_mass : rf_J := (14, yX14_mass, cX14_mass, 3, (some .int))
theorem mw_X14_mass : rf_mv j_X14_mass (rf_R 14) 2 := ⟨⟨rf_mem 94 (by decide +kernel), rf_mem 94 (by decide +kernel), rf_mem 0 (by decide +kernel), rf_mem 94 (by decide +kernel)⟩, by decide +kernel, by decide⟩
def g_X14_mass (w : rf_w) (m : rf_m) (a1 : Int32) (a2 : Int32) : Option (Int32 × rf_m) := rf_b (g_X14_isCell w (rf_i m 206 0 0) a1) fun y0 m0 => (if y0 = 0 then rf_b (g_X14_refused w m0 1) fun y7 m7 => some (y7, m7) else rf_b (g_X14_in w m0 a2 1 1000000) fun y1 m1 => (if y1 = 0 then rf_b (g_X14_refused w m1 2) fun y6 m6 => some (y6, m6) else (if (m1.1 206 137) = 12 then rf_b (g_X14_refused w m1 3) fun y5 m5 => some (y5, m5) else rf_g (rf_in (m1.1 206 137) 12) (rf_g (rf_in ((rf_i m1 301 (Int32.toNatClampNeg (m1.1 206 137)) a1).1 206 137) 12) (rf_b (g_X14_done w (rf_i (rf_i (rf_i m1 301 (Int32.toNatClampNeg (m1.1 206 137)) a1) 302 (Int32.toNatClampNeg ((rf_i m1 301 (Int32.toNatClampNeg (m1.1 206 137)) a1).1 206 137)) a2) 206 137 (((rf_i (rf_i m1 301 (Int32.toNatClampNeg (m1.1 206 137)) a1) 302 (Int32.toNatClampNeg ((rf_i m1 301 (Int32.toNatClampNeg (m1.1 206 137)) a1).1 206 137)) a2).1 206 137) + 1)) (((rf_i (rf_i (rf_i m1 301 (Int32.toNatClampNeg (m1.1 206 137)) a1) 302 (Int32.toNatClampNeg ((rf_i m1 301 (Int32.toNatClampNeg (m1.1 206 137)) a1).1 206 137)) a2) 206 137 (((rf_i (rf_i m1 301 (Int32.toNatClampNeg (m1.1 206 137)) a1) 302 (Int32.toNatClampNeg ((rf_i m1 301 (Int32.toNatClampNeg (m1.1 206 137)) a1).1 206 137)) a2).1 206 137) + 1)).1 206 137) - 1)) fun y4 m4 => some (y4, m4))))))
theorem c_X14_mass {w : rf_w} {m : rf_m} {a1 : Int32} {a2 : Int32} {r : Int32 × rf_m} (hg : g_X14_mass w m a1 a2 = some r) : rf_Con j_X14_mass 2 (rf_sh w) [.ref 206, .int a1, .int a2] (rf_MM w m) (some (.int r.1)) (rf_MM w r.2) := by
  refine rf_con j_X14_mass 2 ⟨by decide +kernel, rfl, Nat.le_of_ble_eq_true rfl⟩ (fun K C hE => ?_)
  unfold g_X14_mass at hg
  show rf_V 3 (rf_sh w) K 0 0 0 ([(0, .ref 206), (1, .int a1), (2, .int a2)], [], rf_MM w m)
  refine rf_seg C [(.aload 0, 1), (.iconst 0, 1), (.multianewarray 14 0, 3), (.iload 1, 1)] (pc' := 6) (S' := ([(0, .ref 206), (1, .int a1), (2, .int a2)], [.int a1], rf_MM w (rf_i m 206 0 0))) (by decide +kernel) rfl trivial ?_
  obtain ⟨y0, m0, hc0, hg⟩ := rf_b_some hg
  refine rf_calls C rf_fit0 j_X14_isCell (As := [.int a1]) (rest := []) mw_X14_isCell (c_X14_isCell hc0) (by decide) lk_14_338 rfl rfl (Nat.le_of_ble_eq_true rfl) (by decide +kernel) ?_
  show rf_V 3 (rf_sh w) K 0 0 9 ([(0, .ref 206), (1, .int a1), (2, .int a2)], [.int y0], rf_MM w m0)
  refine rf_if_ne C 9 18 (by decide +kernel) (fun hc => ?_) (fun hc => ?_)
  · replace hg := (if_neg hc).symm.trans hg
    refine rf_seg C [(.iload 2, 1), (.iconst 1, 1), (.iconst 1000000, 3)] (pc' := 23) (S' := ([(0, .ref 206), (1, .int a1), (2, .int a2)], [.int 1000000, .int 1, .int a2], rf_MM w m0)) (by decide +kernel) rfl trivial ?_
    obtain ⟨y1, m1, hc1, hg⟩ := rf_b_some hg
    refine rf_calls C rf_fit0 j_X14_in (As := [.int a2, .int 1, .int 1000000]) (rest := []) mw_X14_in (c_X14_in hc1) (by decide) lk_14_345 rfl rfl (Nat.le_of_ble_eq_true rfl) (by decide +kernel) ?_
    show rf_V 3 (rf_sh w) K 0 0 26 ([(0, .ref 206), (1, .int a1), (2, .int a2)], [.int y1], rf_MM w m1)
    refine rf_if_ne C 9 35 (by decide +kernel) (fun hc => ?_) (fun hc => ?_)
    · replace hg := (if_neg hc).symm.trans hg
      refine rf_seg C [(.aload 0, 1), (.invokeinterface 14 137, 3), (.iconst 12, 2)] (pc' := 41) (S' := ([(0, .ref 206), (1, .int a1), (2, .int a2)], [.int 12, .int (m1.1 206 137)], rf_MM w m1)) (by decide +kernel) rfl trivial ?_
      refine rf_icmp_ne C 9 50 (by decide +kernel) (fun hc => ?_) (fun hc => ?_)
      · replace hg := (if_neg hc).symm.trans hg
        obtain ⟨q2, hg⟩ := rf_g_some hg
        obtain ⟨q3, hg⟩ := rf_g_some hg
        refine rf_seg C [(.aload 0, 1), (.invokeinterface 14 144, 3), (.aload 0, 1), (.invokeinterface 14 137, 3), (.iload 1, 1), (.iastore, 1), (.aload 0, 1), (.invokeinterface 14 145, 3), (.aload 0, 1), (.invokeinterface 14 137, 3), (.iload 2, 1), (.iastore, 1), (.aload 0, 1), (.dup, 1), (.invokeinterface 14 137, 3), (.iconst 1, 1), (.iadd, 1), (.multianewarray 14 137, 3), (.aload 0, 1), (.aload 0, 1), (.invokeinterface 14 137, 3), (.iconst 1, 1), (.isub, 1)] (pc' := 87) (S' := ([(0, .ref 206), (1, .int a1), (2, .int a2)], [.int (((rf_i (rf_i (rf_i m1 301 (Int32.toNatClampNeg (m1.1 206 137)) a1) 302 (Int32.toNatClampNeg ((rf_i m1 301 (Int32.toNatClampNeg (m1.1 206 137)) a1).1 206 137)) a2) 206 137 (((rf_i (rf_i m1 301 (Int32.toNatClampNeg (m1.1 206 137)) a1) 302 (Int32.toNatClampNeg ((rf_i m1 301 (Int32.toNatClampNeg (m1.1 206 137)) a1).1 206 137)) a2).1 206 137) + 1)).1 206 137) - 1), .ref 206], rf_MM w (rf_i (rf_i (rf_i m1 301 (Int32.toNatClampNeg (m1.1 206 137)) a1) 302 (Int32.toNatClampNeg ((rf_i m1 301 (Int32.toNatClampNeg (m1.1 206 137)) a1).1 206 137)) a2) 206 137 (((rf_i (rf_i m1 301 (Int32.toNatClampNeg (m1.1 206 137)) a1) 302 (Int32.toNatClampNeg ((rf_i m1 301 (Int32.toNatClampNeg (m1.1 206 137)) a1).1 206 137)) a2).1 206 137) + 1)))) (by decide +kernel) rfl (by exact ⟨(rf_in_of q2), (rf_in_of q3)⟩) ?_
        obtain ⟨y4, m4, hc4, hg⟩ := rf_b_some hg
        refine rf_callv C rf_fit0 j_X14_done (ci := 14) (As := [.int (((rf_i (rf_i (rf_i m1 301 (Int32.toNatClampNeg (m1.1 206 137)) a1) 302 (Int32.toNatClampNeg ((rf_i m1 301 (Int32.toNatClampNeg (m1.1 206 137)) a1).1 206 137)) a2) 206 137 (((rf_i (rf_i m1 301 (Int32.toNatClampNeg (m1.1 206 137)) a1) 302 (Int32.toNatClampNeg ((rf_i m1 301 (Int32.toNatClampNeg (m1.1 206 137)) a1).1 206 137)) a2).1 206 137) + 1)).1 206 137) - 1)]) (rest := []) mw_X14_done (c_X14_done hc4) (by decide) rfl (by decide) lk_14_357 rfl rfl (Nat.le_of_ble_eq_true rfl) (by decide +kernel) ?_
        show rf_V 3 (rf_sh w) K 0 0 90 ([(0, .ref 206), (1, .int a1), (2, .int a2)], [.int y4], rf_MM w m4)
        obtain rfl := Option.some.inj hg
        exact rf_iret C hE (by decide +kernel)
      · replace hg := (if_pos hc).symm.trans hg
        refine rf_seg C [(.aload 0, 1), (.iconst 3, 1)] (pc' := 46) (S' := ([(0, .ref 206), (1, .int a1), (2, .int a2)], [.int 3, .ref 206], rf_MM w m1)) (by decide +kernel) rfl trivial ?_
        obtain ⟨y5, m5, hc5, hg⟩ := rf_b_some hg
        refine rf_callv C rf_fit0 j_X14_refused (ci := 14) (As := [.int 3]) (rest := []) mw_X14_refused (c_X14_refused hc5) (by decide) rfl (by decide) lk_14_353 rfl rfl (Nat.le_of_ble_eq_true rfl) (by decide +kernel) ?_
        show rf_V 3 (rf_sh w) K 0 0 49 ([(0, .ref 206), (1, .int a1), (2, .int a2)], [.int y5], rf_MM w m5)
        obtain rfl := Option.some.inj hg
        exact rf_iret C hE (by decide +kernel)
    · replace hg := (if_pos hc).symm.trans hg
      refine rf_seg C [(.aload 0, 1), (.iconst 2, 1)] (pc' := 31) (S' := ([(0, .ref 206), (1, .int a1), (2, .int a2)], [.int 2, .ref 206], rf_MM w m1)) (by decide +kernel) rfl trivial ?_
      obtain ⟨y6, m6, hc6, hg⟩ := rf_b_some hg
      refine rf_callv C rf_fit0 j_X14_refused (ci := 14) (As := [.int 2]) (rest := []) mw_X14_refused (c_X14_refused hc6) (by decide) rfl (by decide) lk_14_353 rfl rfl (Nat.le_of_ble_eq_true rfl) (by decide +kernel) ?_
      show rf_V 3 (rf_sh w) K 0 0 34 ([(0, .ref 206), (1, .int a1), (2, .int a2)], [.int y6], rf_MM w m6)
      obtain rfl := Option.some.inj hg
      exact rf_iret C hE (by decide +kernel)
  · replace hg := (if_pos hc).symm.trans hg
    refine rf_seg C [(.aload 0, 1), (.iconst 1, 1)] (pc' := 14) (S' := ([(0, .ref 206), (1, .int a1), (2, .int a2)], [.int 1, .ref 206], rf_MM w m0)) (by decide +kernel) rfl trivial ?_
    obtain ⟨y7, m7, hc7, hg⟩ := rf_b_some hg
    refine rf_callv C rf_fit0 j_X14_refused (ci := 14) (As := [.int 1]) (rest := []) mw_X14_refused (c_X14_refused hc7) (by decide) rfl (by decide) lk_14_353 rfl rfl (Nat.le_of_ble_eq_true rfl) (by decide +kernel) ?_
    show rf_V 3 (rf_sh w) K 0 0 17 ([(0, .ref 206), (1, .int a1), (2, .int a2)], [.int y7], rf_MM w m7)
    obtain rfl := Option.some.inj hg
    exact rf_iret C hE (by decide +kernel)
-- X14_pull
abbrev j_X14_pull : rf_J := (14, yX14_pull, cX14_pull, 7, (some .int))
theorem mw_X14_pull : rf_mv j_X14_pull (rf_R 14) 2 := ⟨⟨rf_mem 95 (by decide +kernel), rf_mem 95 (by decide +kernel), rf_mem 0 (by decide +kernel), rf_mem 95 (by decide +kernel)⟩, by decide +kernel, by decide⟩
def g_X14_pull_122 (w : rf_w) (rec22 : Int32 → Int32 → Int32 → Int32 → rf_m → Option (Int32 × rf_m)) (a1 : Int32) (a2 : Int32) (a3 : Int32) (a4 : Int32) (m : rf_m) : Option (Int32 × rf_m) := rec22 a1 a2 a3 (a4 + 1) m
def g_X14_pull_107 (w : rf_w) (rec22 : Int32 → Int32 → Int32 → Int32 → rf_m → Option (Int32 × rf_m)) (a1 : Int32) (a2 : Int32) (a4 : Int32) (a5 : Int32) (a6 : Int32) (s0 : Int32) (s1 : Int32) (s2 : Int32) (m : rf_m) : Option (Int32 × rf_m) := rf_g (rf_nz ((a5 * a5) + (a6 * a6))) (rf_vi (s0 + ((s1 * s2) / ((a5 * a5) + (a6 * a6)))) fun x1 => g_X14_pull_122 w rec22 a1 a2 x1 a4 m)
def g_X14_pull_88 (w : rf_w) (rec22 : Int32 → Int32 → Int32 → Int32 → rf_m → Option (Int32 × rf_m)) (a1 : Int32) (a2 : Int32) (a3 : Int32) (a4 : Int32) (a5 : Int32) (a6 : Int32) (m : rf_m) : Option (Int32 × rf_m) := rf_g (rf_in a4 12) ((if a2 = 0 then g_X14_pull_107 w rec22 a1 a2 a4 a5 a6 a3 (m.1 302 (Int32.toNatClampNeg a4)) a5 m else g_X14_pull_107 w rec22 a1 a2 a4 a5 a6 a3 (m.1 302 (Int32.toNatClampNeg a4)) a6 m))
def g_X14_pull_22_b (w : rf_w) (rec22 : Int32 → Int32 → Int32 → Int32 → rf_m → Option (Int32 × rf_m)) (a1 : Int32) (a2 : Int32) (a3 : Int32) (a4 : Int32) (m : rf_m) : Option (Int32 × rf_m) := (if (m.1 206 137) ≤ a4 then some (a3, m) else rf_g (rf_in a4 12) (rf_g (rf_in a1 30) (rf_vi (((m.1 301 (Int32.toNatClampNeg a4)) - (m.1 301 (Int32.toNatClampNeg a4)) / 32 * 32) - ((m.1 209 (Int32.toNatClampNeg a1)) - (m.1 209 (Int32.toNatClampNeg a1)) / 32 * 32)) fun x2 => rf_g (rf_in a4 12) (rf_g (rf_in a1 30) (rf_vi (((m.1 301 (Int32.toNatClampNeg a4)) / 32) - ((m.1 209 (Int32.toNatClampNeg a1)) / 32)) fun x5 => (if x2 = 0 then (if x5 = 0 then g_X14_pull_122 w rec22 a1 a2 a3 a4 m else g_X14_pull_88 w rec22 a1 a2 a3 a4 x2 x5 m) else g_X14_pull_88 w rec22 a1 a2 a3 a4 x2 x5 m))))))
def g_X14_pull_22 (w : rf_w) : Nat → Int32 → Int32 → Int32 → Int32 → rf_m → Option (Int32 × rf_m)
  | 0, _, _, _, _, _ => none
  | n + 1, a1, a2, a3, a4, m => g_X14_pull_22_b w (g_X14_pull_22 w n) a1 a2 a3 a4 m
def g_X14_pull (w : rf_w) (m : rf_m) (a1 : Int32) (a2 : Int32) : Option (Int32 × rf_m) := rf_b (g_X14_isMark w (rf_i m 206 0 0) a1) fun y0 m0 => (if y0 = 0 then some ((-2147483648), m0) else g_X14_pull_22 w rf_fuel a1 a2 0 0 m0)
theorem s_X14_pull_122 {w : rf_w} {K : rf_K} {r : Int32 × rf_m} (C : rf_Ctx 14 cX14_pull 7 2 (rf_sh w) K) (hE : rf_End (some .int) K (rf_sh w) 0 0 (some (.int r.1)) (rf_MM w r.2)) {rec22 : Int32 → Int32 → Int32 → Int32 → rf_m → Option (Int32 × rf_m)} (hr22 : ∀ (a1 : Int32) (a2 : Int32) (a3 : Int32) (a4 : Int32) (m : rf_m), rec22 a1 a2 a3 a4 m = some r → rf_V 7 (rf_sh w) K 0 0 22 ([(0, .ref 206), (1, .int a1), (2, .int a2), (3, .int a3), (4, .int a4)], [], rf_MM w m)) (a1 : Int32) (a2 : Int32) (a3 : Int32) (a4 : Int32) (m : rf_m) (hg : g_X14_pull_122 w rec22 a1 a2 a3 a4 m = some r) : rf_V 7 (rf_sh w) K 0 0 122 ([(0, .ref 206), (1, .int a1), (2, .int a2), (3, .int a3), (4, .int a4)], [], rf_MM w m) := by
  unfold g_X14_pull_122 at hg
  refine rf_seg C [(.iinc 4 1, 3)] (pc' := 125) (S' := ([(4, .int (a4 + 1)), (0, .ref 206), (1, .int a1), (2, .int a2), (3, .int a3)], [], rf_MM w m)) (by decide +kernel) rfl trivial ?_
  refine rf_goto C (-103) 22 (by decide +kernel) ?_
  refine rf_few [1, 2, 3, 4, 0] rfl ?_
  exact hr22 a1 a2 a3 (a4 + 1) m hg
theorem s_X14_pull_107 {w : rf_w} {K : rf_K} {r : Int32 × rf_m} (C : rf_Ctx 14 cX14_pull 7 2 (rf_sh w) K) (hE : rf_End (some .int) K (rf_sh w) 0 0 (some (.int r.1)) (rf_MM w r.2)) {rec22 : Int32 → Int32 → Int32 → Int32 → rf_m → Option (Int32 × rf_m)} (hr22 : ∀ (a1 : Int32) (a2 : Int32) (a3 : Int32) (a4 : Int32) (m : rf_m), rec22 a1 a2 a3 a4 m = some r → rf_V 7 (rf_sh w) K 0 0 22 ([(0, .ref 206), (1, .int a1), (2, .int a2), (3, .int a3), (4, .int a4)], [], rf_MM w m)) (a1 : Int32) (a2 : Int32) (a4 : Int32) (a5 : Int32) (a6 : Int32) (s0 : Int32) (s1 : Int32) (s2 : Int32) (m : rf_m) (hg : g_X14_pull_107 w rec22 a1 a2 a4 a5 a6 s0 s1 s2 m = some r) : rf_V 7 (rf_sh w) K 0 0 107 ([(0, .ref 206), (1, .int a1), (2, .int a2), (4, .int a4), (5, .int a5), (6, .int a6)], [.int s2, .int s1, .int s0], rf_MM w m) := by
  unfold g_X14_pull_107 at hg
  obtain ⟨q0, hg⟩ := rf_g_some hg
  refine rf_seg C [(.imul, 1), (.iload 5, 2), (.iload 5, 2), (.imul, 1), (.iload 6, 2), (.iload 6, 2), (.imul, 1), (.iadd, 1), (.idiv, 1), (.iadd, 1)] (pc' := 121) (S' := ([(0, .ref 206), (1, .int a1), (2, .int a2), (4, .int a4), (5, .int a5), (6, .int a6)], [.int (s0 + ((s1 * s2) / ((a5 * a5) + (a6 * a6))))], rf_MM w m)) (by decide +kernel) rfl (rf_nz_of q0) ?_
  obtain ⟨x1, hx1, hg⟩ := rf_vi_some hg
  refine rf_vi_top hx1 ?_
  refine rf_seg C [(.istore 3, 1)] (pc' := 122) (S' := ([(3, .int x1), (0, .ref 206), (1, .int a1), (2, .int a2), (4, .int a4), (5, .int a5), (6, .int a6)], [], rf_MM w m)) (by decide +kernel) rfl trivial ?_
  refine rf_few [1, 2, 3, 0, 4] rfl ?_
  exact s_X14_pull_122 C hE hr22 a1 a2 x1 a4 m hg
theorem s_X14_pull_88 {w : rf_w} {K : rf_K} {r : Int32 × rf_m} (C : rf_Ctx 14 cX14_pull 7 2 (rf_sh w) K) (hE : rf_End (some .int) K (rf_sh w) 0 0 (some (.int r.1)) (rf_MM w r.2)) {rec22 : Int32 → Int32 → Int32 → Int32 → rf_m → Option (Int32 × rf_m)} (hr22 : ∀ (a1 : Int32) (a2 : Int32) (a3 : Int32) (a4 : Int32) (m : rf_m), rec22 a1 a2 a3 a4 m = some r → rf_V 7 (rf_sh w) K 0 0 22 ([(0, .ref 206), (1, .int a1), (2, .int a2), (3, .int a3), (4, .int a4)], [], rf_MM w m)) (a1 : Int32) (a2 : Int32) (a3 : Int32) (a4 : Int32) (a5 : Int32) (a6 : Int32) (m : rf_m) (hg : g_X14_pull_88 w rec22 a1 a2 a3 a4 a5 a6 m = some r) : rf_V 7 (rf_sh w) K 0 0 88 ([(0, .ref 206), (1, .int a1), (2, .int a2), (3, .int a3), (4, .int a4), (5, .int a5), (6, .int a6)], [], rf_MM w m) := by
  unfold g_X14_pull_88 at hg
  obtain ⟨q0, hg⟩ := rf_g_some hg
  refine rf_seg C [(.iload 3, 1), (.aload 0, 1), (.invokeinterface 14 145, 3), (.iload 4, 2), (.iaload, 1), (.iload 2, 1)] (pc' := 97) (S' := ([(0, .ref 206), (1, .int a1), (2, .int a2), (3, .int a3), (4, .int a4), (5, .int a5), (6, .int a6)], [.int a2, .int (m.1 302 (Int32.toNatClampNeg a4)), .int a3], rf_MM w m)) (by decide +kernel) rfl (rf_in_of q0) ?_
  refine rf_if_eq C 8 105 (by decide +kernel) (fun hc => ?_) (fun hc => ?_)
  · replace hg := (if_pos hc).symm.trans hg
    refine rf_seg C [(.iload 5, 2)] (pc' := 107) (S' := ([(0, .ref 206), (1, .int a1), (2, .int a2), (3, .int a3), (4, .int a4), (5, .int a5), (6, .int a6)], [.int a5, .int (m.1 302 (Int32.toNatClampNeg a4)), .int a3], rf_MM w m)) (by decide +kernel) rfl trivial ?_
    refine rf_few [0, 1, 2, 4, 5, 6] rfl ?_
    exact s_X14_pull_107 C hE hr22 a1 a2 a4 a5 a6 a3 (m.1 302 (Int32.toNatClampNeg a4)) a5 m hg
  · replace hg := (if_neg hc).symm.trans hg
    refine rf_seg C [(.iload 6, 2)] (pc' := 102) (S' := ([(0, .ref 206), (1, .int a1), (2, .int a2), (3, .int a3), (4, .int a4), (5, .int a5), (6, .int a6)], [.int a6, .int (m.1 302 (Int32.toNatClampNeg a4)), .int a3], rf_MM w m)) (by decide +kernel) rfl trivial ?_
    refine rf_goto C 5 107 (by decide +kernel) ?_
    refine rf_few [0, 1, 2, 4, 5, 6] rfl ?_
    exact s_X14_pull_107 C hE hr22 a1 a2 a4 a5 a6 a3 (m.1 302 (Int32.toNatClampNeg a4)) a6 m hg
theorem s_X14_pull_22_b {w : rf_w} {K : rf_K} {r : Int32 × rf_m} (C : rf_Ctx 14 cX14_pull 7 2 (rf_sh w) K) (hE : rf_End (some .int) K (rf_sh w) 0 0 (some (.int r.1)) (rf_MM w r.2)) {rec22 : Int32 → Int32 → Int32 → Int32 → rf_m → Option (Int32 × rf_m)} (hr22 : ∀ (a1 : Int32) (a2 : Int32) (a3 : Int32) (a4 : Int32) (m : rf_m), rec22 a1 a2 a3 a4 m = some r → rf_V 7 (rf_sh w) K 0 0 22 ([(0, .ref 206), (1, .int a1), (2, .int a2), (3, .int a3), (4, .int a4)], [], rf_MM w m)) (a1 : Int32) (a2 : Int32) (a3 : Int32) (a4 : Int32) (m : rf_m) (hg : g_X14_pull_22_b w rec22 a1 a2 a3 a4 m = some r) : rf_V 7 (rf_sh w) K 0 0 22 ([(0, .ref 206), (1, .int a1), (2, .int a2), (3, .int a3), (4, .int a4)], [], rf_MM w m) := by
  unfold g_X14_pull_22_b at hg
  refine rf_seg C [(.iload 4, 2), (.aload 0, 1), (.invokeinterface 14 137, 3)] (pc' := 28) (S' := ([(0, .ref 206), (1, .int a1), (2, .int a2), (3, .int a3), (4, .int a4)], [.int (m.1 206 137), .int a4], rf_MM w m)) (by decide +kernel) rfl trivial ?_
  refine rf_icmp_ge C 100 128 (by decide +kernel) (fun hc => ?_) (fun hc => ?_)
  · replace hg := (if_pos hc).symm.trans hg
    refine rf_seg C [(.iload 3, 1)] (pc' := 129) (S' := ([(0, .ref 206), (1, .int a1), (2, .int a2), (3, .int a3), (4, .int a4)], [.int a3], rf_MM w m)) (by decide +kernel) rfl trivial ?_
    obtain rfl := Option.some.inj hg
    exact rf_iret C hE (by decide +kernel)
  · replace hg := (if_neg hc).symm.trans hg
    obtain ⟨q0, hg⟩ := rf_g_some hg
    obtain ⟨q1, hg⟩ := rf_g_some hg
    refine rf_seg C [(.aload 0, 1), (.invokeinterface 14 144, 3), (.iload 4, 2), (.iaload, 1), (.iconst 32, 2), (.irem, 1), (.aload 0, 1), (.invokeinterface 14 9, 3), (.iload 1, 1), (.iaload, 1), (.iconst 32, 2), (.irem, 1), (.isub, 1)] (pc' := 51) (S' := ([(0, .ref 206), (1, .int a1), (2, .int a2), (3, .int a3), (4, .int a4)], [.int (((m.1 301 (Int32.toNatClampNeg a4)) - (m.1 301 (Int32.toNatClampNeg a4)) / 32 * 32) - ((m.1 209 (Int32.toNatClampNeg a1)) - (m.1 209 (Int32.toNatClampNeg a1)) / 32 * 32))], rf_MM w m)) (by decide +kernel) rfl (by exact ⟨(rf_in_of q0), (rf_nz_of (by decide)), (rf_in_of q1), (rf_nz_of (by decide))⟩) ?_
    obtain ⟨x2, hx2, hg⟩ := rf_vi_some hg
    refine rf_vi_top hx2 ?_
    obtain ⟨q3, hg⟩ := rf_g_some hg
    obtain ⟨q4, hg⟩ := rf_g_some hg
    refine rf_seg C [(.istore 5, 2), (.aload 0, 1), (.invokeinterface 14 144, 3), (.iload 4, 2), (.iaload, 1), (.iconst 32, 2), (.idiv, 1), (.aload 0, 1), (.invokeinterface 14 9, 3), (.iload 1, 1), (.iaload, 1), (.iconst 32, 2), (.idiv, 1), (.isub, 1)] (pc' := 73) (S' := ([(5, .int x2), (0, .ref 206), (1, .int a1), (2, .int a2), (3, .int a3), (4, .int a4)], [.int (((m.1 301 (Int32.toNatClampNeg a4)) / 32) - ((m.1 209 (Int32.toNatClampNeg a1)) / 32))], rf_MM w m)) (by decide +kernel) rfl (by exact ⟨(rf_in_of q3), (rf_nz_of (by decide)), (rf_in_of q4), (rf_nz_of (by decide))⟩) ?_
    obtain ⟨x5, hx5, hg⟩ := rf_vi_some hg
    refine rf_vi_top hx5 ?_
    refine rf_seg C [(.istore 6, 2), (.iload 5, 2)] (pc' := 77) (S' := ([(6, .int x5), (5, .int x2), (0, .ref 206), (1, .int a1), (2, .int a2), (3, .int a3), (4, .int a4)], [.int x2], rf_MM w m)) (by decide +kernel) rfl trivial ?_
    refine rf_if_ne C 11 88 (by decide +kernel) (fun hc => ?_) (fun hc => ?_)
    · replace hg := (if_neg hc).symm.trans hg
      refine rf_few [2, 3, 4, 5, 6, 1, 0] rfl ?_
      exact s_X14_pull_88 C hE hr22 a1 a2 a3 a4 x2 x5 m hg
    · replace hg := (if_pos hc).symm.trans hg
      refine rf_seg C [(.iload 6, 2)] (pc' := 82) (S' := ([(6, .int x5), (5, .int x2), (0, .ref 206), (1, .int a1), (2, .int a2), (3, .int a3), (4, .int a4)], [.int x5], rf_MM w m)) (by decide +kernel) rfl trivial ?_
      refine rf_if_ne C 6 88 (by decide +kernel) (fun hc => ?_) (fun hc => ?_)
      · replace hg := (if_neg hc).symm.trans hg
        refine rf_few [2, 3, 4, 5, 6, 1, 0] rfl ?_
        exact s_X14_pull_88 C hE hr22 a1 a2 a3 a4 x2 x5 m hg
      · replace hg := (if_pos hc).symm.trans hg
        refine rf_goto C 37 122 (by decide +kernel) ?_
        refine rf_few [2, 3, 4, 5, 6] rfl ?_
        exact s_X14_pull_122 C hE hr22 a1 a2 a3 a4 m hg
theorem s_X14_pull_22 {w : rf_w} {K : rf_K} {r : Int32 × rf_m} (C : rf_Ctx 14 cX14_pull 7 2 (rf_sh w) K) (hE : rf_End (some .int) K (rf_sh w) 0 0 (some (.int r.1)) (rf_MM w r.2)) (n : Nat) : ∀ (a1 : Int32) (a2 : Int32) (a3 : Int32) (a4 : Int32) (m : rf_m), g_X14_pull_22 w n a1 a2 a3 a4 m = some r → rf_V 7 (rf_sh w) K 0 0 22 ([(0, .ref 206), (1, .int a1), (2, .int a2), (3, .int a3), (4, .int a4)], [], rf_MM w m) := by
  induction n with
  | zero => intro a1 a2 a3 a4 m hg; cases hg
  | succ n ih => intro a1 a2 a3 a4 m hg; exact s_X14_pull_22_b C hE ih a1 a2 a3 a4 m hg
theorem c_X14_pull {w : rf_w} {m : rf_m} {a1 : Int32} {a2 : Int32} {r : Int32 × rf_m} (hg : g_X14_pull w m a1 a2 = some r) : rf_Con j_X14_pull 2 (rf_sh w) [.ref 206, .int a1, .int a2] (rf_MM w m) (some (.int r.1)) (rf_MM w r.2) := by
  refine rf_con j_X14_pull 2 ⟨by decide +kernel, rfl, Nat.le_of_ble_eq_true rfl⟩ (fun K C hE => ?_)
  unfold g_X14_pull at hg
  show rf_V 7 (rf_sh w) K 0 0 0 ([(0, .ref 206), (1, .int a1), (2, .int a2)], [], rf_MM w m)
  refine rf_seg C [(.aload 0, 1), (.iconst 0, 1), (.multianewarray 14 0, 3), (.aload 0, 1), (.iload 1, 1)] (pc' := 7) (S' := ([(0, .ref 206), (1, .int a1), (2, .int a2)], [.int a1, .ref 206], rf_MM w (rf_i m 206 0 0))) (by decide +kernel) rfl trivial ?_
  obtain ⟨y0, m0, hc0, hg⟩ := rf_b_some hg
  refine rf_callv C rf_fit0 j_X14_isMark (ci := 14) (As := [.int a1]) (rest := []) mw_X14_isMark (c_X14_isMark hc0) (by decide) rfl (by decide) lk_14_360 rfl rfl (Nat.le_of_ble_eq_true rfl) (by decide +kernel) ?_
  show rf_V 7 (rf_sh w) K 0 0 10 ([(0, .ref 206), (1, .int a1), (2, .int a2)], [.int y0], rf_MM w m0)
  refine rf_if_ne C 7 17 (by decide +kernel) (fun hc => ?_) (fun hc => ?_)
  · replace hg := (if_neg hc).symm.trans hg
    refine rf_seg C [(.iconst 0, 1), (.istore 3, 1), (.iconst 0, 1), (.istore 4, 2)] (pc' := 22) (S' := ([(4, .int 0), (3, .int 0), (0, .ref 206), (1, .int a1), (2, .int a2)], [], rf_MM w m0)) (by decide +kernel) rfl trivial ?_
    refine rf_few [2, 3, 4, 1, 0] rfl ?_
    exact s_X14_pull_22 C hE rf_fuel a1 a2 0 0 m0 hg
  · replace hg := (if_pos hc).symm.trans hg
    refine rf_seg C [(.iconst (-2147483648), 3)] (pc' := 16) (S' := ([(0, .ref 206), (1, .int a1), (2, .int a2)], [.int ((-2147483648))], rf_MM w m0)) (by decide +kernel) rfl trivial ?_
    obtain rfl := Option.some.inj hg
    exact rf_iret C hE (by decide +kernel)
-- X14_arc
abbrev j_X14_arc : rf_J := (14, yX14_arc, cX14_arc, 3, (some .int))
theorem mw_X14_arc : rf_mv j_X14_arc (rf_R 14) 2 := ⟨⟨rf_mem 95 (by decide +kernel), rf_mem 95 (by decide +kernel), rf_mem 0 (by decide +kernel), rf_mem 96 (by decide +kernel)⟩, by decide +kernel, by decide⟩
def g_X14_arc (w : rf_w) (m : rf_m) (a1 : Int32) (a2 : Int32) : Option (Int32 × rf_m) := rf_b (g_X14_in w (rf_i m 206 0 0) a1 0 90) fun y0 m0 => (if y0 = 0 then rf_b (g_X14_refused w m0 2) fun y1 m1 => some (y1, m1) else rf_b (g_X14_in w m0 a2 1 1000000) fun y2 m2 => (if y2 = 0 then rf_b (g_X14_refused w m2 2) fun y7 m7 => some (y7, m7) else (if (m2.1 206 138) = 30 then rf_b (g_X14_refused w m2 3) fun y6 m6 => some (y6, m6) else rf_g (rf_in (m2.1 206 138) 30) (rf_g (rf_in ((rf_i m2 303 (Int32.toNatClampNeg (m2.1 206 138)) a1).1 206 138) 30) (rf_b (g_X14_done w (rf_i (rf_i (rf_i m2 303 (Int32.toNatClampNeg (m2.1 206 138)) a1) 304 (Int32.toNatClampNeg ((rf_i m2 303 (Int32.toNatClampNeg (m2.1 206 138)) a1).1 206 138)) a2) 206 138 (((rf_i (rf_i m2 303 (Int32.toNatClampNeg (m2.1 206 138)) a1) 304 (Int32.toNatClampNeg ((rf_i m2 303 (Int32.toNatClampNeg (m2.1 206 138)) a1).1 206 138)) a2).1 206 138) + 1)) (((rf_i (rf_i (rf_i m2 303 (Int32.toNatClampNeg (m2.1 206 138)) a1) 304 (Int32.toNatClampNeg ((rf_i m2 303 (Int32.toNatClampNeg (m2.1 206 138)) a1).1 206 138)) a2) 206 138 (((rf_i (rf_i m2 303 (Int32.toNatClampNeg (m2.1 206 138)) a1) 304 (Int32.toNatClampNeg ((rf_i m2 303 (Int32.toNatClampNeg (m2.1 206 138)) a1).1 206 138)) a2).1 206 138) + 1)).1 206 138) - 1)) fun y5 m5 => some (y5, m5))))))
theorem c_X14_arc {w : rf_w} {m : rf_m} {a1 : Int32} {a2 : Int32} {r : Int32 × rf_m} (hg : g_X14_arc w m a1 a2 = some r) : rf_Con j_X14_arc 2 (rf_sh w) [.ref 206, .int a1, .int a2] (rf_MM w m) (some (.int r.1)) (rf_MM w r.2) := by
  refine rf_con j_X14_arc 2 ⟨by decide +kernel, rfl, Nat.le_of_ble_eq_true rfl⟩ (fun K C hE => ?_)
  unfold g_X14_arc at hg
  show rf_V 3 (rf_sh w) K 0 0 0 ([(0, .ref 206), (1, .int a1), (2, .int a2)], [], rf_MM w m)
  refine rf_seg C [(.aload 0, 1), (.iconst 0, 1), (.multianewarray 14 0, 3), (.iload 1, 1), (.iconst 0, 1), (.iconst 90, 2)] (pc' := 9) (S' := ([(0, .ref 206), (1, .int a1), (2, .int a2)], [.int 90, .int 0, .int a1], rf_MM w (rf_i m 206 0 0))) (by decide +kernel) rfl trivial ?_
  obtain ⟨y0, m0, hc0, hg⟩ := rf_b_some hg
  refine rf_calls C rf_fit0 j_X14_in (As := [.int a1, .int 0, .int 90]) (rest := []) mw_X14_in (c_X14_in hc0) (by decide) lk_14_345 rfl rfl (Nat.le_of_ble_eq_true rfl) (by decide +kernel) ?_
  show rf_V 3 (rf_sh w) K 0 0 12 ([(0, .ref 206), (1, .int a1), (2, .int a2)], [.int y0], rf_MM w m0)
  refine rf_if_eq C 14 26 (by decide +kernel) (fun hc => ?_) (fun hc => ?_)
  · replace hg := (if_pos hc).symm.trans hg
    refine rf_seg C [(.aload 0, 1), (.iconst 2, 1)] (pc' := 28) (S' := ([(0, .ref 206), (1, .int a1), (2, .int a2)], [.int 2, .ref 206], rf_MM w m0)) (by decide +kernel) rfl trivial ?_
    obtain ⟨y1, m1, hc1, hg⟩ := rf_b_some hg
    refine rf_callv C rf_fit0 j_X14_refused (ci := 14) (As := [.int 2]) (rest := []) mw_X14_refused (c_X14_refused hc1) (by decide) rfl (by decide) lk_14_353 rfl rfl (Nat.le_of_ble_eq_true rfl) (by decide +kernel) ?_
    show rf_V 3 (rf_sh w) K 0 0 31 ([(0, .ref 206), (1, .int a1), (2, .int a2)], [.int y1], rf_MM w m1)
    obtain rfl := Option.some.inj hg
    exact rf_iret C hE (by decide +kernel)
  · replace hg := (if_neg hc).symm.trans hg
    refine rf_seg C [(.iload 2, 1), (.iconst 1, 1), (.iconst 1000000, 3)] (pc' := 20) (S' := ([(0, .ref 206), (1, .int a1), (2, .int a2)], [.int 1000000, .int 1, .int a2], rf_MM w m0)) (by decide +kernel) rfl trivial ?_
    obtain ⟨y2, m2, hc2, hg⟩ := rf_b_some hg
    refine rf_calls C rf_fit0 j_X14_in (As := [.int a2, .int 1, .int 1000000]) (rest := []) mw_X14_in (c_X14_in hc2) (by decide) lk_14_345 rfl rfl (Nat.le_of_ble_eq_true rfl) (by decide +kernel) ?_
    show rf_V 3 (rf_sh w) K 0 0 23 ([(0, .ref 206), (1, .int a1), (2, .int a2)], [.int y2], rf_MM w m2)
    refine rf_if_ne C 9 32 (by decide +kernel) (fun hc => ?_) (fun hc => ?_)
    · replace hg := (if_neg hc).symm.trans hg
      refine rf_seg C [(.aload 0, 1), (.invokeinterface 14 138, 3), (.iconst 30, 2)] (pc' := 38) (S' := ([(0, .ref 206), (1, .int a1), (2, .int a2)], [.int 30, .int (m2.1 206 138)], rf_MM w m2)) (by decide +kernel) rfl trivial ?_
      refine rf_icmp_ne C 9 47 (by decide +kernel) (fun hc => ?_) (fun hc => ?_)
      · replace hg := (if_neg hc).symm.trans hg
        obtain ⟨q3, hg⟩ := rf_g_some hg
        obtain ⟨q4, hg⟩ := rf_g_some hg
        refine rf_seg C [(.aload 0, 1), (.invokeinterface 14 146, 3), (.aload 0, 1), (.invokeinterface 14 138, 3), (.iload 1, 1), (.iastore, 1), (.aload 0, 1), (.invokeinterface 14 147, 3), (.aload 0, 1), (.invokeinterface 14 138, 3), (.iload 2, 1), (.iastore, 1), (.aload 0, 1), (.dup, 1), (.invokeinterface 14 138, 3), (.iconst 1, 1), (.iadd, 1), (.multianewarray 14 138, 3), (.aload 0, 1), (.aload 0, 1), (.invokeinterface 14 138, 3), (.iconst 1, 1), (.isub, 1)] (pc' := 84) (S' := ([(0, .ref 206), (1, .int a1), (2, .int a2)], [.int (((rf_i (rf_i (rf_i m2 303 (Int32.toNatClampNeg (m2.1 206 138)) a1) 304 (Int32.toNatClampNeg ((rf_i m2 303 (Int32.toNatClampNeg (m2.1 206 138)) a1).1 206 138)) a2) 206 138 (((rf_i (rf_i m2 303 (Int32.toNatClampNeg (m2.1 206 138)) a1) 304 (Int32.toNatClampNeg ((rf_i m2 303 (Int32.toNatClampNeg (m2.1 206 138)) a1).1 206 138)) a2).1 206 138) + 1)).1 206 138) - 1), .ref 206], rf_MM w (rf_i (rf_i (rf_i m2 303 (Int32.toNatClampNeg (m2.1 206 138)) a1) 304 (Int32.toNatClampNeg ((rf_i m2 303 (Int32.toNatClampNeg (m2.1 206 138)) a1).1 206 138)) a2) 206 138 (((rf_i (rf_i m2 303 (Int32.toNatClampNeg (m2.1 206 138)) a1) 304 (Int32.toNatClampNeg ((rf_i m2 303 (Int32.toNatClampNeg (m2.1 206 138)) a1).1 206 138)) a2).1 206 138) + 1)))) (by decide +kernel) rfl (by exact ⟨(rf_in_of q3), (rf_in_of q4)⟩) ?_
        obtain ⟨y5, m5, hc5, hg⟩ := rf_b_some hg
        refine rf_callv C rf_fit0 j_X14_done (ci := 14) (As := [.int (((rf_i (rf_i (rf_i m2 303 (Int32.toNatClampNeg (m2.1 206 138)) a1) 304 (Int32.toNatClampNeg ((rf_i m2 303 (Int32.toNatClampNeg (m2.1 206 138)) a1).1 206 138)) a2) 206 138 (((rf_i (rf_i m2 303 (Int32.toNatClampNeg (m2.1 206 138)) a1) 304 (Int32.toNatClampNeg ((rf_i m2 303 (Int32.toNatClampNeg (m2.1 206 138)) a1).1 206 138)) a2).1 206 138) + 1)).1 206 138) - 1)]) (rest := []) mw_X14_done (c_X14_done hc5) (by decide) rfl (by decide) lk_14_357 rfl rfl (Nat.le_of_ble_eq_true rfl) (by decide +kernel) ?_
        show rf_V 3 (rf_sh w) K 0 0 87 ([(0, .ref 206), (1, .int a1), (2, .int a2)], [.int y5], rf_MM w m5)
        obtain rfl := Option.some.inj hg
        exact rf_iret C hE (by decide +kernel)
      · replace hg := (if_pos hc).symm.trans hg
        refine rf_seg C [(.aload 0, 1), (.iconst 3, 1)] (pc' := 43) (S' := ([(0, .ref 206), (1, .int a1), (2, .int a2)], [.int 3, .ref 206], rf_MM w m2)) (by decide +kernel) rfl trivial ?_
        obtain ⟨y6, m6, hc6, hg⟩ := rf_b_some hg
        refine rf_callv C rf_fit0 j_X14_refused (ci := 14) (As := [.int 3]) (rest := []) mw_X14_refused (c_X14_refused hc6) (by decide) rfl (by decide) lk_14_353 rfl rfl (Nat.le_of_ble_eq_true rfl) (by decide +kernel) ?_
        show rf_V 3 (rf_sh w) K 0 0 46 ([(0, .ref 206), (1, .int a1), (2, .int a2)], [.int y6], rf_MM w m6)
        obtain rfl := Option.some.inj hg
        exact rf_iret C hE (by decide +kernel)
    · replace hg := (if_pos hc).symm.trans hg
      refine rf_seg C [(.aload 0, 1), (.iconst 2, 1)] (pc' := 28) (S' := ([(0, .ref 206), (1, .int a1), (2, .int a2)], [.int 2, .ref 206], rf_MM w m2)) (by decide +kernel) rfl trivial ?_
      obtain ⟨y7, m7, hc7, hg⟩ := rf_b_some hg
      refine rf_callv C rf_fit0 j_X14_refused (ci := 14) (As := [.int 2]) (rest := []) mw_X14_refused (c_X14_refused hc7) (by decide) rfl (by decide) lk_14_353 rfl rfl (Nat.le_of_ble_eq_true rfl) (by decide +kernel) ?_
      show rf_V 3 (rf_sh w) K 0 0 31 ([(0, .ref 206), (1, .int a1), (2, .int a2)], [.int y7], rf_MM w m7)
      obtain rfl := Option.some.inj hg
      exact rf_iret C hE (by decide +kernel)
-- X14_figure
abbrev j_X14_figure : rf_J := (14, yX14_figure, cX14_figure, 12, (some .long))
theorem mw_X14_figure : rf_mv j_X14_figure (rf_R 14) 1 := ⟨⟨rf_mem 96 (by decide +kernel), rf_mem 96 (by decide +kernel), rf_mem 0 (by decide +kernel), rf_mem 96 (by decide +kernel)⟩, by decide +kernel, by decide⟩
def g_X14_figure_19_b (w : rf_w) (rec19 : Int32 → Int64 → Int64 → Int64 → Int64 → Int32 → rf_m → Option (Int64 × rf_m)) (a1 : Int32) (a2 : Int64) (a4 : Int64) (a6 : Int64) (a8 : Int64) (a10 : Int32) (m : rf_m) : Option (Int64 × rf_m) := (if (m.1 206 138) ≤ a10 then rf_vl (((Int32.toInt64 (m.1 206 138)) * a6) - (a2 * a2)) fun x0 => (if (lg_cmp x0 0) = 0 then some ((-9223372036854775808), m) else (if a1 = 0 then rf_b (g_X14_downLong w m (1000 * (((Int32.toInt64 (m.1 206 138)) * a8) - (a2 * a4))) x0) fun y1 m1 => some (y1, m1) else rf_b (g_X14_downLong w m (1000 * ((a4 * a6) - (a2 * a8))) x0) fun y2 m2 => some (y2, m2))) else rf_g (rf_in a10 30) (rf_vl (a2 + (Int32.toInt64 (m.1 303 (Int32.toNatClampNeg a10)))) fun x4 => rf_g (rf_in a10 30) (rf_vl (a4 + (Int32.toInt64 (m.1 304 (Int32.toNatClampNeg a10)))) fun x6 => rf_g (rf_in a10 30) (rf_g (rf_in a10 30) (rf_vl (a6 + ((Int32.toInt64 (m.1 303 (Int32.toNatClampNeg a10))) * (Int32.toInt64 (m.1 303 (Int32.toNatClampNeg a10))))) fun x9 => rf_g (rf_in a10 30) (rf_g (rf_in a10 30) (rf_vl (a8 + ((Int32.toInt64 (m.1 303 (Int32.toNatClampNeg a10))) * (Int32.toInt64 (m.1 304 (Int32.toNatClampNeg a10))))) fun x12 => rec19 a1 x4 x6 x9 x12 (a10 + 1) m)))))))
def g_X14_figure_19 (w : rf_w) : Nat → Int32 → Int64 → Int64 → Int64 → Int64 → Int32 → rf_m → Option (Int64 × rf_m)
  | 0, _, _, _, _, _, _, _ => none
  | n + 1, a1, a2, a4, a6, a8, a10, m => g_X14_figure_19_b w (g_X14_figure_19 w n) a1 a2 a4 a6 a8 a10 m
def g_X14_figure (w : rf_w) (m : rf_m) (a1 : Int32) : Option (Int64 × rf_m) := g_X14_figure_19 w rf_fuel a1 0 0 0 0 0 (rf_i m 206 0 0)
theorem s_X14_figure_19_b {w : rf_w} {K : rf_K} {r : Int64 × rf_m} (C : rf_Ctx 14 cX14_figure 12 2 (rf_sh w) K) (hE : rf_End (some .long) K (rf_sh w) 0 0 (some (.long r.1)) (rf_MM w r.2)) {rec19 : Int32 → Int64 → Int64 → Int64 → Int64 → Int32 → rf_m → Option (Int64 × rf_m)} (hr19 : ∀ (a1 : Int32) (a2 : Int64) (a4 : Int64) (a6 : Int64) (a8 : Int64) (a10 : Int32) (m : rf_m), rec19 a1 a2 a4 a6 a8 a10 m = some r → rf_V 12 (rf_sh w) K 0 0 19 ([(0, .ref 206), (1, .int a1), (2, .long a2), (4, .long a4), (6, .long a6), (8, .long a8), (10, .int a10)], [], rf_MM w m)) (a1 : Int32) (a2 : Int64) (a4 : Int64) (a6 : Int64) (a8 : Int64) (a10 : Int32) (m : rf_m) (hg : g_X14_figure_19_b w rec19 a1 a2 a4 a6 a8 a10 m = some r) : rf_V 12 (rf_sh w) K 0 0 19 ([(0, .ref 206), (1, .int a1), (2, .long a2), (4, .long a4), (6, .long a6), (8, .long a8), (10, .int a10)], [], rf_MM w m) := by
  unfold g_X14_figure_19_b at hg
  refine rf_seg C [(.iload 10, 2), (.aload 0, 1), (.invokeinterface 14 138, 3)] (pc' := 25) (S' := ([(0, .ref 206), (1, .int a1), (2, .long a2), (4, .long a4), (6, .long a6), (8, .long a8), (10, .int a10)], [.int (m.1 206 138), .int a10], rf_MM w m)) (by decide +kernel) rfl trivial ?_
  refine rf_icmp_ge C 77 102 (by decide +kernel) (fun hc => ?_) (fun hc => ?_)
  · replace hg := (if_pos hc).symm.trans hg
    refine rf_seg C [(.aload 0, 1), (.invokeinterface 14 138, 3), (.i2l, 1), (.lload 6, 2), (.lmul, 1), (.lload 2, 1), (.lload 2, 1), (.lmul, 1), (.lsub, 1)] (pc' := 114) (S' := ([(0, .ref 206), (1, .int a1), (2, .long a2), (4, .long a4), (6, .long a6), (8, .long a8), (10, .int a10)], [.long (((Int32.toInt64 (m.1 206 138)) * a6) - (a2 * a2))], rf_MM w m)) (by decide +kernel) rfl trivial ?_
    obtain ⟨x0, hx0, hg⟩ := rf_vl_some hg
    refine rf_vl_top hx0 ?_
    refine rf_seg C [(.lstore 10, 2), (.lload 10, 2), (.goto_w 0, 1), (.lcmp, 1)] (pc' := 120) (S' := ([(10, .long x0), (0, .ref 206), (1, .int a1), (2, .long a2), (4, .long a4), (6, .long a6), (8, .long a8)], [.int (lg_cmp x0 0)], rf_MM w m)) (by decide +kernel) rfl trivial ?_
    refine rf_if_ne C 7 127 (by decide +kernel) (fun hc => ?_) (fun hc => ?_)
    · replace hg := (if_neg hc).symm.trans hg
      refine rf_seg C [(.goto_w 1000, 3), (.iload 1, 1)] (pc' := 131) (S' := ([(10, .long x0), (0, .ref 206), (1, .int a1), (2, .long a2), (4, .long a4), (6, .long a6), (8, .long a8)], [.int a1, .long 1000], rf_MM w m)) (by decide +kernel) rfl trivial ?_
      refine rf_if_eq C 16 147 (by decide +kernel) (fun hc => ?_) (fun hc => ?_)
      · replace hg := (if_pos hc).symm.trans hg
        refine rf_seg C [(.aload 0, 1), (.invokeinterface 14 138, 3), (.i2l, 1), (.lload 8, 2), (.lmul, 1), (.lload 2, 1), (.lload 4, 2), (.lmul, 1), (.lsub, 1), (.lmul, 1), (.lload 10, 2)] (pc' := 163) (S' := ([(10, .long x0), (0, .ref 206), (1, .int a1), (2, .long a2), (4, .long a4), (6, .long a6), (8, .long a8)], [.long x0, .long (1000 * (((Int32.toInt64 (m.1 206 138)) * a8) - (a2 * a4)))], rf_MM w m)) (by decide +kernel) rfl trivial ?_
        obtain ⟨y1, m1, hc1, hg⟩ := rf_b_some hg
        refine rf_calls C rf_fit0 j_X14_downLong (As := [.long (1000 * (((Int32.toInt64 (m.1 206 138)) * a8) - (a2 * a4))), .long x0]) (rest := []) mw_X14_downLong (c_X14_downLong hc1) (by decide) lk_14_918 rfl rfl (Nat.le_of_ble_eq_true rfl) (by decide +kernel) ?_
        show rf_V 12 (rf_sh w) K 0 0 166 ([(10, .long x0), (0, .ref 206), (1, .int a1), (2, .long a2), (4, .long a4), (6, .long a6), (8, .long a8)], [.long y1], rf_MM w m1)
        obtain rfl := Option.some.inj hg
        exact rf_lret C hE (by decide +kernel)
      · replace hg := (if_neg hc).symm.trans hg
        refine rf_seg C [(.lload 4, 2), (.lload 6, 2), (.lmul, 1), (.lload 2, 1), (.lload 8, 2), (.lmul, 1), (.lsub, 1)] (pc' := 144) (S' := ([(10, .long x0), (0, .ref 206), (1, .int a1), (2, .long a2), (4, .long a4), (6, .long a6), (8, .long a8)], [.long ((a4 * a6) - (a2 * a8)), .long 1000], rf_MM w m)) (by decide +kernel) rfl trivial ?_
        refine rf_goto C 16 160 (by decide +kernel) ?_
        refine rf_seg C [(.lmul, 1), (.lload 10, 2)] (pc' := 163) (S' := ([(10, .long x0), (0, .ref 206), (1, .int a1), (2, .long a2), (4, .long a4), (6, .long a6), (8, .long a8)], [.long x0, .long (1000 * ((a4 * a6) - (a2 * a8)))], rf_MM w m)) (by decide +kernel) rfl trivial ?_
        obtain ⟨y2, m2, hc2, hg⟩ := rf_b_some hg
        refine rf_calls C rf_fit0 j_X14_downLong (As := [.long (1000 * ((a4 * a6) - (a2 * a8))), .long x0]) (rest := []) mw_X14_downLong (c_X14_downLong hc2) (by decide) lk_14_918 rfl rfl (Nat.le_of_ble_eq_true rfl) (by decide +kernel) ?_
        show rf_V 12 (rf_sh w) K 0 0 166 ([(10, .long x0), (0, .ref 206), (1, .int a1), (2, .long a2), (4, .long a4), (6, .long a6), (8, .long a8)], [.long y2], rf_MM w m2)
        obtain rfl := Option.some.inj hg
        exact rf_lret C hE (by decide +kernel)
    · replace hg := (if_pos hc).symm.trans hg
      refine rf_seg C [(.goto_w (-9223372036854775808), 3)] (pc' := 126) (S' := ([(10, .long x0), (0, .ref 206), (1, .int a1), (2, .long a2), (4, .long a4), (6, .long a6), (8, .long a8)], [.long ((-9223372036854775808))], rf_MM w m)) (by decide +kernel) rfl trivial ?_
      obtain rfl := Option.some.inj hg
      exact rf_lret C hE (by decide +kernel)
  · replace hg := (if_neg hc).symm.trans hg
    obtain ⟨q3, hg⟩ := rf_g_some hg
    refine rf_seg C [(.lload 2, 1), (.aload 0, 1), (.invokeinterface 14 146, 3), (.iload 10, 2), (.iaload, 1), (.i2l, 1), (.ladd, 1)] (pc' := 38) (S' := ([(0, .ref 206), (1, .int a1), (2, .long a2), (4, .long a4), (6, .long a6), (8, .long a8), (10, .int a10)], [.long (a2 + (Int32.toInt64 (m.1 303 (Int32.toNatClampNeg a10))))], rf_MM w m)) (by decide +kernel) rfl (rf_in_of q3) ?_
    obtain ⟨x4, hx4, hg⟩ := rf_vl_some hg
    refine rf_vl_top hx4 ?_
    obtain ⟨q5, hg⟩ := rf_g_some hg
    refine rf_seg C [(.lstore 2, 1), (.lload 4, 2), (.aload 0, 1), (.invokeinterface 14 147, 3), (.iload 10, 2), (.iaload, 1), (.i2l, 1), (.ladd, 1)] (pc' := 50) (S' := ([(2, .long x4), (0, .ref 206), (1, .int a1), (4, .long a4), (6, .long a6), (8, .long a8), (10, .int a10)], [.long (a4 + (Int32.toInt64 (m.1 304 (Int32.toNatClampNeg a10))))], rf_MM w m)) (by decide +kernel) rfl (rf_in_of q5) ?_
    obtain ⟨x6, hx6, hg⟩ := rf_vl_some hg
    refine rf_vl_top hx6 ?_
    obtain ⟨q7, hg⟩ := rf_g_some hg
    obtain ⟨q8, hg⟩ := rf_g_some hg
    refine rf_seg C [(.lstore 4, 2), (.lload 6, 2), (.aload 0, 1), (.invokeinterface 14 146, 3), (.iload 10, 2), (.iaload, 1), (.i2l, 1), (.aload 0, 1), (.invokeinterface 14 146, 3), (.iload 10, 2), (.iaload, 1), (.i2l, 1), (.lmul, 1), (.ladd, 1)] (pc' := 72) (S' := ([(4, .long x6), (2, .long x4), (0, .ref 206), (1, .int a1), (6, .long a6), (8, .long a8), (10, .int a10)], [.long (a6 + ((Int32.toInt64 (m.1 303 (Int32.toNatClampNeg a10))) * (Int32.toInt64 (m.1 303 (Int32.toNatClampNeg a10)))))], rf_MM w m)) (by decide +kernel) rfl (by exact ⟨(rf_in_of q7), (rf_in_of q8)⟩) ?_
    obtain ⟨x9, hx9, hg⟩ := rf_vl_some hg
    refine rf_vl_top hx9 ?_
    obtain ⟨q10, hg⟩ := rf_g_some hg
    obtain ⟨q11, hg⟩ := rf_g_some hg
    refine rf_seg C [(.lstore 6, 2), (.lload 8, 2), (.aload 0, 1), (.invokeinterface 14 146, 3), (.iload 10, 2), (.iaload, 1), (.i2l, 1), (.aload 0, 1), (.invokeinterface 14 147, 3), (.iload 10, 2), (.iaload, 1), (.i2l, 1), (.lmul, 1), (.ladd, 1)] (pc' := 94) (S' := ([(6, .long x9), (4, .long x6), (2, .long x4), (0, .ref 206), (1, .int a1), (8, .long a8), (10, .int a10)], [.long (a8 + ((Int32.toInt64 (m.1 303 (Int32.toNatClampNeg a10))) * (Int32.toInt64 (m.1 304 (Int32.toNatClampNeg a10)))))], rf_MM w m)) (by decide +kernel) rfl (by exact ⟨(rf_in_of q10), (rf_in_of q11)⟩) ?_
    obtain ⟨x12, hx12, hg⟩ := rf_vl_some hg
    refine rf_vl_top hx12 ?_
    refine rf_seg C [(.lstore 8, 2), (.iinc 10 1, 3)] (pc' := 99) (S' := ([(10, .int (a10 + 1)), (8, .long x12), (6, .long x9), (4, .long x6), (2, .long x4), (0, .ref 206), (1, .int a1)], [], rf_MM w m)) (by decide +kernel) rfl trivial ?_
    refine rf_goto C (-80) 19 (by decide +kernel) ?_
    refine rf_few [5, 6, 4, 3, 2, 1, 0] rfl ?_
    exact hr19 a1 x4 x6 x9 x12 (a10 + 1) m hg
theorem s_X14_figure_19 {w : rf_w} {K : rf_K} {r : Int64 × rf_m} (C : rf_Ctx 14 cX14_figure 12 2 (rf_sh w) K) (hE : rf_End (some .long) K (rf_sh w) 0 0 (some (.long r.1)) (rf_MM w r.2)) (n : Nat) : ∀ (a1 : Int32) (a2 : Int64) (a4 : Int64) (a6 : Int64) (a8 : Int64) (a10 : Int32) (m : rf_m), g_X14_figure_19 w n a1 a2 a4 a6 a8 a10 m = some r → rf_V 12 (rf_sh w) K 0 0 19 ([(0, .ref 206), (1, .int a1), (2, .long a2), (4, .long a4), (6, .long a6), (8, .long a8), (10, .int a10)], [], rf_MM w m) := by
  induction n with
  | zero => intro a1 a2 a4 a6 a8 a10 m hg; cases hg
  | succ n ih => intro a1 a2 a4 a6 a8 a10 m hg; exact s_X14_figure_19_b C hE ih a1 a2 a4 a6 a8 a10 m hg
theorem c_X14_figure {w : rf_w} {m : rf_m} {a1 : Int32} {r : Int64 × rf_m} (hg : g_X14_figure w m a1 = some r) : rf_Con j_X14_figure 2 (rf_sh w) [.ref 206, .int a1] (rf_MM w m) (some (.long r.1)) (rf_MM w r.2) := by
  refine rf_con j_X14_figure 2 ⟨by decide +kernel, rfl, Nat.le_of_ble_eq_true rfl⟩ (fun K C hE => ?_)
  unfold g_X14_figure at hg
  show rf_V 12 (rf_sh w) K 0 0 0 ([(0, .ref 206), (1, .int a1)], [], rf_MM w m)
  refine rf_seg C [(.aload 0, 1), (.iconst 0, 1), (.multianewarray 14 0, 3), (.goto_w 0, 1), (.lstore 2, 1), (.goto_w 0, 1), (.lstore 4, 2), (.goto_w 0, 1), (.lstore 6, 2), (.goto_w 0, 1), (.lstore 8, 2), (.iconst 0, 1), (.istore 10, 2)] (pc' := 19) (S' := ([(10, .int 0), (8, .long 0), (6, .long 0), (4, .long 0), (2, .long 0), (0, .ref 206), (1, .int a1)], [], rf_MM w (rf_i m 206 0 0))) (by decide +kernel) rfl trivial ?_
  refine rf_few [5, 6, 4, 3, 2, 1, 0] rfl ?_
  exact s_X14_figure_19 C hE rf_fuel a1 0 0 0 0 0 (rf_i m 206 0 0) hg
-- X14_pass
abbrev j_X14_pass : rf_J := (14, yX14_pass, cX14_pass, 2, (some .int))
theorem mw_X14_pass : rf_mv j_X14_pass (rf_R 14) 1 := ⟨⟨rf_mem 97 (by decide +kernel), rf_mem 97 (by decide +kernel), rf_mem 0 (by decide +kernel), rf_mem 97 (by decide +kernel)⟩, by decide +kernel, by decide⟩
def g_X14_pass (w : rf_w) (m : rf_m) (a1 : Int32) : Option (Int32 × rf_m) := rf_b (g_X14_in w (rf_i m 206 0 0) a1 1 1000) fun y0 m0 => (if y0 = 0 then rf_b (g_X14_refused w m0 2) fun y1 m1 => some (y1, m1) else (if ((m0.1 206 5) + a1) < 10000 then rf_b (g_X14_done w (rf_i m0 206 5 ((m0.1 206 5) + a1)) ((rf_i m0 206 5 ((m0.1 206 5) + a1)).1 206 5)) fun y2 m2 => some (y2, m2) else rf_b (g_X14_refused w m0 2) fun y3 m3 => some (y3, m3)))
theorem c_X14_pass {w : rf_w} {m : rf_m} {a1 : Int32} {r : Int32 × rf_m} (hg : g_X14_pass w m a1 = some r) : rf_Con j_X14_pass 2 (rf_sh w) [.ref 206, .int a1] (rf_MM w m) (some (.int r.1)) (rf_MM w r.2) := by
  refine rf_con j_X14_pass 2 ⟨by decide +kernel, rfl, Nat.le_of_ble_eq_true rfl⟩ (fun K C hE => ?_)
  unfold g_X14_pass at hg
  show rf_V 2 (rf_sh w) K 0 0 0 ([(0, .ref 206), (1, .int a1)], [], rf_MM w m)
  refine rf_seg C [(.aload 0, 1), (.iconst 0, 1), (.multianewarray 14 0, 3), (.iload 1, 1), (.iconst 1, 1), (.iconst 1000, 3)] (pc' := 10) (S' := ([(0, .ref 206), (1, .int a1)], [.int 1000, .int 1, .int a1], rf_MM w (rf_i m 206 0 0))) (by decide +kernel) rfl trivial ?_
  obtain ⟨y0, m0, hc0, hg⟩ := rf_b_some hg
  refine rf_calls C rf_fit0 j_X14_in (As := [.int a1, .int 1, .int 1000]) (rest := []) mw_X14_in (c_X14_in hc0) (by decide) lk_14_345 rfl rfl (Nat.le_of_ble_eq_true rfl) (by decide +kernel) ?_
  show rf_V 2 (rf_sh w) K 0 0 13 ([(0, .ref 206), (1, .int a1)], [.int y0], rf_MM w m0)
  refine rf_if_eq C 15 28 (by decide +kernel) (fun hc => ?_) (fun hc => ?_)
  · replace hg := (if_pos hc).symm.trans hg
    refine rf_seg C [(.aload 0, 1), (.iconst 2, 1)] (pc' := 30) (S' := ([(0, .ref 206), (1, .int a1)], [.int 2, .ref 206], rf_MM w m0)) (by decide +kernel) rfl trivial ?_
    obtain ⟨y1, m1, hc1, hg⟩ := rf_b_some hg
    refine rf_callv C rf_fit0 j_X14_refused (ci := 14) (As := [.int 2]) (rest := []) mw_X14_refused (c_X14_refused hc1) (by decide) rfl (by decide) lk_14_353 rfl rfl (Nat.le_of_ble_eq_true rfl) (by decide +kernel) ?_
    show rf_V 2 (rf_sh w) K 0 0 33 ([(0, .ref 206), (1, .int a1)], [.int y1], rf_MM w m1)
    obtain rfl := Option.some.inj hg
    exact rf_iret C hE (by decide +kernel)
  · replace hg := (if_neg hc).symm.trans hg
    refine rf_seg C [(.aload 0, 1), (.invokeinterface 14 5, 3), (.iload 1, 1), (.iadd, 1), (.iconst 10000, 3)] (pc' := 25) (S' := ([(0, .ref 206), (1, .int a1)], [.int 10000, .int ((m0.1 206 5) + a1)], rf_MM w m0)) (by decide +kernel) rfl trivial ?_
    refine rf_icmp_lt C 9 34 (by decide +kernel) (fun hc => ?_) (fun hc => ?_)
    · replace hg := (if_pos hc).symm.trans hg
      refine rf_seg C [(.aload 0, 1), (.dup, 1), (.invokeinterface 14 5, 3), (.iload 1, 1), (.iadd, 1), (.multianewarray 14 5, 3), (.aload 0, 1), (.aload 0, 1), (.invokeinterface 14 5, 3)] (pc' := 49) (S' := ([(0, .ref 206), (1, .int a1)], [.int ((rf_i m0 206 5 ((m0.1 206 5) + a1)).1 206 5), .ref 206], rf_MM w (rf_i m0 206 5 ((m0.1 206 5) + a1)))) (by decide +kernel) rfl trivial ?_
      obtain ⟨y2, m2, hc2, hg⟩ := rf_b_some hg
      refine rf_callv C rf_fit0 j_X14_done (ci := 14) (As := [.int ((rf_i m0 206 5 ((m0.1 206 5) + a1)).1 206 5)]) (rest := []) mw_X14_done (c_X14_done hc2) (by decide) rfl (by decide) lk_14_357 rfl rfl (Nat.le_of_ble_eq_true rfl) (by decide +kernel) ?_
      show rf_V 2 (rf_sh w) K 0 0 52 ([(0, .ref 206), (1, .int a1)], [.int y2], rf_MM w m2)
      obtain rfl := Option.some.inj hg
      exact rf_iret C hE (by decide +kernel)
    · replace hg := (if_neg hc).symm.trans hg
      refine rf_seg C [(.aload 0, 1), (.iconst 2, 1)] (pc' := 30) (S' := ([(0, .ref 206), (1, .int a1)], [.int 2, .ref 206], rf_MM w m0)) (by decide +kernel) rfl trivial ?_
      obtain ⟨y3, m3, hc3, hg⟩ := rf_b_some hg
      refine rf_callv C rf_fit0 j_X14_refused (ci := 14) (As := [.int 2]) (rest := []) mw_X14_refused (c_X14_refused hc3) (by decide) rfl (by decide) lk_14_353 rfl rfl (Nat.le_of_ble_eq_true rfl) (by decide +kernel) ?_
      show rf_V 2 (rf_sh w) K 0 0 33 ([(0, .ref 206), (1, .int a1)], [.int y3], rf_MM w m3)
      obtain rfl := Option.some.inj hg
      exact rf_iret C hE (by decide +kernel)
-- X14_count
abbrev j_X14_count : rf_J := (14, yX14_count, cX14_count, 4, (some .int))
theorem mw_X14_count : rf_mv j_X14_count (rf_R 14) 1 := ⟨⟨rf_mem 97 (by decide +kernel), rf_mem 97 (by decide +kernel), rf_mem 0 (by decide +kernel), rf_mem 97 (by decide +kernel)⟩, by decide +kernel, by decide⟩
def g_X14_count_167 (w : rf_w) (rec145 : Int32 → Int32 → rf_m → Option (Int32 × rf_m)) (a3 : Int32) (s0 : Int32) (s1 : Int32) (m : rf_m) : Option (Int32 × rf_m) := rec145 (s0 + s1) (a3 + 1) m
def g_X14_count_145_b (w : rf_w) (rec145 : Int32 → Int32 → rf_m → Option (Int32 × rf_m)) (a2 : Int32) (a3 : Int32) (m : rf_m) : Option (Int32 × rf_m) := (if (m.1 206 16) ≤ a3 then some (a2, m) else rf_b (g_X14_isAgain w m a3) fun y0 m0 => (if y0 = 0 then g_X14_count_167 w rec145 a3 a2 0 m0 else g_X14_count_167 w rec145 a3 a2 1 m0))
def g_X14_count_145 (w : rf_w) : Nat → Int32 → Int32 → rf_m → Option (Int32 × rf_m)
  | 0, _, _, _ => none
  | n + 1, a2, a3, m => g_X14_count_145_b w (g_X14_count_145 w n) a2 a3 m
def g_X14_count (w : rf_w) (m : rf_m) (a1 : Int32) : Option (Int32 × rf_m) := (if a1 = 0 then some ((rf_i m 206 0 0).1 206 4, rf_i m 206 0 0) else if a1 = 1 then some ((rf_i m 206 0 0).1 206 16, rf_i m 206 0 0) else if a1 = 2 then some ((rf_i m 206 0 0).1 206 17, rf_i m 206 0 0) else if a1 = 3 then some ((rf_i m 206 0 0).1 206 39, rf_i m 206 0 0) else if a1 = 4 then some ((rf_i m 206 0 0).1 206 55, rf_i m 206 0 0) else if a1 = 5 then some ((rf_i m 206 0 0).1 206 64, rf_i m 206 0 0) else if a1 = 6 then some ((rf_i m 206 0 0).1 206 65, rf_i m 206 0 0) else if a1 = 7 then some ((rf_i m 206 0 0).1 206 15, rf_i m 206 0 0) else if a1 = 8 then some ((rf_i m 206 0 0).1 206 126, rf_i m 206 0 0) else if a1 = 9 then some ((rf_i m 206 0 0).1 206 136, rf_i m 206 0 0) else if a1 = 10 then some ((rf_i m 206 0 0).1 206 116, rf_i m 206 0 0) else if a1 = 11 then some ((rf_i m 206 0 0).1 206 5, rf_i m 206 0 0) else if a1 = 12 then some ((rf_i m 206 0 0).1 206 44, rf_i m 206 0 0) else if a1 = 13 then g_X14_count_145 w rf_fuel 0 0 (rf_i m 206 0 0) else some ((-1), rf_i m 206 0 0))
theorem s_X14_count_167 {w : rf_w} {K : rf_K} {r : Int32 × rf_m} (C : rf_Ctx 14 cX14_count 4 9 (rf_sh w) K) (hE : rf_End (some .int) K (rf_sh w) 0 0 (some (.int r.1)) (rf_MM w r.2)) {rec145 : Int32 → Int32 → rf_m → Option (Int32 × rf_m)} (hr145 : ∀ (a2 : Int32) (a3 : Int32) (m : rf_m), rec145 a2 a3 m = some r → rf_V 4 (rf_sh w) K 0 0 145 ([(0, .ref 206), (2, .int a2), (3, .int a3)], [], rf_MM w m)) (a3 : Int32) (s0 : Int32) (s1 : Int32) (m : rf_m) (hg : g_X14_count_167 w rec145 a3 s0 s1 m = some r) : rf_V 4 (rf_sh w) K 0 0 167 ([(0, .ref 206), (3, .int a3)], [.int s1, .int s0], rf_MM w m) := by
  unfold g_X14_count_167 at hg
  refine rf_seg C [(.iadd, 1), (.istore 2, 1), (.iinc 3 1, 3)] (pc' := 172) (S' := ([(3, .int (a3 + 1)), (2, .int (s0 + s1)), (0, .ref 206)], [], rf_MM w m)) (by decide +kernel) rfl trivial ?_
  refine rf_goto C (-27) 145 (by decide +kernel) ?_
  refine rf_few [2, 1, 0] rfl ?_
  exact hr145 (s0 + s1) (a3 + 1) m hg
theorem s_X14_count_145_b {w : rf_w} {K : rf_K} {r : Int32 × rf_m} (C : rf_Ctx 14 cX14_count 4 9 (rf_sh w) K) (hE : rf_End (some .int) K (rf_sh w) 0 0 (some (.int r.1)) (rf_MM w r.2)) {rec145 : Int32 → Int32 → rf_m → Option (Int32 × rf_m)} (hr145 : ∀ (a2 : Int32) (a3 : Int32) (m : rf_m), rec145 a2 a3 m = some r → rf_V 4 (rf_sh w) K 0 0 145 ([(0, .ref 206), (2, .int a2), (3, .int a3)], [], rf_MM w m)) (a2 : Int32) (a3 : Int32) (m : rf_m) (hg : g_X14_count_145_b w rec145 a2 a3 m = some r) : rf_V 4 (rf_sh w) K 0 0 145 ([(0, .ref 206), (2, .int a2), (3, .int a3)], [], rf_MM w m) := by
  unfold g_X14_count_145_b at hg
  refine rf_seg C [(.iload 3, 1), (.aload 0, 1), (.invokeinterface 14 16, 3)] (pc' := 150) (S' := ([(0, .ref 206), (2, .int a2), (3, .int a3)], [.int (m.1 206 16), .int a3], rf_MM w m)) (by decide +kernel) rfl trivial ?_
  refine rf_icmp_ge C 25 175 (by decide +kernel) (fun hc => ?_) (fun hc => ?_)
  · replace hg := (if_pos hc).symm.trans hg
    refine rf_seg C [(.iload 2, 1)] (pc' := 176) (S' := ([(0, .ref 206), (2, .int a2), (3, .int a3)], [.int a2], rf_MM w m)) (by decide +kernel) rfl trivial ?_
    obtain rfl := Option.some.inj hg
    exact rf_iret C hE (by decide +kernel)
  · replace hg := (if_neg hc).symm.trans hg
    refine rf_seg C [(.iload 2, 1), (.aload 0, 1), (.iload 3, 1)] (pc' := 156) (S' := ([(0, .ref 206), (2, .int a2), (3, .int a3)], [.int a3, .ref 206, .int a2], rf_MM w m)) (by decide +kernel) rfl trivial ?_
    obtain ⟨y0, m0, hc0, hg⟩ := rf_b_some hg
    refine rf_callv C rf_fit0 j_X14_isAgain (ci := 14) (As := [.int a3]) (rest := [.int a2]) mw_X14_isAgain (c_X14_isAgain hc0) (by decide) rfl (by decide) lk_14_483 rfl rfl (Nat.le_of_ble_eq_true rfl) (by decide +kernel) ?_
    show rf_V 4 (rf_sh w) K 0 0 159 ([(0, .ref 206), (2, .int a2), (3, .int a3)], [.int y0, .int a2], rf_MM w m0)
    refine rf_if_eq C 7 166 (by decide +kernel) (fun hc => ?_) (fun hc => ?_)
    · replace hg := (if_pos hc).symm.trans hg
      refine rf_seg C [(.iconst 0, 1)] (pc' := 167) (S' := ([(0, .ref 206), (2, .int a2), (3, .int a3)], [.int 0, .int a2], rf_MM w m0)) (by decide +kernel) rfl trivial ?_
      refine rf_few [0, 2] rfl ?_
      exact s_X14_count_167 C hE hr145 a3 a2 0 m0 hg
    · replace hg := (if_neg hc).symm.trans hg
      refine rf_seg C [(.iconst 1, 1)] (pc' := 163) (S' := ([(0, .ref 206), (2, .int a2), (3, .int a3)], [.int 1, .int a2], rf_MM w m0)) (by decide +kernel) rfl trivial ?_
      refine rf_goto C 4 167 (by decide +kernel) ?_
      refine rf_few [0, 2] rfl ?_
      exact s_X14_count_167 C hE hr145 a3 a2 1 m0 hg
theorem s_X14_count_145 {w : rf_w} {K : rf_K} {r : Int32 × rf_m} (C : rf_Ctx 14 cX14_count 4 9 (rf_sh w) K) (hE : rf_End (some .int) K (rf_sh w) 0 0 (some (.int r.1)) (rf_MM w r.2)) (n : Nat) : ∀ (a2 : Int32) (a3 : Int32) (m : rf_m), g_X14_count_145 w n a2 a3 m = some r → rf_V 4 (rf_sh w) K 0 0 145 ([(0, .ref 206), (2, .int a2), (3, .int a3)], [], rf_MM w m) := by
  induction n with
  | zero => intro a2 a3 m hg; cases hg
  | succ n ih => intro a2 a3 m hg; exact s_X14_count_145_b C hE ih a2 a3 m hg
theorem c_X14_count {w : rf_w} {m : rf_m} {a1 : Int32} {r : Int32 × rf_m} (hg : g_X14_count w m a1 = some r) : rf_Con j_X14_count 9 (rf_sh w) [.ref 206, .int a1] (rf_MM w m) (some (.int r.1)) (rf_MM w r.2) := by
  refine rf_con j_X14_count 9 ⟨by decide +kernel, rfl, Nat.le_of_ble_eq_true rfl⟩ (fun K C hE => ?_)
  unfold g_X14_count at hg
  show rf_V 4 (rf_sh w) K 0 0 0 ([(0, .ref 206), (1, .int a1)], [], rf_MM w m)
  refine rf_seg C [(.aload 0, 1), (.iconst 0, 1), (.multianewarray 14 0, 3), (.iload 1, 1)] (pc' := 6) (S' := ([(0, .ref 206), (1, .int a1)], [.int a1], rf_MM w (rf_i m 206 0 0))) (by decide +kernel) rfl trivial ?_
  by_cases ht0 : a1 = 0
  · replace hg := (if_pos ht0).symm.trans hg
    refine rf_tabc C ht0 76 (by decide +kernel) ?_
    refine rf_seg C [(.aload 0, 1), (.invokeinterface 14 4, 3)] (pc' := 80) (S' := ([(0, .ref 206), (1, .int a1)], [.int ((rf_i m 206 0 0).1 206 4)], rf_MM w (rf_i m 206 0 0))) (by decide +kernel) rfl trivial ?_
    obtain rfl := Option.some.inj hg
    exact rf_iret C hE (by decide +kernel)
  · replace hg := (if_neg ht0).symm.trans hg
    by_cases ht1 : a1 = 1
    · replace hg := (if_pos ht1).symm.trans hg
      refine rf_tabc C ht1 81 (by decide +kernel) ?_
      refine rf_seg C [(.aload 0, 1), (.invokeinterface 14 16, 3)] (pc' := 85) (S' := ([(0, .ref 206), (1, .int a1)], [.int ((rf_i m 206 0 0).1 206 16)], rf_MM w (rf_i m 206 0 0))) (by decide +kernel) rfl trivial ?_
      obtain rfl := Option.some.inj hg
      exact rf_iret C hE (by decide +kernel)
    · replace hg := (if_neg ht1).symm.trans hg
      by_cases ht2 : a1 = 2
      · replace hg := (if_pos ht2).symm.trans hg
        refine rf_tabc C ht2 86 (by decide +kernel) ?_
        refine rf_seg C [(.aload 0, 1), (.invokeinterface 14 17, 3)] (pc' := 90) (S' := ([(0, .ref 206), (1, .int a1)], [.int ((rf_i m 206 0 0).1 206 17)], rf_MM w (rf_i m 206 0 0))) (by decide +kernel) rfl trivial ?_
        obtain rfl := Option.some.inj hg
        exact rf_iret C hE (by decide +kernel)
      · replace hg := (if_neg ht2).symm.trans hg
        by_cases ht3 : a1 = 3
        · replace hg := (if_pos ht3).symm.trans hg
          refine rf_tabc C ht3 91 (by decide +kernel) ?_
          refine rf_seg C [(.aload 0, 1), (.invokeinterface 14 39, 3)] (pc' := 95) (S' := ([(0, .ref 206), (1, .int a1)], [.int ((rf_i m 206 0 0).1 206 39)], rf_MM w (rf_i m 206 0 0))) (by decide +kernel) rfl trivial ?_
          obtain rfl := Option.some.inj hg
          exact rf_iret C hE (by decide +kernel)
        · replace hg := (if_neg ht3).symm.trans hg
          by_cases ht4 : a1 = 4
          · replace hg := (if_pos ht4).symm.trans hg
            refine rf_tabc C ht4 96 (by decide +kernel) ?_
            refine rf_seg C [(.aload 0, 1), (.invokeinterface 14 55, 3)] (pc' := 100) (S' := ([(0, .ref 206), (1, .int a1)], [.int ((rf_i m 206 0 0).1 206 55)], rf_MM w (rf_i m 206 0 0))) (by decide +kernel) rfl trivial ?_
            obtain rfl := Option.some.inj hg
            exact rf_iret C hE (by decide +kernel)
          · replace hg := (if_neg ht4).symm.trans hg
            by_cases ht5 : a1 = 5
            · replace hg := (if_pos ht5).symm.trans hg
              refine rf_tabc C ht5 101 (by decide +kernel) ?_
              refine rf_seg C [(.aload 0, 1), (.invokeinterface 14 64, 3)] (pc' := 105) (S' := ([(0, .ref 206), (1, .int a1)], [.int ((rf_i m 206 0 0).1 206 64)], rf_MM w (rf_i m 206 0 0))) (by decide +kernel) rfl trivial ?_
              obtain rfl := Option.some.inj hg
              exact rf_iret C hE (by decide +kernel)
            · replace hg := (if_neg ht5).symm.trans hg
              by_cases ht6 : a1 = 6
              · replace hg := (if_pos ht6).symm.trans hg
                refine rf_tabc C ht6 106 (by decide +kernel) ?_
                refine rf_seg C [(.aload 0, 1), (.invokeinterface 14 65, 3)] (pc' := 110) (S' := ([(0, .ref 206), (1, .int a1)], [.int ((rf_i m 206 0 0).1 206 65)], rf_MM w (rf_i m 206 0 0))) (by decide +kernel) rfl trivial ?_
                obtain rfl := Option.some.inj hg
                exact rf_iret C hE (by decide +kernel)
              · replace hg := (if_neg ht6).symm.trans hg
                by_cases ht7 : a1 = 7
                · replace hg := (if_pos ht7).symm.trans hg
                  refine rf_tabc C ht7 111 (by decide +kernel) ?_
                  refine rf_seg C [(.aload 0, 1), (.invokeinterface 14 15, 3)] (pc' := 115) (S' := ([(0, .ref 206), (1, .int a1)], [.int ((rf_i m 206 0 0).1 206 15)], rf_MM w (rf_i m 206 0 0))) (by decide +kernel) rfl trivial ?_
                  obtain rfl := Option.some.inj hg
                  exact rf_iret C hE (by decide +kernel)
                · replace hg := (if_neg ht7).symm.trans hg
                  by_cases ht8 : a1 = 8
                  · replace hg := (if_pos ht8).symm.trans hg
                    refine rf_tabc C ht8 116 (by decide +kernel) ?_
                    refine rf_seg C [(.aload 0, 1), (.invokeinterface 14 126, 3)] (pc' := 120) (S' := ([(0, .ref 206), (1, .int a1)], [.int ((rf_i m 206 0 0).1 206 126)], rf_MM w (rf_i m 206 0 0))) (by decide +kernel) rfl trivial ?_
                    obtain rfl := Option.some.inj hg
                    exact rf_iret C hE (by decide +kernel)
                  · replace hg := (if_neg ht8).symm.trans hg
                    by_cases ht9 : a1 = 9
                    · replace hg := (if_pos ht9).symm.trans hg
                      refine rf_tabc C ht9 121 (by decide +kernel) ?_
                      refine rf_seg C [(.aload 0, 1), (.invokeinterface 14 136, 3)] (pc' := 125) (S' := ([(0, .ref 206), (1, .int a1)], [.int ((rf_i m 206 0 0).1 206 136)], rf_MM w (rf_i m 206 0 0))) (by decide +kernel) rfl trivial ?_
                      obtain rfl := Option.some.inj hg
                      exact rf_iret C hE (by decide +kernel)
                    · replace hg := (if_neg ht9).symm.trans hg
                      by_cases ht10 : a1 = 10
                      · replace hg := (if_pos ht10).symm.trans hg
                        refine rf_tabc C ht10 126 (by decide +kernel) ?_
                        refine rf_seg C [(.aload 0, 1), (.invokeinterface 14 116, 3)] (pc' := 130) (S' := ([(0, .ref 206), (1, .int a1)], [.int ((rf_i m 206 0 0).1 206 116)], rf_MM w (rf_i m 206 0 0))) (by decide +kernel) rfl trivial ?_
                        obtain rfl := Option.some.inj hg
                        exact rf_iret C hE (by decide +kernel)
                      · replace hg := (if_neg ht10).symm.trans hg
                        by_cases ht11 : a1 = 11
                        · replace hg := (if_pos ht11).symm.trans hg
                          refine rf_tabc C ht11 131 (by decide +kernel) ?_
                          refine rf_seg C [(.aload 0, 1), (.invokeinterface 14 5, 3)] (pc' := 135) (S' := ([(0, .ref 206), (1, .int a1)], [.int ((rf_i m 206 0 0).1 206 5)], rf_MM w (rf_i m 206 0 0))) (by decide +kernel) rfl trivial ?_
                          obtain rfl := Option.some.inj hg
                          exact rf_iret C hE (by decide +kernel)
                        · replace hg := (if_neg ht11).symm.trans hg
                          by_cases ht12 : a1 = 12
                          · replace hg := (if_pos ht12).symm.trans hg
                            refine rf_tabc C ht12 136 (by decide +kernel) ?_
                            refine rf_seg C [(.aload 0, 1), (.invokeinterface 14 44, 3)] (pc' := 140) (S' := ([(0, .ref 206), (1, .int a1)], [.int ((rf_i m 206 0 0).1 206 44)], rf_MM w (rf_i m 206 0 0))) (by decide +kernel) rfl trivial ?_
                            obtain rfl := Option.some.inj hg
                            exact rf_iret C hE (by decide +kernel)
                          · replace hg := (if_neg ht12).symm.trans hg
                            by_cases ht13 : a1 = 13
                            · replace hg := (if_pos ht13).symm.trans hg
                              refine rf_tabc C ht13 141 (by decide +kernel) ?_
                              refine rf_seg C [(.iconst 0, 1), (.istore 2, 1), (.iconst 0, 1), (.istore 3, 1)] (pc' := 145) (S' := ([(3, .int 0), (2, .int 0), (0, .ref 206), (1, .int a1)], [], rf_MM w (rf_i m 206 0 0))) (by decide +kernel) rfl trivial ?_
                              refine rf_few [2, 1, 0] rfl ?_
                              exact s_X14_count_145 C hE rf_fuel 0 0 (rf_i m 206 0 0) hg
                            · replace hg := (if_neg ht13).symm.trans hg
                              refine rf_tabd C 0 13 177 (by decide +kernel) (by have t0 : (a1).toInt ≠ 0 := rf_ti ht0; have t1 : (a1).toInt ≠ 1 := rf_ti ht1; have t2 : (a1).toInt ≠ 2 := rf_ti ht2; have t3 : (a1).toInt ≠ 3 := rf_ti ht3; have t4 : (a1).toInt ≠ 4 := rf_ti ht4; have t5 : (a1).toInt ≠ 5 := rf_ti ht5; have t6 : (a1).toInt ≠ 6 := rf_ti ht6; have t7 : (a1).toInt ≠ 7 := rf_ti ht7; have t8 : (a1).toInt ≠ 8 := rf_ti ht8; have t9 : (a1).toInt ≠ 9 := rf_ti ht9; have t10 : (a1).toInt ≠ 10 := rf_ti ht10; have t11 : (a1).toInt ≠ 11 := rf_ti ht11; have t12 : (a1).toInt ≠ 12 := rf_ti ht12; have t13 : (a1).toInt ≠ 13 := rf_ti ht13; omega) ?_
                              refine rf_seg C [(.iconst (-1), 1)] (pc' := 178) (S' := ([(0, .ref 206), (1, .int a1)], [.int ((-1))], rf_MM w (rf_i m 206 0 0))) (by decide +kernel) rfl trivial ?_
                              obtain rfl := Option.some.inj hg
                              exact rf_iret C hE (by decide +kernel)
-- X14_trouble
abbrev j_X14_trouble : rf_J := (14, yX14_trouble, cX14_trouble, 1, (some .int))
theorem mw_X14_trouble : rf_mv j_X14_trouble (rf_R 14) 0 := ⟨⟨rf_mem 98 (by decide +kernel), rf_mem 98 (by decide +kernel), rf_mem 0 (by decide +kernel), rf_mem 98 (by decide +kernel)⟩, by decide +kernel, by decide⟩
def g_X14_trouble (w : rf_w) (m : rf_m) : Option (Int32 × rf_m) := some ((rf_i m 206 0 0).1 206 1, rf_i m 206 0 0)
theorem c_X14_trouble {w : rf_w} {m : rf_m} {r : Int32 × rf_m} (hg : g_X14_trouble w m = some r) : rf_Con j_X14_trouble 1 (rf_sh w) [.ref 206] (rf_MM w m) (some (.int r.1)) (rf_MM w r.2) := by
  refine rf_con j_X14_trouble 1 ⟨by decide +kernel, rfl, Nat.le_of_ble_eq_true rfl⟩ (fun K C hE => ?_)
  unfold g_X14_trouble at hg
  show rf_V 1 (rf_sh w) K 0 0 0 ([(0, .ref 206)], [], rf_MM w m)
  refine rf_seg C [(.aload 0, 1), (.iconst 0, 1), (.multianewarray 14 0, 3), (.aload 0, 1), (.invokeinterface 14 1, 3)] (pc' := 9) (S' := ([(0, .ref 206)], [.int ((rf_i m 206 0 0).1 206 1)], rf_MM w (rf_i m 206 0 0))) (by decide +kernel) rfl trivial ?_
  obtain rfl := Option.some.inj hg
  exact rf_iret C hE (by decide +kernel)
