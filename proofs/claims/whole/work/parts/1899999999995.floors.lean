/-! the reference's whole numbers: floors, longs -/
section PBFloors
theorem wd_sg {f : Nat → Int32} {v : Int} (h : wd f 0 v) (h1 : -3138550867693340381917894711603833208051177722232017256448 ≤ v) (h2 : v < 3138550867693340381917894711603833208051177722232017256448) : w6 f 0 = if v < 0 then v + 6277101735386680763835789423207666416102355444464034512896 else v := by
  have p6 : pW 6 = 6277101735386680763835789423207666416102355444464034512896 := by decide
  unfold wd at h
  rw [h, p6]
  split <;> omega
theorem floors_r {w : rf_w} {m : rf_m} {x D : Int} (hx : wd (m.1 252) 0 x) (h1 : -3138550867693340381917894711603833208051177722232017256448 < x) (h2 : x < 3138550867693340381917894711603833208051177722232017256448) (hD : w6 (m.1 253) 0 = D) (d0 : 0 < D) (d1 : D < 3138550867693340381917894711603833208051177722232017256448) : ∃ m', g_X14_floors w m = some m' ∧ (∀ z, z ≠ 249 → z ≠ 250 → z ≠ 251 → z ≠ 252 → m'.1 z = m.1 z) ∧ m'.2 = m.2 ∧ wd (m'.1 249) 0 (x / D) := by
  have o1 : ¬ (1 : Int32) = 0 := by decide
  have sgx := wd_sg hx (by omega) h2
  have zo : Int32.ofNat 0 = 0 := rfl
  unfold g_X14_floors g_X14_floors_21
  rw [ib_252, b_sm]
  by_cases q : x < 0
  · rw [if_pos q] at sgx
    rw [bi_t (by rw [sgx]; omega), if_neg o1]
    obtain ⟨F, f1, f2, f3⟩ := tn_252 (w := w) (m := m) (p := 0) (by decide) hx
    have p6 : pW 6 = 6277101735386680763835789423207666416102355444464034512896 := by decide
    have f4 := wd_nn f3 (by omega) (by omega)
    rw [zo] at f1
    rw [f1, bv_sm]
    obtain ⟨m1, g1, g2, g3, g4, g5⟩ := dv_252_253 (w := w) (m := stc m 252 F) (by rw [stc_ne (by decide), hD]; exact d0) (by rw [stc_ne (by decide), hD]; exact d1)
    rw [stc_at, f4, stc_ne (by decide), hD] at g4 g5
    rw [g1, bv_sm, if_neg o1, iz_250, b_sm]
    have dm := Int.emod_add_mul_ediv (- x) D
    have m0 := Int.emod_nonneg (- x) (show D ≠ 0 by omega)
    have m1' := Int.emod_lt_of_pos (- x) d0
    obtain ⟨F2, k1, k2, k3⟩ := tn_249 (w := w) (m := m1) (p := 0) (x := - x / D) (by decide) (by rw [← g4]; exact wd_w6)
    rw [zo] at k1
    by_cases e : - x % D = 0
    · rw [bi_t (by rw [g5]; exact e), k1, bv_sm, if_neg o1]
      refine ⟨_, rfl, fun z z1 z2 z3 z4 => by rw [stc_ne z1, g2 z z1 z2 z3, stc_ne z4], g3, ?_⟩
      rw [stc_at]
      have ex : x / D = - (- x / D) := by
        rw [e] at dm
        have : x = D * (- (- x / D)) := by grind
        have u : x / D = D * (- (- x / D)) / D := congrArg (fun t => t / D) this
        rw [Int.mul_ediv_cancel_left _ (show D ≠ 0 by omega)] at u
        exact u
      rw [ex]
      exact k3
    · rw [bi_f (by rw [g5]; exact e), k1, bv_sm, if_pos rfl]
      obtain ⟨F3, s1, s2, s3⟩ := st_251 (w := w) (m := stc m1 249 F2) (p := 0) (v := -1) (by decide)
      obtain ⟨F4, t1, t2, t3⟩ := ad_249_251 (w := w) (m := stc (stc m1 249 F2) 251 F3) (p := 0) (q := 0) (x := - (- x / D)) (y := -1) (by decide) (by decide) (by rw [stc_ne (by decide), stc_at]; exact k3) (by rw [stc_at]; exact s3)
      rw [zo] at s1 t1
      rw [s1, bv_sm, t1, bv_sm]
      refine ⟨_, rfl, fun z z1 z2 z3 z4 => by rw [stc_ne z1, stc_ne z3, stc_ne z1, g2 z z1 z2 z3, stc_ne z4], g3, ?_⟩
      rw [stc_at]
      have ex : x / D = - (- x / D) + -1 := by
        have : x = (D - - x % D) + D * (- (- x / D) - 1) := by grind
        have u : x / D = ((D - - x % D) + D * (- (- x / D) - 1)) / D := congrArg (fun t => t / D) this
        have z1 := Int.ediv_eq_zero_of_lt (a := D - - x % D) (b := D) (by omega) (by omega)
        rw [Int.add_mul_ediv_left _ _ (show D ≠ 0 by omega), z1, Int.zero_add] at u
        rw [u]
        omega
      rw [ex]
      exact t3
  · rw [if_neg q] at sgx
    rw [bi_f (by rw [sgx]; omega), if_pos rfl]
    obtain ⟨m1, g1, g2, g3, g4, g5⟩ := dv_252_253 (w := w) (m := m) (by rw [hD]; exact d0) (by rw [hD]; exact d1)
    rw [sgx, hD] at g4
    rw [g1, bv_sm, if_pos rfl]
    refine ⟨m1, rfl, fun z z1 z2 z3 _ => g2 z z1 z2 z3, g3, ?_⟩
    rw [← g4]
    exact wd_w6
theorem w_z {x : Int32} : x = 0 ↔ u32 x = 0 := by
  rw [i_eq, i_0]
  unfold u32
  have := rngI x
  omega
theorem w_m {x : Int32} : x = -1 ↔ u32 x = 4294967295 := by
  have z : (-1 : Int32).toInt = -1 := rfl
  rw [i_eq, z]
  unfold u32
  have := rngI x
  omega
theorem w6_ex (f : Nat → Int32) : w6 f 0 = u32 (f 0) + u32 (f 1) * 4294967296 + u32 (f 2) * 18446744073709551616 + u32 (f 3) * 79228162514264337593543950336 + u32 (f 4) * 340282366920938463463374607431768211456 + u32 (f 5) * 1461501637330902918203684832716283019655932542976 := by
  have q0 : pW 0 = 1 := rfl
  have q1 : pW 1 = 4294967296 := by decide
  have q2 : pW 2 = 18446744073709551616 := by decide
  have q3 : pW 3 = 79228162514264337593543950336 := by decide
  have q4 : pW 4 = 340282366920938463463374607431768211456 := by decide
  have q5 : pW 5 = 1461501637330902918203684832716283019655932542976 := by decide
  show 0 + u32 (f (0 + 0)) * pW 0 + u32 (f (0 + 1)) * pW 1 + u32 (f (0 + 2)) * pW 2 + u32 (f (0 + 3)) * pW 3 + u32 (f (0 + 4)) * pW 4 + u32 (f (0 + 5)) * pW 5 = _
  rw [q0, q1, q2, q3, q4, q5]
  simp only [Nat.zero_add]
  omega
theorem quoL_r {w : rf_w} {m : rf_m} : ∃ x, g_X14_quotientLong w m = some (x, m) ∧ (∀ v, wd (m.1 249) 0 v → -9223372036854775808 ≤ v → v < 9223372036854775808 → x.toInt = v) := by
  refine ⟨_, rfl, fun v hv h1 h2 => ?_⟩
  have t0 : Int32.toNatClampNeg 0 = 0 := rfl
  have t1 : Int32.toNatClampNeg 1 = 1 := rfl
  rw [t0, t1]
  have sg := wd_sg hv (by omega) (by omega)
  rw [w6_ex] at sg
  have ra := u32_rng (m.1 249 0)
  have rb := u32_rng (m.1 249 1)
  have rc := u32_rng (m.1 249 2)
  have rd := u32_rng (m.1 249 3)
  have re := u32_rng (m.1 249 4)
  have rf := u32_rng (m.1 249 5)
  have n : (((Int32.toInt64 (m.1 249 1)) <<< (Int32.toInt64 32 &&& 63)) ||| ((Int32.toInt64 (m.1 249 0)) &&& 4294967295)).toBitVec.toNat = (m.1 249 1).toBitVec.toNat * 4294967296 + (m.1 249 0).toBitVec.toNat := by
    have lo : ((Int32.toInt64 (m.1 249 0)) &&& 4294967295).toBitVec.toNat = (m.1 249 0).toBitVec.toNat := by
      have h := uM (x := m.1 249 0)
      have h0 : 0 ≤ ((Int32.toInt64 (m.1 249 0)) &&& 4294967295).toInt := by rw [h]; exact ra.1
      have h3 := toI_nn h0
      rw [h, u32_nat] at h3
      omega
    have l0 := (m.1 249 0).toBitVec.isLt
    have l1 := (m.1 249 1).toBitVec.isLt
    have hi : ((Int32.toInt64 (m.1 249 1)) <<< (Int32.toInt64 32 &&& 63)).toBitVec.toNat = (m.1 249 1).toBitVec.toNat * 4294967296 := by
      have ex : ((Int32.toInt64 (m.1 249 1)) <<< (Int32.toInt64 (Int32.ofNat 32) &&& 63)).toBitVec = (Int32.toInt64 (m.1 249 1)).toBitVec <<< 32 := by
        rw [Int64.toBitVec_shiftLeft, shL_amt 32 (by decide)]
        rfl
      have ex : ((Int32.toInt64 (m.1 249 1)) <<< (Int32.toInt64 32 &&& 63)).toBitVec = (Int32.toInt64 (m.1 249 1)).toBitVec <<< 32 := ex
      rw [ex, BitVec.toNat_shiftLeft, Nat.shiftLeft_eq]
      have se : (Int32.toInt64 (m.1 249 1)).toBitVec.toNat % 4294967296 = (m.1 249 1).toBitVec.toNat := by
        have h := uM (x := m.1 249 1)
        have hM : ((Int32.toInt64 (m.1 249 1)) &&& 4294967295).toBitVec.toNat = (Int32.toInt64 (m.1 249 1)).toBitVec.toNat % 2 ^ 32 := by
          rw [Int64.toBitVec_and, BitVec.toNat_and]
          have : (4294967295 : Int64).toBitVec.toNat = 2 ^ 32 - 1 := by decide
          rw [this, Nat.and_two_pow_sub_one_eq_mod]
        have h0 : 0 ≤ ((Int32.toInt64 (m.1 249 1)) &&& 4294967295).toInt := by rw [h]; exact rb.1
        have h3 := toI_nn h0
        rw [h, u32_nat, hM] at h3
        omega
      omega
    rw [Int64.toBitVec_or, BitVec.toNat_or, hi, lo]
    have s := Nat.shiftLeft_add_eq_or_of_lt (i := 32) (b := (m.1 249 0).toBitVec.toNat) l0 (m.1 249 1).toBitVec.toNat
    rw [Nat.shiftLeft_eq] at s
    exact s.symm
  have q0 := u32_nat (m.1 249 0)
  have q1 := u32_nat (m.1 249 1)
  show (((Int32.toInt64 (m.1 249 1)) <<< (Int32.toInt64 32 &&& 63)) ||| ((Int32.toInt64 (m.1 249 0)) &&& 4294967295)).toBitVec.toInt = v
  rw [BitVec.toInt_eq_toNat_cond, n]
  split at sg <;> split <;> omega
theorem isLong_r {w : rf_w} {m : rf_m} {v : Int} (hv : wd (m.1 249) 0 v) (h1 : -3138550867693340381917894711603833208051177722232017256448 ≤ v) (h2 : v < 3138550867693340381917894711603833208051177722232017256448) : g_X14_isLong w m = some (bi (-9223372036854775808 ≤ v ∧ v < 9223372036854775808), m) := by
  obtain ⟨FU, hF, hFb⟩ := fuel_ex
  have o1 : ¬ (1 : Int32) = 0 := by decide
  have t1 : Int32.toNatClampNeg 1 = 1 := rfl
  have key : ∀ s : Int32, ∀ r f i, i + r = 6 → 2 ≤ i → r < f → g_X14_isLong_19 w f (bi (∀ j, 2 ≤ j → j < i → m.1 249 j = s)) s (Int32.ofNat i) m = some (bi (∀ j, 2 ≤ j → j < 6 → m.1 249 j = s), m) := by
    intro s r
    induction r with
    | zero =>
      intro f i hi _ hf
      obtain ⟨f, rfl⟩ : ∃ g, f = g + 1 := ⟨f - 1, by omega⟩
      have e : i = 6 := by omega
      subst e
      show g_X14_isLong_19_b w _ _ _ _ m = _
      unfold g_X14_isLong_19_b
      have z : (6 : Int32) ≤ Int32.ofNat 6 := by decide
      rw [if_pos z, bi_01, g_t]
    | succ r ih =>
      intro f i hi h2 hf
      obtain ⟨f, rfl⟩ : ∃ g, f = g + 1 := ⟨f - 1, by omega⟩
      have i1 := ih f (i + 1) (by omega) (by omega) (by omega)
      have z : ¬ (6 : Int32) ≤ Int32.ofNat i := nle (R := 6) (by omega) (by decide)
      have s1 : (∀ j, 2 ≤ j → j < i + 1 → m.1 249 j = s) ↔ ((∀ j, 2 ≤ j → j < i → m.1 249 j = s) ∧ m.1 249 i = s) := ⟨fun h => ⟨fun j h2 hj => h j h2 (by omega), h i h2 (by omega)⟩, fun h j h2 hj => by
        by_cases e : j = i
        · rw [e]; exact h.2
        · exact h.1 j h2 (by omega)⟩
      show g_X14_isLong_19_b w (g_X14_isLong_19 w f) _ _ _ m = _
      unfold g_X14_isLong_19_b g_X14_isLong_43 g_X14_isLong_44
      rw [if_neg z, gof (n := i) (by omega) (by decide), g_t, tn_of (n := i) (by omega), of_succ]
      by_cases h : ∀ j, 2 ≤ j → j < i → m.1 249 j = s
      · rw [bi_t h, if_neg o1]
        by_cases h2 : m.1 249 i = s
        · rw [if_pos h2]
          rw [bi_t (s1.mpr ⟨h, h2⟩)] at i1
          exact i1
        · rw [if_neg h2]
          rw [bi_f (fun q => h2 (s1.mp q).2)] at i1
          exact i1
      · rw [bi_f h, if_pos rfl]
        rw [bi_f (fun q => h (s1.mp q).1)] at i1
        exact i1
  have sg := wd_sg hv h1 h2
  rw [w6_ex] at sg
  have ra := u32_rng (m.1 249 0)
  have rb := u32_rng (m.1 249 1)
  have rc := u32_rng (m.1 249 2)
  have rd := u32_rng (m.1 249 3)
  have re := u32_rng (m.1 249 4)
  have rf := u32_rng (m.1 249 5)
  have q1 : (0 : Int32) ≤ m.1 249 1 ↔ u32 (m.1 249 1) < 2147483648 := by
    rw [i_le, i_0]
    unfold u32
    have := rngI (m.1 249 1)
    omega
  have all4 : ∀ s : Int32, (∀ j, 2 ≤ j → j < 6 → m.1 249 j = s) ↔ (m.1 249 2 = s ∧ m.1 249 3 = s ∧ m.1 249 4 = s ∧ m.1 249 5 = s) := fun s => ⟨fun h => ⟨h 2 (by decide) (by decide), h 3 (by decide) (by decide), h 4 (by decide) (by decide), h 5 (by decide) (by decide)⟩, fun ⟨a, b, c, d⟩ j j2 j6 => by
    have : j = 2 ∨ j = 3 ∨ j = 4 ∨ j = 5 := by omega
    rcases this with e | e | e | e <;> subst e
    · exact a
    · exact b
    · exact c
    · exact d⟩
  unfold g_X14_isLong g_X14_isLong_16
  rw [t1, hF]
  by_cases c : (0 : Int32) ≤ m.1 249 1
  · have k := key 0 4 FU 2 (by omega) (by omega) (by omega)
    rw [bi_t (fun j h2 hj => by omega)] at k
    rw [if_pos c]
    refine k.trans ?_
    have c' := q1.mp c
    have : (∀ j, 2 ≤ j → j < 6 → m.1 249 j = 0) ↔ (-9223372036854775808 ≤ v ∧ v < 9223372036854775808) := by
      rw [all4, w_z, w_z, w_z, w_z]
      split at sg
      · omega
      · omega
    rw [bi_congr this]
  · have k := key (-1) 4 FU 2 (by omega) (by omega) (by omega)
    rw [bi_t (fun j h2 hj => by omega)] at k
    rw [if_neg c]
    refine k.trans ?_
    have c' : ¬ u32 (m.1 249 1) < 2147483648 := fun z => c (q1.mpr z)
    have : (∀ j, 2 ≤ j → j < 6 → m.1 249 j = -1) ↔ (-9223372036854775808 ≤ v ∧ v < 9223372036854775808) := by
      rw [all4, w_m, w_m, w_m, w_m]
      split at sg
      · omega
      · omega
    rw [bi_congr this]
end PBFloors
