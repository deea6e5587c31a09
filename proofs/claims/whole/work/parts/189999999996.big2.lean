/-! the class's whole numbers: copies, longs told -/
section PBBig2
theorem dropSign_c {w : rf_w} {m : rf_m} {a : Nat} {v : Int} (hb : bC w a) (h : bg m a v) : ∃ m', g_X1_dropSign w m a = some m' ∧ bF a m m' ∧ bg m' a (if v < 0 then - v else v) := by
  refine ⟨rf_i m a 1 0, ?_, bF_i, ?_⟩
  · unfold g_X1_dropSign
    rw [bC_g hb]
  · obtain ⟨n, h1, h2⟩ := h
    have r := bgs_rng h1
    refine ⟨n, ⟨h1.1, by rw [rf_i_c, if_pos rfl, pu_ne (by decide)]; exact h1.2.1, h1.2.2.1, h1.2.2.2⟩, Or.inl ⟨by rw [rf_i_c, if_pos rfl, pu_at], ?_⟩⟩
    rw [rf_i_l]
    rcases h2 with ⟨a1, a2⟩ | ⟨a1, a2, a3⟩
    · rw [a2, if_neg (by omega)]
    · have : ¬ lv (m.2 (a + 1)) n = 0 := fun z => by have := (bgs_0 h1).mpr z; omega
      rw [a2, if_pos (by omega)]
      omega
theorem copyFrom_c {w : rf_w} {m : rf_m} {a b : Nat} {v : Int} (ha : bC w a) (hb : bC w b) (ne : a ≠ b) (h : bg m b v) : ∃ m', g_X1_copyFrom w m a b = some m' ∧ bF a m m' ∧ bg m' a v := by
  obtain ⟨n, h1, h2⟩ := h
  have e0 : (rf_i m a 0 (m.1 b 0)).1 b 1 = m.1 b 1 := by rw [rf_i_c, if_neg (Ne.symm ne)]
  have e1 : (rf_i (rf_i m a 0 (m.1 b 0)) a 1 (m.1 b 1)).1 a 0 = m.1 b 0 := by rw [rf_i_c, if_pos rfl, pu_ne (by decide), rf_i_c, if_pos rfl, pu_at]
  have s01 : rf_01 (m.1 b 1) = true := by rcases h2 with ⟨q, _⟩ | ⟨q, _⟩ <;> rw [q] <;> rfl
  have cg : rf_cg 0 0 (Int32.ofNat n) 10 10 = true := by
    have n0 : ¬ Int32.ofNat n < 0 := fun z => by rw [i_lt, i_0, ofI (by have := h1.1; omega)] at z; omega
    have z0 : ¬ (0 : Int32) < 0 := by decide
    have t0 : (0 : Int32).toNatClampNeg = 0 := rfl
    have bl : Nat.ble (0 + n) 10 = true := Nat.ble_eq.mpr (by have := h1.1; omega)
    unfold rf_cg
    rw [tn_of (by have := h1.1; omega), t0, bl, decide_eq_false n0, decide_eq_false z0]
    rfl
  refine ⟨rf_cl2 (rf_i (rf_i m a 0 (m.1 b 0)) a 1 (m.1 b 1)) (b + 1) (a + 1) 0 0 (Int32.ofNat n), ?_, ?_, ?_⟩
  · unfold g_X1_copyFrom
    rw [bC_g ha, bC_g hb, e0, s01, g_t, e1, h1.2.1, cg, g_t]
  · refine ⟨fun z hz => ?_, fun z hz => ?_⟩
    · show (rf_i (rf_i m a 0 (m.1 b 0)) a 1 (m.1 b 1)).1 z = _
      rw [rf_i_c, if_neg hz, rf_i_c, if_neg hz]
    · unfold rf_cl2
      funext k
      simp only [if_neg hz]
      rfl
  · have lm : ∀ i, i < n → (rf_cl2 (rf_i (rf_i m a 0 (m.1 b 0)) a 1 (m.1 b 1)) (b + 1) (a + 1) 0 0 (Int32.ofNat n)).2 (a + 1) i = m.2 (b + 1) i := fun i hi => by
      have t : (Int32.ofNat n).toNatClampNeg = n := tn_of (by have := h1.1; omega)
      have t0 : (0 : Int32).toNatClampNeg = 0 := rfl
      unfold rf_cl2 va_cpy
      simp only [if_pos rfl, t, t0]
      simp
      rw [if_pos hi]
      rfl
    have f0 : (rf_cl2 (rf_i (rf_i m a 0 (m.1 b 0)) a 1 (m.1 b 1)) (b + 1) (a + 1) 0 0 (Int32.ofNat n)).1 a 0 = Int32.ofNat n := e1.trans h1.2.1
    have f1 : (rf_cl2 (rf_i (rf_i m a 0 (m.1 b 0)) a 1 (m.1 b 1)) (b + 1) (a + 1) 0 0 (Int32.ofNat n)).1 a 1 = m.1 b 1 := by
      show (rf_i (rf_i m a 0 (m.1 b 0)) a 1 (m.1 b 1)).1 a 1 = _
      rw [rf_i_c, if_pos rfl, pu_at]
    refine ⟨n, ⟨h1.1, f0, lmb_c h1.2.2.1 lm, fun k hk => by rw [lm k (by omega)]; exact h1.2.2.2 k hk⟩, ?_⟩
    rw [f1, lv_c n lm]
    exact h2
/-- its size, without sign -/
def mg (v : Int) : Int := if v < 0 then - v else v
theorem bg_mg {m : rf_m} {a : Nat} {v : Int} (h : bg m a v) : ∃ n, bgs m a n ∧ mg v = lv (m.2 (a + 1)) n ∧ ((m.1 a 1 = 0 ∧ 0 ≤ v) ∨ (m.1 a 1 = 1 ∧ v < 0)) := by
  obtain ⟨n, h1, h2⟩ := h
  have r := bgs_rng h1
  refine ⟨n, h1, ?_, ?_⟩
  · unfold mg
    rcases h2 with ⟨a1, a2⟩ | ⟨a1, a2, a3⟩
    · rw [a2, if_neg (by omega)]
    · have : ¬ lv (m.2 (a + 1)) n = 0 := fun z => by have := (bgs_0 h1).mpr z; omega
      rw [a2, if_pos (by omega)]
      omega
  · rcases h2 with ⟨a1, a2⟩ | ⟨a1, a2, a3⟩
    · exact Or.inl ⟨a1, by omega⟩
    · have : ¬ lv (m.2 (a + 1)) n = 0 := fun z => by have := (bgs_0 h1).mpr z; omega
      exact Or.inr ⟨a1, by omega⟩
theorem isLong_c {w : rf_w} {m : rf_m} {a : Nat} {v : Int} (hb : bC w a) (h : bg m a v) : g_X1_isLong w m a = some (bi (mg v < 9223372036854775808), m) := by
  obtain ⟨n, h1, h2, _⟩ := bg_mg h
  have r := bgs_rng h1
  have n10 := h1.1
  rw [h2]
  unfold g_X1_isLong
  rw [bC_g hb, h1.2.1]
  have p2 : pB 2 = 1152921504606846976 := by decide
  have p3 : pB 3 = 1237940039285380274899124224 := by decide
  by_cases q : n < 3
  · have q3 : Int32.ofNat n < 3 := (of_lt (b := 3) (by omega) (by omega)).mpr q
    rw [if_pos q3, bi_t]
    have := pB_le (a := n) (b := 2) (by omega)
    omega
  · have q' : ¬ Int32.ofNat n < 3 := fun z => q ((of_lt (b := 3) (by omega) (by omega)).mp z)
    rw [if_neg q']
    by_cases e : n = 3
    · subst e
      have e3 : Int32.ofNat 3 = 3 := rfl
      have t2 : (2 : Int32).toNatClampNeg = 2 := rfl
      rw [if_pos e3, t2]
      have s := lv_s (f := m.2 (a + 1)) (n := 2)
      have l2 := lv_rng 2 (lmb_le h1.2.2.1 (by omega))
      have z8 : (8 : Int64).toInt = 8 := rfl
      have s : lv (m.2 (a + 1)) 3 = lv (m.2 (a + 1)) 2 + (m.2 (a + 1) 2).toInt * pB 2 := s
      by_cases c : (0 : Int32) ≤ lg_cmp (m.2 (a + 1) 2) 8
      · have c' := cmp_nn.mp c
        rw [z8] at c'
        rw [if_pos c, bi_f]
        rw [p2] at s
        omega
      · have c' : ¬ (8 : Int64).toInt ≤ (m.2 (a + 1) 2).toInt := fun z => c (cmp_nn.mpr z)
        rw [z8] at c'
        rw [if_neg c, bi_t]
        rw [p2] at s l2
        omega
    · have e' : ¬ Int32.ofNat n = 3 := fun z => e ((of_inj (b := 3) (by omega) (by omega)).mp z)
      rw [if_neg e', bi_f]
      obtain ⟨k, rfl⟩ : ∃ k, n = k + 1 := ⟨n - 1, by omega⟩
      have := r.2.2 k rfl
      have := pB_le (a := 3) (b := k) (by omega)
      omega
theorem toLong_c {w : rf_w} {m : rf_m} {a : Nat} {v : Int} (hb : bC w a) (h : bg m a v) (hv : mg v < 9223372036854775808) : ∃ x, g_X1_toLong w m a = some (x, m) ∧ x.toInt = v := by
  obtain ⟨F, hF, hFb⟩ := fuel_ex
  obtain ⟨n, h1, h2⟩ := h
  have h0 : bg m a v := ⟨n, h1, h2⟩
  obtain ⟨n', h1', h2', h3'⟩ := bg_mg h0
  have en : n' = n := (of_inj (by have := h1.1; have := h1'.1; omega) (by have := h1'.1; have := h1.1; omega)).mp (h1'.2.1.symm.trans h1.2.1)
  subst en
  rw [h2'] at hv
  have n10 := h1.1
  have key : ∀ i f (x : Int64), i ≤ n' → i < f → 0 ≤ x.toInt → x.toInt * pB i + lv (m.2 (a + 1)) i = lv (m.2 (a + 1)) n' → ∃ y : Int64, g_X1_toLong_9 w f a x (Int32.ofNat i - 1) m = some (if m.1 a 1 = 0 then y else -y, m) ∧ y.toInt = lv (m.2 (a + 1)) n' := by
    intro i
    induction i with
    | zero =>
      intro f x _ hf x0 hx
      obtain ⟨f, rfl⟩ : ∃ g, f = g + 1 := ⟨f - 1, by omega⟩
      refine ⟨x, ?_, ?_⟩
      · show g_X1_toLong_9_b w _ _ _ _ m = _
        unfold g_X1_toLong_9_b
        have l0 : Int32.ofNat 0 - 1 < 0 := by decide
        rw [bC_g hb, if_pos l0]
        split <;> rfl
      · rw [← hx]
        show x.toInt = x.toInt * 1 + 0
        omega
    | succ i ih =>
      intro f x hi hf x0 hx
      obtain ⟨f, rfl⟩ : ∃ g, f = g + 1 := ⟨f - 1, by omega⟩
      have lb := h1.2.2.1 i (by omega)
      have lr := lv_rng i (lmb_le h1.2.2.1 (by omega))
      have pe : pB (i + 1) = pB i * 1073741824 := rfl
      have pp := pB_pos i
      rw [lv_s, pe] at hx
      have le : (x.toInt * 1073741824 + (m.2 (a + 1) i).toInt) * pB i = x.toInt * (pB i * 1073741824) + (m.2 (a + 1) i).toInt * pB i := by grind
      have le2 : (x.toInt * 1073741824 + (m.2 (a + 1) i).toInt) * 1 ≤ (x.toInt * 1073741824 + (m.2 (a + 1) i).toInt) * pB i := Int.mul_le_mul_of_nonneg_left (by omega) (by omega)
      have p30 : (2 : Int) ^ 30 = 1073741824 := by decide
      have so := shlO (x := x) (y := m.2 (a + 1) i) (s := 30) (by decide) x0 lb.1 (by rw [p30]; exact lb.2) (by rw [p30]; omega)
      rw [p30] at so
      have so : ((x <<< (Int32.toInt64 30 &&& 63)) ||| m.2 (a + 1) i).toInt = x.toInt * 1073741824 + (m.2 (a + 1) i).toInt := so
      obtain ⟨y, k1, k2⟩ := ih f ((x <<< (Int32.toInt64 30 &&& 63)) ||| m.2 (a + 1) i) (by omega) (by omega) (by rw [so]; omega) (by rw [so, le, ← hx]; omega)
      refine ⟨y, ?_, k2⟩
      show g_X1_toLong_9_b w (g_X1_toLong_9 w f) _ _ _ m = _
      unfold g_X1_toLong_9_b rf_vl
      have l0 : ¬ Int32.ofNat i < 0 := fun z => by rw [i_lt, i_0, ofI (by omega)] at z; omega
      have em : Int32.ofNat i + (-1) = Int32.ofNat i - 1 := by grind
      rw [bC_g hb, ofm1', if_neg l0, gof (n := i) (by omega) (by decide), g_t, tn_of (n := i) (by omega), em]
      exact k1
  obtain ⟨y, k1, k2⟩ := key n' F 0 (Nat.le_refl _) (by omega) (by decide) (by
    show 0 * pB n' + _ = _
    omega)
  refine ⟨if m.1 a 1 = 0 then y else -y, ?_, ?_⟩
  · unfold g_X1_toLong
    rw [bC_g hb, h1.2.1, hF, k1]
  · have r := (bgs_rng h1).1
    rcases h2 with ⟨a1, a2⟩ | ⟨a1, a2, a3⟩
    · rw [if_pos a1, k2, a2]
    · rw [if_neg (by rw [a1]; decide), Int64.toInt_neg, bm64 (by omega) (by omega), k2, a2]
theorem isShort_c {w : rf_w} {m : rf_m} {a : Nat} {v : Int} (hb : bC w a) (h : bg m a v) : g_X0_isShort w m a = some (bi (mg v < 1000000000), m) := by
  have o1 : ¬ (1 : Int32) = 0 := by decide
  unfold g_X0_isShort
  rw [bC_g hb, isLong_c hb h, b_sm]
  by_cases q : mg v < 9223372036854775808
  · obtain ⟨x, k1, k2⟩ := toLong_c hb h q
    rw [bi_t q, if_neg o1, k1, b_sm]
    have ab : ∃ z : Int64, g_absL w m x = some (z, m) ∧ z.toInt = mg v := by
      unfold g_absL
      unfold mg at q ⊢
      by_cases c : (0 : Int32) ≤ lg_cmp x 0
      · have c' := cmp_nn.mp c
        rw [l_0, k2] at c'
        rw [if_pos c]
        exact ⟨x, rfl, by rw [if_neg (by omega)]; exact k2⟩
      · have c' : ¬ (0 : Int64).toInt ≤ x.toInt := fun z => c (cmp_nn.mpr z)
        rw [l_0, k2] at c'
        rw [if_pos (by omega)] at q
        rw [if_neg c]
        exact ⟨-x, rfl, by rw [if_pos (by omega), Int64.toInt_neg, bm64 (by omega) (by omega), k2]⟩
    obtain ⟨z, z1, z2⟩ := ab
    rw [z1, b_sm]
    have zb : (1000000000 : Int64).toInt = 1000000000 := rfl
    by_cases c : (0 : Int32) ≤ lg_cmp z 1000000000
    · have c' := cmp_nn.mp c
      rw [zb, z2] at c'
      rw [if_pos c, bi_f (by omega)]
    · have c' : ¬ (1000000000 : Int64).toInt ≤ z.toInt := fun z => c (cmp_nn.mpr z)
      rw [zb, z2] at c'
      rw [if_neg c, bi_t (by omega)]
  · rw [bi_f q, if_pos rfl, bi_f (by omega)]
end PBBig2
