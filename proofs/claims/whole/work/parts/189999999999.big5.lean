/-! the class's whole numbers: leading zeros, shifts -/
section PBBig5
theorem shI_amt : ∀ u, u < 32 → (Int32.toUInt32 (Int32.ofNat u) &&& Int32.toUInt32 31).toBitVec % 32 = BitVec.ofNat 32 u := by decide
theorem shrI {v k : Nat} (hk : k < 32) (hv : v < 2147483648) : ((Int32.toUInt32 (Int32.ofNat v) >>> (Int32.toUInt32 (Int32.ofNat k) &&& Int32.toUInt32 31)).toInt32) = Int32.ofNat (v / 2 ^ k) := by
  have e : (((Int32.toUInt32 (Int32.ofNat v) >>> (Int32.toUInt32 (Int32.ofNat k) &&& Int32.toUInt32 31)).toInt32)).toBitVec = (BitVec.ofNat 32 v) >>> k := by
    show (Int32.toUInt32 (Int32.ofNat v) >>> (Int32.toUInt32 (Int32.ofNat k) &&& Int32.toUInt32 31)).toBitVec = _
    rw [UInt32.toBitVec_shiftRight, shI_amt k hk, BitVec.ushiftRight_eq', BitVec.toNat_ofNat, Nat.mod_eq_of_lt (by omega)]
    rfl
  refine Int32.toBitVec_inj.mp ?_
  rw [e]
  refine BitVec.eq_of_toNat_eq ?_
  have l : v / 2 ^ k ≤ v := Nat.div_le_self _ _
  rw [BitVec.toNat_ushiftRight, BitVec.toNat_ofNat, Nat.mod_eq_of_lt (by omega), Nat.shiftRight_eq_div_pow]
  show _ = (BitVec.ofNat 32 (v / 2 ^ k)).toNat
  rw [BitVec.toNat_ofNat, Nat.mod_eq_of_lt (by omega)]
theorem nlz61 {w : rf_w} {m : rf_m} {v n : Nat} (h0 : 0 < v) (h1 : v < 16) (hn : 3 ≤ n) (hn2 : n < 40) : ∃ r, g_J6_numberOfLeadingZeros_0f7a4_61 w (Int32.ofNat v) (Int32.ofNat n) m = some (Int32.ofNat r, m) ∧ r ≤ n ∧ n ≤ r + 3 ∧ 2 ^ (n - r) ≤ v ∧ v < 2 ^ (n - r + 1) := by
  unfold g_J6_numberOfLeadingZeros_0f7a4_61 rf_vi
  have e1 := fun x (hx : x < 2147483648) => shrI (v := x) (k := 1) (by decide) hx
  have e2 := fun x (hx : x < 2147483648) => shrI (v := x) (k := 2) (by decide) hx
  have f1 : Int32.ofNat 1 = 1 := rfl
  have f2 : Int32.ofNat 2 = 2 := rfl
  rw [f1] at e1
  rw [f2] at e2
  by_cases q : v < 4
  · have q' : Int32.ofNat v < 4 := (of_lt (b := 4) (by omega) (by omega)).mpr q
    rw [if_pos q', e1 v (by omega)]
    refine ⟨n - v / 2, ?_, by omega, by omega, ?_⟩
    · have es : Int32.ofNat n - Int32.ofNat (v / 2 ^ 1) = Int32.ofNat (n - v / 2) := by
        rw [i_eq, subI (by rw [ofI (by omega), ofI (by omega)]; omega) (by rw [ofI (by omega), ofI (by omega)]; omega), ofI (by omega), ofI (by omega), ofI (by omega)]
        omega
      rw [es]
    · have : v = 1 ∨ v = 2 ∨ v = 3 := by omega
      rcases this with h | h | h
      · subst h; rw [show n - (n - 1 / 2) = 0 by omega]; decide
      · subst h; rw [show n - (n - 2 / 2) = 1 by omega]; decide
      · subst h; rw [show n - (n - 3 / 2) = 1 by omega]; decide
  · have q' : ¬ Int32.ofNat v < 4 := fun z => q ((of_lt (b := 4) (by omega) (by omega)).mp z)
    rw [if_neg q', e2 v (by omega)]
    dsimp only
    rw [e1 _ (by omega)]
    have m2 : Int32.ofNat n + (-2) = Int32.ofNat (n - 2) := by
      have z : (-2 : Int32).toInt = -2 := rfl
      rw [i_eq, addI (by rw [ofI (by omega), z]; omega) (by rw [ofI (by omega), z]; omega), ofI (by omega), ofI (by omega), z]
      omega
    rw [m2]
    refine ⟨n - 2 - v / 4 / 2, ?_, by omega, by omega, ?_⟩
    · have es : Int32.ofNat (n - 2) - Int32.ofNat (v / 2 ^ 2 / 2 ^ 1) = Int32.ofNat (n - 2 - v / 4 / 2) := by
        rw [i_eq, subI (by rw [ofI (by omega), ofI (by omega)]; omega) (by rw [ofI (by omega), ofI (by omega)]; omega), ofI (by omega), ofI (by omega), ofI (by omega)]
        omega
      rw [es]
    · by_cases c : v < 8
      · rw [show n - (n - 2 - v / 4 / 2) = 2 by omega]
        exact ⟨by omega, by omega⟩
      · rw [show n - (n - 2 - v / 4 / 2) = 3 by omega]
        exact ⟨by omega, by omega⟩
theorem pow_sh {v k e : Nat} (h1 : 2 ^ e ≤ v / 2 ^ k) (h2 : v / 2 ^ k < 2 ^ (e + 1)) : 2 ^ (e + k) ≤ v ∧ v < 2 ^ (e + k + 1) := by
  have p := Nat.pow_pos (n := k) (show 0 < 2 by omega)
  have d := Nat.div_add_mod v (2 ^ k)
  have l := Nat.mod_lt v p
  rw [Nat.pow_add, show e + k + 1 = (e + 1) + k by omega, Nat.pow_add 2 (e + 1)]
  have u1 := Nat.mul_le_mul_right (2 ^ k) h1
  have u2 := Nat.mul_le_mul_right (2 ^ k) (Nat.succ_le_of_lt h2)
  rw [Nat.mul_comm (v / 2 ^ k)] at u1
  have u3 : (v / 2 ^ k + 1) * 2 ^ k = 2 ^ k * (v / 2 ^ k) + 2 ^ k := by rw [Nat.add_mul, Nat.mul_comm, Nat.one_mul]
  rw [Nat.succ_eq_add_one, u3] at u2
  omega
theorem nlzI {w : rf_w} {m : rf_m} {v : Nat} (h0 : 0 < v) (h1 : v < 1073741824) : ∃ r, g_J6_numberOfLeadingZeros_0f7a4 w m (Int32.ofNat v) = some (Int32.ofNat r, m) ∧ r ≤ 31 ∧ 2 ^ (31 - r) ≤ v ∧ v < 2 ^ (31 - r + 1) := by
  have f16 : Int32.ofNat 16 = 16 := rfl
  have f8 : Int32.ofNat 8 = 8 := rfl
  have f4 : Int32.ofNat 4 = 4 := rfl
  -- by fours
  have s48 : ∀ v n, 0 < v → v < 256 → 7 ≤ n → n < 40 → ∃ r, g_J6_numberOfLeadingZeros_0f7a4_48 w (Int32.ofNat v) (Int32.ofNat n) m = some (Int32.ofNat r, m) ∧ r ≤ n ∧ n ≤ r + 7 ∧ 2 ^ (n - r) ≤ v ∧ v < 2 ^ (n - r + 1) := by
    intro v n a b c d
    unfold g_J6_numberOfLeadingZeros_0f7a4_48 rf_vi
    by_cases q : v < 16
    · have q' : Int32.ofNat v < 16 := (of_lt (b := 16) (by omega) (by omega)).mpr q
      rw [if_pos q']
      obtain ⟨r, r1, r2, r3, r4⟩ := nlz61 (w := w) (m := m) a q (by omega) d
      exact ⟨r, r1, r2, by omega, r4⟩
    · have q' : ¬ Int32.ofNat v < 16 := fun z => q ((of_lt (b := 16) (by omega) (by omega)).mp z)
      have e := shrI (v := v) (k := 4) (by decide) (by omega)
      rw [f4] at e
      have m4 : Int32.ofNat n + (-4) = Int32.ofNat (n - 4) := by
        have z : (-4 : Int32).toInt = -4 := rfl
        rw [i_eq, addI (by rw [ofI (by omega), z]; omega) (by rw [ofI (by omega), z]; omega), ofI (by omega), ofI (by omega), z]
        omega
      rw [if_neg q', e]
      dsimp only
      rw [m4]
      obtain ⟨r, r1, r2, r3, r4, r5⟩ := nlz61 (w := w) (m := m) (v := v / 2 ^ 4) (n := n - 4) (by omega) (by omega) (by omega) (by omega)
      have := pow_sh r4 r5
      rw [show n - 4 - r + 4 = n - r by omega] at this
      exact ⟨r, r1, by omega, by omega, this⟩
  have s33 : ∀ v n, 0 < v → v < 65536 → 15 ≤ n → n < 40 → ∃ r, g_J6_numberOfLeadingZeros_0f7a4_33 w (Int32.ofNat v) (Int32.ofNat n) m = some (Int32.ofNat r, m) ∧ r ≤ n ∧ n ≤ r + 15 ∧ 2 ^ (n - r) ≤ v ∧ v < 2 ^ (n - r + 1) := by
    intro v n a b c d
    unfold g_J6_numberOfLeadingZeros_0f7a4_33 rf_vi
    by_cases q : v < 256
    · have q' : Int32.ofNat v < 256 := (of_lt (b := 256) (by omega) (by omega)).mpr q
      rw [if_pos q']
      obtain ⟨r, r1, r2, r3, r4⟩ := s48 v n a q (by omega) d
      exact ⟨r, r1, r2, by omega, r4⟩
    · have q' : ¬ Int32.ofNat v < 256 := fun z => q ((of_lt (b := 256) (by omega) (by omega)).mp z)
      have e := shrI (v := v) (k := 8) (by decide) (by omega)
      rw [f8] at e
      have m4 : Int32.ofNat n + (-8) = Int32.ofNat (n - 8) := by
        have z : (-8 : Int32).toInt = -8 := rfl
        rw [i_eq, addI (by rw [ofI (by omega), z]; omega) (by rw [ofI (by omega), z]; omega), ofI (by omega), ofI (by omega), z]
        omega
      rw [if_neg q', e]
      dsimp only
      rw [m4]
      obtain ⟨r, r1, r2, r3, r4, r5⟩ := s48 (v / 2 ^ 8) (n - 8) (by omega) (by omega) (by omega) (by omega)
      have := pow_sh r4 r5
      rw [show n - 8 - r + 8 = n - r by omega] at this
      exact ⟨r, r1, by omega, by omega, this⟩
  unfold g_J6_numberOfLeadingZeros_0f7a4 rf_vi
  have p0 : (0 : Int32) < Int32.ofNat v := (of_lt (a := 0) (by omega) (by omega)).mpr h0
  rw [if_pos p0]
  by_cases q : v < 65536
  · have q' : Int32.ofNat v < 65536 := (of_lt (b := 65536) (by omega) (by omega)).mpr q
    rw [if_pos q']
    obtain ⟨r, r1, r2, r3, r4⟩ := s33 v 31 h0 q (by omega) (by omega)
    exact ⟨r, r1, r2, r4⟩
  · have q' : ¬ Int32.ofNat v < 65536 := fun z => q ((of_lt (b := 65536) (by omega) (by omega)).mp z)
    have e := shrI (v := v) (k := 16) (by decide) (by omega)
    rw [f16] at e
    have m4 : (31 : Int32) + (-16) = Int32.ofNat 15 := by decide
    rw [if_neg q', e]
    dsimp only
    rw [m4]
    obtain ⟨r, r1, r2, r3, r4, r5⟩ := s33 (v / 2 ^ 16) 15 (by omega) (by omega) (by omega) (by omega)
    have := pow_sh r4 r5
    rw [show 15 - r + 16 = 31 - r by omega] at this
    exact ⟨r, r1, by omega, this⟩
/-- how far a limb is moved so that it is at least half the base -/
theorem nlzL {w : rf_w} {m : rf_m} {x : Int64} (h0 : 0 < x.toInt) (h1 : x.toInt < 1073741824) : ∃ r s, g_J13_numberOfLeadingZeros_95d88 w m x = some (r, m) ∧ r - 34 = Int32.ofNat s ∧ s < 30 ∧ 536870912 ≤ x.toInt * 2 ^ s ∧ x.toInt * 2 ^ s < 1073741824 := by
  have e0 := shrS (x := x) (s := 32) (by decide) (by omega)
  have f32 : Int32.ofNat 32 = 32 := rfl
  have p32 : (2 : Int) ^ 32 = 4294967296 := by decide
  rw [f32, p32] at e0
  have z0 : Int64.toInt32 ((Int64.toUInt64 x >>> ((Int32.toInt64 32).toUInt64 &&& Int64.toUInt64 63)).toInt64) = 0 := by
    rw [i_eq, l2i (by rw [e0]; omega) (by rw [e0]; omega), e0, i_0]
    omega
  obtain ⟨v, hv⟩ : ∃ v : Nat, x.toInt = v := ⟨x.toInt.toNat, by omega⟩
  have xv : Int64.toInt32 x = Int32.ofNat v := by rw [i_eq, l2i (by omega) (by omega), ofI (by omega), hv]
  obtain ⟨r, r1, r2, r3, r4⟩ := nlzI (w := w) (m := m) (v := v) (by omega) (by omega)
  have r2' : 2 ≤ r := by
    refine Classical.byContradiction fun q => ?_
    have : 2 ^ 30 ≤ 2 ^ (31 - r) := Nat.pow_le_pow_right (by omega) (by omega)
    omega
  refine ⟨32 + Int32.ofNat r, r - 2, ?_, ?_, by omega, ?_, ?_⟩
  · unfold g_J13_numberOfLeadingZeros_95d88 rf_vi
    dsimp only
    rw [z0, if_pos rfl, xv, r1, b_sm]
  · have z32 : (32 : Int32).toInt = 32 := rfl
    have z34 : (34 : Int32).toInt = 34 := rfl
    have a1 := addI (a := 32) (b := Int32.ofNat r) (by rw [ofI (by omega), z32]; omega) (by rw [ofI (by omega), z32]; omega)
    rw [ofI (by omega), z32] at a1
    rw [i_eq, subI (by rw [a1, z34]; omega) (by rw [a1, z34]; omega), a1, z34, ofI (by omega)]
    omega
  · have e : 2 ^ (31 - r) * 2 ^ (r - 2) = 2 ^ 29 := by rw [← Nat.pow_add, show 31 - r + (r - 2) = 29 by omega]
    have := Nat.mul_le_mul_right (2 ^ (r - 2)) r3
    rw [e] at this
    rw [hv]
    have c : ((v * 2 ^ (r - 2) : Nat) : Int) = (v : Int) * 2 ^ (r - 2) := by rw [Int.natCast_mul, Int.natCast_pow]; rfl
    rw [← c]
    omega
  · have e : 2 ^ (31 - r + 1) * 2 ^ (r - 2) = 2 ^ 30 := by rw [← Nat.pow_add, show 31 - r + 1 + (r - 2) = 30 by omega]
    have pp := Nat.pow_pos (n := r - 2) (show 0 < 2 by omega)
    have := Nat.mul_lt_mul_of_pos_right r4 pp
    rw [e] at this
    rw [hv]
    have c : ((v * 2 ^ (r - 2) : Nat) : Int) = (v : Int) * 2 ^ (r - 2) := by rw [Int.natCast_mul, Int.natCast_pow]; rfl
    rw [← c]
    omega
theorem p2_pos (s : Nat) : 0 < (2 : Int) ^ s := Int.pow_pos (by omega)
theorem p2_30 {s : Nat} (h : s < 30) : (2 : Int) ^ s ≤ 536870912 ∧ (2 : Int) ^ s * 2 ^ (30 - s) = 1073741824 := by
  constructor
  · have h1 : 2 ^ s ≤ 2 ^ 29 := Nat.pow_le_pow_right (by omega) (by omega)
    have h2 : ((2 ^ s : Nat) : Int) = (2 : Int) ^ s := by rw [Int.natCast_pow]; rfl
    rw [← h2]
    omega
  · rw [← Int.pow_add, show s + (30 - s) = 30 by omega]
    rfl
/-- moved up: what runs over stands behind -/
theorem shiftUp_c {w : rf_w} {m : rf_m} {a n s : Nat} (ha : bC w a) (hs : s < 30) (hn : n ≤ 9) (h0 : m.1 a 0 = Int32.ofNat n) (hl : lmb (m.2 (a + 1)) n) : ∃ m', g_X1_shiftUp w m a (Int32.ofNat s) = some m' ∧ m'.1 = m.1 ∧ (∀ z, z ≠ a + 1 → m'.2 z = m.2 z) ∧ lmb (m'.2 (a + 1)) (n + 1) ∧ lv (m'.2 (a + 1)) (n + 1) = lv (m.2 (a + 1)) n * 2 ^ s := by
  obtain ⟨F, hF, hFb⟩ := fuel_ex
  obtain ⟨p1, p2⟩ := p2_30 hs
  have p0 := p2_pos s
  have key : ∀ r f i (M : rf_m) (cy : Int64), i + r = n → r < f → M.1 = m.1 → (∀ z, z ≠ a + 1 → M.2 z = m.2 z) → lmb (M.2 (a + 1)) n → (∀ k, i ≤ k → M.2 (a + 1) k = m.2 (a + 1) k) → 0 ≤ cy.toInt → cy.toInt < 2 ^ s → lv (M.2 (a + 1)) i + cy.toInt * pB i = lv (m.2 (a + 1)) i * 2 ^ s → ∃ M', g_X1_shiftUp_5 w f a (Int32.ofNat s) cy (Int32.ofNat i) M = some M' ∧ M'.1 = m.1 ∧ (∀ z, z ≠ a + 1 → M'.2 z = m.2 z) ∧ lmb (M'.2 (a + 1)) (n + 1) ∧ lv (M'.2 (a + 1)) (n + 1) = lv (m.2 (a + 1)) n * 2 ^ s := by
    intro r
    induction r with
    | zero =>
      intro f i M cy hi hf h1 h2 hl' hk c0 c1 hv
      obtain ⟨f, rfl⟩ : ∃ g, f = g + 1 := ⟨f - 1, by omega⟩
      have e : i = n := by omega
      subst e
      refine ⟨rf_l M (a + 1) i cy, ?_, h1, fun z hz => by rw [rf_l_c, if_neg hz]; exact h2 z hz, ?_, ?_⟩
      · show g_X1_shiftUp_5_b w _ _ _ _ _ M = _
        unfold g_X1_shiftUp_5_b
        have g10 : ¬ (10 : Int32) ≤ Int32.ofNat i := nle (R := 10) (by omega) (by decide)
        rw [bC_g ha, h1, h0, if_pos (Int32.le_refl _), if_neg g10, gof (n := i) (by omega) (by decide), g_t, tn_of (n := i) (by omega)]
      · rw [rf_l_c, if_pos rfl]
        refine lmb_s (lmb_pu hl' c0 (by omega)) ?_ ?_
        · rw [pu_at]; exact c0
        · rw [pu_at]; omega
      · rw [rf_l_c, if_pos rfl, lv_s, pu_at, lv_c i (fun q hq => pu_ne (f := M.2 (a + 1)) (k := i) (x := cy) (by omega))]
        exact hv
    | succ r ih =>
      intro f i M cy hi hf h1 h2 hl' hk c0 c1 hv
      obtain ⟨f, rfl⟩ : ∃ g, f = g + 1 := ⟨f - 1, by omega⟩
      have gn : ¬ Int32.ofNat n ≤ Int32.ofNat i := nle (by omega) (by omega)
      have la := hl i (by omega)
      have xi := hk i (Nat.le_refl _)
      generalize hA : m.2 (a + 1) i = xa at *
      have mb0 : 0 ≤ xa.toInt * 2 ^ s := Int.mul_nonneg la.1 (by omega)
      have mb1 : xa.toInt * 2 ^ s ≤ 1073741823 * 2 ^ s := Int.mul_le_mul_of_nonneg_right (by omega) (by omega)
      have so := shlO (x := xa) (y := cy) (s := s) (by omega) la.1 c0 c1 (by omega)
      generalize hS : (xa <<< (Int32.toInt64 (Int32.ofNat s) &&& 63)) ||| cy = S at *
      have sad := and30 (x := S)
      have ss := sar30 (x := S)
      have d := Int.emod_add_mul_ediv S.toInt 1073741824
      obtain ⟨M', k1, k2⟩ := ih f (i + 1) (rf_l M (a + 1) i (S &&& 1073741823)) (S >>> (Int32.toInt64 30 &&& 63)) (by omega) (by omega) h1 (fun z hz => by rw [rf_l_c, if_neg hz]; exact h2 z hz) (by rw [rf_l_c, if_pos rfl]; exact lmb_pu hl' (by rw [sad]; omega) (by rw [sad]; omega)) (fun k h => by rw [rf_l_c, if_pos rfl, pu_ne (by omega)]; exact hk k (by omega)) (by rw [ss]; omega) (by rw [ss]; omega) (by
        have pj : pB (i + 1) = pB i * 1073741824 := rfl
        rw [rf_l_c, if_pos rfl, lv_s, lv_s, pu_at, lv_c i (fun q hq => pu_ne (f := M.2 (a + 1)) (k := i) (x := (S &&& 1073741823)) (by omega)), sad, ss, hA, pj]
        generalize S.toInt % 1073741824 = R at *
        generalize S.toInt / 1073741824 = Q at *
        generalize (2 : Int) ^ s = E at *
        rw [← d] at so
        grind)
      refine ⟨M', ?_, k2⟩
      show g_X1_shiftUp_5_b w (g_X1_shiftUp_5 w f) _ _ _ _ M = _
      unfold g_X1_shiftUp_5_b rf_vl
      rw [bC_g ha, h1, h0, if_neg gn, gof (n := i) (by omega) (by decide), g_t]
      dsimp only
      rw [g_t, tn_of (n := i) (by omega), xi, hS, of_succ, k1]
  obtain ⟨M', k1, k2⟩ := key n F 0 m 0 (by omega) (by omega) rfl (fun _ _ => rfl) hl (fun _ _ => rfl) (by decide) p0 (by
    show (0 : Int) + 0 * 1 = 0 * 2 ^ s
    rw [Int.zero_mul, Int.zero_mul]; rfl)
  refine ⟨M', ?_, k2⟩
  unfold g_X1_shiftUp
  rw [bC_g ha, hF]
  exact k1
/-- moved down -/
theorem shiftDown_c {w : rf_w} {m : rf_m} {a n s : Nat} (ha : bC w a) (hs : s < 30) (hn : n ≤ 10) (h1 : m.1 a 1 = 0 ∨ m.1 a 1 = 1) (hl : lmb (m.2 (a + 1)) n) {R : Int} (hR : lv (m.2 (a + 1)) n = R * 2 ^ s) : ∃ m', g_X1_shiftDown w m a (Int32.ofNat n) (Int32.ofNat s) = some m' ∧ bF a m m' ∧ bg m' a (if m.1 a 1 = 0 then R else - R) := by
  obtain ⟨F, hF, hFb⟩ := fuel_ex
  obtain ⟨p1, p2⟩ := p2_30 hs
  have p0 := p2_pos s
  have q0 := p2_pos (30 - s)
  -- what is lost of each limb
  let lo : Nat → Int := fun i => if i < n then (m.2 (a + 1) i).toInt % 2 ^ s else 0
  have lo_r : ∀ i, 0 ≤ lo i ∧ lo i < 2 ^ s := fun i => by
    show 0 ≤ (if i < n then (m.2 (a + 1) i).toInt % 2 ^ s else 0) ∧ (if i < n then (m.2 (a + 1) i).toInt % 2 ^ s else 0) < 2 ^ s
    split
    · exact ⟨Int.emod_nonneg _ (by omega), Int.emod_lt_of_pos _ p0⟩
    · omega
  have key : ∀ r f i (M : rf_m), i + r = n → r < f → M.1 = m.1 → (∀ z, z ≠ a + 1 → M.2 z = m.2 z) → lmb (M.2 (a + 1)) n → (∀ k, i ≤ k → M.2 (a + 1) k = m.2 (a + 1) k) → 2 ^ s * lv (M.2 (a + 1)) i = lv (m.2 (a + 1)) i - lo 0 + lo i * pB i → ∃ M', g_X1_shiftDown_2 w f a (Int32.ofNat n) (Int32.ofNat s) (Int32.ofNat i) M = some M' ∧ bF a m M' ∧ bg M' a (if m.1 a 1 = 0 then R else - R) := by
    intro r
    induction r with
    | zero =>
      intro f i M hi hf e1 e2 hl' hk hv
      obtain ⟨f, rfl⟩ : ∃ g, f = g + 1 := ⟨f - 1, by omega⟩
      have e : i = n := by omega
      subst e
      have l1 : lo i = 0 := if_neg (by omega)
      have l0 : lo 0 = 0 := by
        have rr := lo_r 0
        have pe : ∃ K : Int, lo 0 = K * 2 ^ s := ⟨R - lv (M.2 (a + 1)) i, by
          rw [l1, hR] at hv
          generalize (2 : Int) ^ s = E at *
          grind⟩
        obtain ⟨K, hK⟩ := pe
        have k1 : ¬ 1 ≤ K := fun z => by
          have := Int.mul_le_mul_of_nonneg_right z (show 0 ≤ (2 : Int) ^ s by omega)
          omega
        have k2 : ¬ K ≤ -1 := fun z => by
          have := Int.mul_le_mul_of_nonneg_right z (show 0 ≤ (2 : Int) ^ s by omega)
          omega
        have : K = 0 := by omega
        rw [hK, this, Int.zero_mul]
      have lvR : lv (M.2 (a + 1)) i = R := by
        rw [l1, l0, hR] at hv
        have : 2 ^ s * lv (M.2 (a + 1)) i = 2 ^ s * R := by rw [hv]; grind
        exact Int.eq_of_mul_eq_mul_left (by omega) this
      obtain ⟨M', k1, k2, k3⟩ := settle_c (m := M) (k := i) (N := i) ha h1 (by omega) (by rw [if_pos hn]) hl'
      rw [lvR] at k3
      refine ⟨M', ?_, ⟨fun z hz => by rw [k2.1 z hz, e1], fun z hz => by rw [k2.2, e2 z hz]⟩, k3⟩
      show g_X1_shiftDown_2_b w _ _ _ _ _ M = _
      unfold g_X1_shiftDown_2_b
      rw [bC_g ha, if_pos (Int32.le_refl _), e1, k1, bv_sm]
    | succ r ih =>
      intro f i M hi hf e1 e2 hl' hk hv
      obtain ⟨f, rfl⟩ : ∃ g, f = g + 1 := ⟨f - 1, by omega⟩
      have gn : ¬ Int32.ofNat n ≤ Int32.ofNat i := nle (by omega) (by omega)
      have la := hl i (by omega)
      have xi := hk i (Nat.le_refl _)
      -- the limb above
      have ab : ∃ ax : Int64, (0 ≤ ax.toInt ∧ ax.toInt < 1073741824) ∧ ax.toInt % 2 ^ s = lo (i + 1) ∧ g_X1_shiftDown_2 w (f + 1) a (Int32.ofNat n) (Int32.ofNat s) (Int32.ofNat i) M = g_X1_shiftDown_26 w (g_X1_shiftDown_2 w f) a (Int32.ofNat n) (Int32.ofNat s) (Int32.ofNat i) ax M := by
        by_cases q : i + 1 < n
        · refine ⟨m.2 (a + 1) (i + 1), hl (i + 1) q, (if_pos q).symm, ?_⟩
          show g_X1_shiftDown_2_b w (g_X1_shiftDown_2 w f) _ _ _ _ M = _
          unfold g_X1_shiftDown_2_b
          rw [bC_g ha, if_neg gn, of_succ, if_neg (nle q (by omega)), gof (n := i + 1) (by omega) (by decide), g_t, tn_of (n := i + 1) (by omega), hk (i + 1) (by omega)]
        · refine ⟨0, ⟨by decide, by decide⟩, ?_, ?_⟩
          · have : lo (i + 1) = 0 := if_neg q
            rw [this]
            exact Int.zero_emod _
          · show g_X1_shiftDown_2_b w (g_X1_shiftDown_2 w f) _ _ _ _ M = _
            unfold g_X1_shiftDown_2_b
            rw [bC_g ha, if_neg gn, of_succ, if_pos ((of_le (by omega) (by omega)).mpr (by omega))]
      obtain ⟨ax, ar, am, ae⟩ := ab
      have p30 : (2 : Int) ^ 30 = 1073741824 := by decide
      have loi : lo i = (m.2 (a + 1) i).toInt % 2 ^ s := if_pos (by omega)
      generalize hA : m.2 (a + 1) i = xa at *
      have so := shlO (x := ax) (y := xa) (s := 30) (by decide) ar.1 la.1 (by rw [p30]; exact la.2) (by rw [p30]; omega)
      rw [p30] at so
      have so : ((ax <<< (Int32.toInt64 30 &&& 63)) ||| xa).toInt = ax.toInt * 1073741824 + xa.toInt := so
      generalize hS : (ax <<< (Int32.toInt64 30 &&& 63)) ||| xa = S at *
      have sr := sarS (x := S) (s := s) (by omega)
      generalize hT : S >>> (Int32.toInt64 (Int32.ofNat s) &&& 63) = T at *
      have sad := and30 (x := T)
      -- the new limb
      have nw : (T &&& 1073741823).toInt = lo (i + 1) * 2 ^ (30 - s) + xa.toInt / 2 ^ s := by
        have d1 := Int.emod_add_mul_ediv xa.toInt (2 ^ s)
        have d2 := Int.emod_add_mul_ediv ax.toInt (2 ^ s)
        have r1 := Int.emod_nonneg xa.toInt (show (2 : Int) ^ s ≠ 0 by omega)
        have r2 := Int.emod_lt_of_pos xa.toInt p0
        have qn : 0 ≤ xa.toInt / 2 ^ s := Int.ediv_nonneg la.1 (by omega)
        have ql : xa.toInt / 2 ^ s < 2 ^ (30 - s) := Int.ediv_lt_of_lt_mul p0 (by rw [Int.mul_comm, p2]; exact la.2)
        rw [am] at d2
        have lr := lo_r (i + 1)
        have e1 : S.toInt / 2 ^ s = ax.toInt * 2 ^ (30 - s) + xa.toInt / 2 ^ s := by
          have : S.toInt = xa.toInt + 2 ^ s * (ax.toInt * 2 ^ (30 - s)) := by
            rw [so, ← p2]
            generalize (2 : Int) ^ s = E at *
            generalize (2 : Int) ^ (30 - s) = E2 at *
            grind
          rw [this, Int.add_mul_ediv_left _ _ (by omega)]
          omega
        have e2 : ax.toInt * 2 ^ (30 - s) + xa.toInt / 2 ^ s = (lo (i + 1) * 2 ^ (30 - s) + xa.toInt / 2 ^ s) + 1073741824 * (ax.toInt / 2 ^ s) := by
          generalize ax.toInt / 2 ^ s = K at *
          rw [← d2, ← p2]
          generalize (2 : Int) ^ s = E at *
          generalize (2 : Int) ^ (30 - s) = E2 at *
          grind
        have l2 : lo (i + 1) * 2 ^ (30 - s) + xa.toInt / 2 ^ s < 1073741824 := by
          have : (lo (i + 1) + 1) * 2 ^ (30 - s) ≤ 2 ^ s * 2 ^ (30 - s) := Int.mul_le_mul_of_nonneg_right (by omega) (by omega)
          have e : (lo (i + 1) + 1) * 2 ^ (30 - s) = lo (i + 1) * 2 ^ (30 - s) + 2 ^ (30 - s) := by grind
          rw [e, p2] at this
          omega
        have l3 : 0 ≤ lo (i + 1) * 2 ^ (30 - s) := Int.mul_nonneg lr.1 (by omega)
        rw [sad, sr, e1, e2, Int.add_mul_emod_self_left, Int.emod_eq_of_lt (by omega) l2]
      obtain ⟨M', k1, k2⟩ := ih f (i + 1) (rf_l M (a + 1) i (T &&& 1073741823)) (by omega) (by omega) e1 (fun z hz => by rw [rf_l_c, if_neg hz]; exact e2 z hz) (by rw [rf_l_c, if_pos rfl]; exact lmb_pu hl' (by rw [sad]; omega) (by rw [sad]; omega)) (fun k h => by rw [rf_l_c, if_pos rfl, pu_ne (by omega)]; exact hk k (by omega)) (by
        have pj : pB (i + 1) = pB i * 1073741824 := rfl
        have d1 := Int.emod_add_mul_ediv xa.toInt (2 ^ s)
        rw [← loi] at d1
        rw [rf_l_c, if_pos rfl, lv_s, lv_s, pu_at, lv_c i (fun q hq => pu_ne (f := M.2 (a + 1)) (k := i) (x := (T &&& 1073741823)) (by omega)), nw, hA, pj, ← p2]
        generalize xa.toInt / 2 ^ s = K at *
        rw [← d1]
        generalize (2 : Int) ^ s = E at *
        generalize (2 : Int) ^ (30 - s) = E2 at *
        grind)
      refine ⟨M', ?_, k2⟩
      rw [ae]
      unfold g_X1_shiftDown_26
      rw [bC_g ha, gof (n := i) (by omega) (by decide), g_t, g_t, tn_of (n := i) (by omega), xi, hS, hT, of_succ, k1]
  obtain ⟨M', k1, k2⟩ := key n F 0 m (by omega) (by omega) rfl (fun _ _ => rfl) hl (fun _ _ => rfl) (by
    show 2 ^ s * 0 = 0 - lo 0 + lo 0 * 1
    omega)
  refine ⟨M', ?_, k2⟩
  unfold g_X1_shiftDown
  rw [bC_g ha, hF]
  exact k1
end PBBig5
