/-! ints: order, places, small words -/
section PBI
theorem i_lt {a b : Int32} : a < b ↔ a.toInt < b.toInt := Int32.lt_iff_toInt_lt
theorem i_le {a b : Int32} : a ≤ b ↔ a.toInt ≤ b.toInt := Int32.le_iff_toInt_le
theorem i_eq {a b : Int32} : a = b ↔ a.toInt = b.toInt := Int32.toInt_inj.symm
theorem i_0 : (0 : Int32).toInt = 0 := rfl
theorem tn_toInt {x : Int32} (h : 0 ≤ x) : (x.toNatClampNeg : Int) = x.toInt := by
  rw [i_le, i_0] at h
  show ((x.toInt.toNat : Nat) : Int) = _
  omega
theorem ofI {n : Nat} (h : n < 2147483648) : (Int32.ofNat n).toInt = n := Int32.toInt_ofNat_of_lt (by omega)
theorem of_tn {x : Int32} (h : 0 ≤ x) : Int32.ofNat x.toNatClampNeg = x := by
  have h1 := tn_toInt h
  have h2 := Int32.toInt_lt x
  rw [i_eq, ofI (by omega)]
  exact h1
theorem tn_of {n : Nat} (h : n < 2147483648) : (Int32.ofNat n).toNatClampNeg = n := Int32.toNatClampNeg_ofNat_of_lt (by omega)
theorem of_le {a b : Nat} (ha : a < 2147483648) (hb : b < 2147483648) : Int32.ofNat a ≤ Int32.ofNat b ↔ a ≤ b := by
  rw [i_le, ofI ha, ofI hb]; omega
theorem of_lt {a b : Nat} (ha : a < 2147483648) (hb : b < 2147483648) : Int32.ofNat a < Int32.ofNat b ↔ a < b := by
  rw [i_lt, ofI ha, ofI hb]; omega
theorem of_inj {a b : Nat} (ha : a < 2147483648) (hb : b < 2147483648) : Int32.ofNat a = Int32.ofNat b ↔ a = b := by
  rw [i_eq, ofI ha, ofI hb]; omega
theorem of_nn {a : Nat} (ha : a < 2147483648) : (0 : Int32) ≤ Int32.ofNat a := (of_le (a := 0) (by omega) ha).mpr (by omega)
theorem of_succ {n : Nat} : Int32.ofNat n + 1 = Int32.ofNat (n + 1) := (Int32.ofNat_add n 1).symm
theorem tn_lt {x : Int32} {N : Nat} (h0 : 0 ≤ x) (h1 : x < Int32.ofNat N) (hN : N < 2147483648) : x.toNatClampNeg < N := by
  have h2 := tn_toInt h0
  rw [i_lt, ofI hN] at h1
  omega
theorem tn_le {x : Int32} {N : Nat} (h0 : 0 ≤ x) (h1 : x ≤ Int32.ofNat N) (hN : N < 2147483648) : x.toNatClampNeg ≤ N := by
  have h2 := tn_toInt h0
  rw [i_le, ofI hN] at h1
  omega
theorem tn_lt2 {x y : Int32} (h0 : 0 ≤ x) (h1 : x < y) : x.toNatClampNeg < y.toNatClampNeg := by
  have h2 := tn_toInt h0
  have h3 : (y.toNatClampNeg : Int) = (y.toInt.toNat : Nat) := rfl
  rw [i_lt] at h1
  omega
theorem lt_of_tn {x y : Int32} (h0 : 0 ≤ y) (h : x.toNatClampNeg < y.toNatClampNeg) : x < y := by
  have h2 := tn_toInt h0
  have h3 : (x.toNatClampNeg : Int) = (x.toInt.toNat : Nat) := rfl
  rw [i_lt]
  omega
theorem tn_inj {x y : Int32} (h0 : 0 ≤ x) (h1 : 0 ≤ y) (h : x.toNatClampNeg = y.toNatClampNeg) : x = y := by rw [← of_tn h0, ← of_tn h1, h]
theorem gin {x : Int32} {N : Nat} (h0 : 0 ≤ x) (h1 : x < Int32.ofNat N) (hN : N < 2147483648) : rf_in x N = true := by
  have h2 := tn_lt h0 h1 hN
  unfold rf_in
  rw [Bool.not_eq_true', Bool.or_eq_false_iff]
  refine ⟨decide_eq_false ?_, ?_⟩
  · rw [i_le, i_0] at h0; rw [i_lt, i_0]; omega
  · cases e : Nat.ble N x.toNatClampNeg with
    | false => rfl
    | true => have := Nat.le_of_ble_eq_true e; omega
theorem gof {n N : Nat} (h : n < N) (hN : N ≤ 2147483648) : rf_in (Int32.ofNat n) N = true := by
  unfold rf_in
  rw [Bool.not_eq_true', Bool.or_eq_false_iff]
  refine ⟨decide_eq_false ?_, ?_⟩
  · rw [i_lt, i_0, ofI (by omega)]; omega
  · rw [tn_of (by omega)]
    cases e : Nat.ble N n with
    | false => rfl
    | true => have := Nat.le_of_ble_eq_true e; omega
/-- a truth as an int -/
noncomputable def bi (P : Prop) : Int32 := @ite Int32 P (Classical.propDecidable P) 1 0
/-- below, and no less than 0 -/
def ib (a b : Int32) : Prop := 0 ≤ a ∧ a < b
theorem bi_t {P : Prop} (h : P) : bi P = 1 := if_pos h
theorem bi_f {P : Prop} (h : ¬ P) : bi P = 0 := if_neg h
theorem bi_eq0 {P : Prop} : bi P = 0 ↔ ¬ P := by
  by_cases h : P
  · rw [bi_t h]; exact ⟨fun e => absurd e (by decide), fun e => absurd h e⟩
  · rw [bi_f h]; exact ⟨fun _ => h, fun _ => rfl⟩
theorem bi_eq1 {P : Prop} : bi P = 1 ↔ P := by
  by_cases h : P
  · rw [bi_t h]; exact ⟨fun _ => h, fun _ => rfl⟩
  · rw [bi_f h]; exact ⟨fun e => absurd e (by decide), fun e => absurd e h⟩
theorem bi_01 {P : Prop} : rf_01 (bi P) = true := by
  by_cases h : P
  · rw [bi_t h]; rfl
  · rw [bi_f h]; rfl
theorem bi_congr {P Q : Prop} (h : P ↔ Q) : bi P = bi Q := by rw [propext h]
theorem isIn {m : rf_m} {a b : Int32} : (if a < 0 then some ((0 : Int32), m) else (if b ≤ a then some (0, m) else some (1, m))) = some (bi (ib a b), m) := by
  by_cases h : ib a b
  · rw [bi_t h]; unfold ib at h; rw [if_neg (by grind), if_neg (by grind)]
  · rw [bi_f h]; unfold ib at h; split
    · rfl
    · rw [if_pos (by grind)]
theorem isInv {m : rf_m} {a b c : Int32} : (if a < b then some ((0 : Int32), m) else (if c < a then some (0, m) else some (1, m))) = some (bi (iv b c a), m) := by
  by_cases h : iv b c a
  · rw [bi_t h]; unfold iv at h; rw [if_neg (by grind), if_neg (by grind)]
  · rw [bi_f h]; unfold iv at h; split
    · rfl
    · rw [if_pos (by grind)]
theorem X11_isWithin {w : rf_w} {m : rf_m} {a b c : Int32} : g_X11_isWithin w m a b c = some (bi (iv b c a), m) := isInv
theorem X14_in {w : rf_w} {m : rf_m} {a b c : Int32} : g_X14_in w m a b c = some (bi (iv b c a), m) := isInv
theorem ib_iv {a : Int32} : iv 0 1023 a ↔ ib a 1024 := by unfold iv ib; grind
theorem ib_iv2 {a : Int32} : iv 0 9999 a ↔ ib a 10000 := by unfold iv ib; grind
theorem ib_iv3 {a : Int32} : iv 0 23 a ↔ ib a 24 := by unfold iv ib; grind
theorem X11_isCell {w : rf_w} {m : rf_m} {a : Int32} : g_X11_isCell w m a = some (bi (ib a 1024), m) := by
  unfold g_X11_isCell; rw [X11_isWithin]; show rf_g _ _ = _; rw [bi_01]; show some (_, _) = _; rw [bi_congr ib_iv]
theorem X11_isDay {w : rf_w} {m : rf_m} {a : Int32} : g_X11_isDay w m a = some (bi (ib a 10000), m) := by
  unfold g_X11_isDay; rw [X11_isWithin]; show rf_g _ _ = _; rw [bi_01]; show some (_, _) = _; rw [bi_congr ib_iv2]
theorem X11_isHour {w : rf_w} {m : rf_m} {a : Int32} : g_X11_isHour w m a = some (bi (ib a 24), m) := by
  unfold g_X11_isHour; rw [X11_isWithin]; show rf_g _ _ = _; rw [bi_01]; show some (_, _) = _; rw [bi_congr ib_iv3]
theorem X3_isParty {w : rf_w} {m : rf_m} {a1 : Int32} : g_X3_isParty w m a1 = some (bi (ib a1 (m.1 26 5)), m) := isIn
theorem X3_isAngle {w : rf_w} {m : rf_m} {a1 : Int32} : g_X3_isAngle w m a1 = some (bi (ib a1 (m.1 26 6)), m) := isIn
theorem X3_isReading {w : rf_w} {m : rf_m} {a1 : Int32} : g_X3_isReading w m a1 = some (bi (ib a1 (m.1 26 7)), m) := isIn
theorem X5_isMark {w : rf_w} {m : rf_m} {a1 : Int32} : g_X5_isMark w m a1 = some (bi (ib a1 (m.1 1 4)), m) := isIn
theorem X6_isBase {w : rf_w} {m : rf_m} {a1 : Int32} : g_X6_isBase w m a1 = some (bi (ib a1 (m.1 41 1)), m) := isIn
theorem X7_isTriangle {w : rf_w} {m : rf_m} {a1 : Int32} : g_X7_isTriangle w m a1 = some (bi (ib a1 (m.1 50 0)), m) := isIn
theorem X14_isCell {w : rf_w} {m : rf_m} {a0 : Int32} : g_X14_isCell w m a0 = some (bi (ib a0 1024), m) := isIn
theorem X14_isMark {w : rf_w} {m : rf_m} {a1 : Int32} : g_X14_isMark w m a1 = some (bi (ib a1 (m.1 206 4)), m) := isIn
theorem X14_isDay {w : rf_w} {m : rf_m} {a0 : Int32} : g_X14_isDay w m a0 = some (bi (ib a0 10000), m) := isIn
theorem X14_isHour {w : rf_w} {m : rf_m} {a0 : Int32} : g_X14_isHour w m a0 = some (bi (ib a0 24), m) := isIn
theorem X14_isParty {w : rf_w} {m : rf_m} {a1 : Int32} : g_X14_isParty w m a1 = some (bi (ib a1 (m.1 206 15)), m) := isIn
theorem X14_isAngle {w : rf_w} {m : rf_m} {a1 : Int32} : g_X14_isAngle w m a1 = some (bi (ib a1 (m.1 206 16)), m) := isIn
theorem X14_isReading {w : rf_w} {m : rf_m} {a1 : Int32} : g_X14_isReading w m a1 = some (bi (ib a1 (m.1 206 17)), m) := isIn
theorem X14_isBase {w : rf_w} {m : rf_m} {a1 : Int32} : g_X14_isBase w m a1 = some (bi (ib a1 (m.1 206 55)), m) := isIn
theorem X14_isTriangle {w : rf_w} {m : rf_m} {a1 : Int32} : g_X14_isTriangle w m a1 = some (bi (ib a1 (m.1 206 64)), m) := isIn
theorem bi_T : bi True = 1 := bi_t trivial
theorem bi_F : bi False = 0 := bi_f id
theorem X5_isPair {w : rf_w} {m : rf_m} {a b : Int32} : g_X5_isPair w m a b = some (bi (ib a (m.1 1 4) ∧ ib b (m.1 1 4) ∧ a ≠ b), m) := by
  refine wp_eq.mp ?_
  unfold g_X5_isPair
  by_cases h1 : ib a (m.1 1 4) <;> by_cases h2 : ib b (m.1 1 4) <;> by_cases h3 : a = b <;> simp [wp_b, wp_ite, wp_some, X5_isMark, bi_eq0, h1, h2, h3, bi_T, bi_F]
theorem X11_isTime {w : rf_w} {m : rf_m} {a b : Int32} : g_X11_isTime w m a b = some (bi (ib a 10000 ∧ ib b 10000 ∧ ¬ b < a), m) := by
  refine wp_eq.mp ?_
  unfold g_X11_isTime
  by_cases h1 : ib a 10000 <;> by_cases h2 : ib b 10000 <;> by_cases h3 : b < a <;> simp only [wp_b, wp_ite, wp_some, X11_isDay, bi_eq0, h1, h2, h3, bi_T, bi_F, not_true, not_false_eq_true, false_implies, true_implies, and_true, true_and, and_false, false_and, implies_true] <;> (try simp)
end PBI
