/-! sums, products, quotients of ints that don't run over -/
section PBA
theorem bm32 {x : Int} (h1 : -2147483648 ≤ x) (h2 : x < 2147483648) : x.bmod (2 ^ 32) = x := by
  rw [Int.bmod_def]
  split <;> omega
theorem addI {a b : Int32} (h1 : -2147483648 ≤ a.toInt + b.toInt) (h2 : a.toInt + b.toInt < 2147483648) : (a + b).toInt = a.toInt + b.toInt := by rw [Int32.toInt_add, bm32 h1 h2]
theorem subI {a b : Int32} (h1 : -2147483648 ≤ a.toInt - b.toInt) (h2 : a.toInt - b.toInt < 2147483648) : (a - b).toInt = a.toInt - b.toInt := by rw [Int32.toInt_sub, bm32 h1 h2]
theorem mulI {a b : Int32} (h1 : -2147483648 ≤ a.toInt * b.toInt) (h2 : a.toInt * b.toInt < 2147483648) : (a * b).toInt = a.toInt * b.toInt := by rw [Int32.toInt_mul, bm32 h1 h2]
theorem rngI (a : Int32) : -2147483648 ≤ a.toInt ∧ a.toInt < 2147483648 := by
  have h1 := Int32.le_toInt a
  have h2 := Int32.toInt_lt a
  omega
theorem tdiv_pos {a b : Int} (hb : 0 < b) : a.tdiv b * b ≤ max a 0 ∧ min a 0 ≤ a.tdiv b * b ∧ (0 ≤ a → a.tdiv b = a / b) ∧ (a < 0 → a.tdiv b = -((-a) / b)) := by
  have p1 : 0 ≤ a → a.tdiv b = a / b := fun h => Int.tdiv_eq_ediv_of_nonneg h
  have p2 : a < 0 → a.tdiv b = -((-a) / b) := by
    intro h
    rw [show a = -(-a) by omega, Int.neg_tdiv, Int.tdiv_eq_ediv_of_nonneg (by omega)]
    simp
  refine ⟨?_, ?_, p1, p2⟩
  · by_cases h : 0 ≤ a
    · rw [p1 h]; have := Int.ediv_mul_le a (b := b) (by omega); omega
    · rw [p2 (by omega)]
      have h3 : 0 ≤ (-a) / b := Int.ediv_nonneg (by omega) (by omega)
      have h4 : 0 ≤ (-a) / b * b := Int.mul_nonneg h3 (by omega)
      rw [Int.neg_mul]; omega
  · by_cases h : 0 ≤ a
    · rw [p1 h]
      have h3 : 0 ≤ a / b := Int.ediv_nonneg (by omega) (by omega)
      have h4 : 0 ≤ a / b * b := Int.mul_nonneg h3 (by omega)
      omega
    · rw [p2 (by omega)]
      have := Int.ediv_mul_le (-a) (b := b) (by omega)
      rw [Int.neg_mul]; omega
theorem divI {a b : Int32} (hb : 0 < b) : (a / b).toInt = a.toInt.tdiv b.toInt := by
  have hb2 : 0 < b.toInt := by rw [i_lt, i_0] at hb; exact hb
  have r := rngI a
  obtain ⟨q1, q2, q3, q4⟩ := tdiv_pos (a := a.toInt) hb2
  have h1 : -2147483648 ≤ a.toInt.tdiv b.toInt ∧ a.toInt.tdiv b.toInt < 2147483648 := by
    by_cases h : 0 ≤ a.toInt
    · rw [q3 h]
      have := Int.ediv_le_self b.toInt h
      have h3 : 0 ≤ a.toInt / b.toInt := Int.ediv_nonneg (by omega) (by omega)
      omega
    · rw [q4 (by omega)]
      have := Int.ediv_le_self b.toInt (show 0 ≤ -a.toInt by omega)
      have h3 : 0 ≤ (-a.toInt) / b.toInt := Int.ediv_nonneg (by omega) (by omega)
      omega
  rw [Int32.toInt_div, bm32 h1.1 h1.2]
theorem xor_nn {a b : Int32} : 0 ≤ a ^^^ b ↔ (0 ≤ a ↔ 0 ≤ b) := by
  have key : ∀ x : Int32, 0 ≤ x ↔ x.toBitVec.msb = false := by
    intro x
    rw [i_le, i_0]
    show 0 ≤ x.toBitVec.toInt ↔ _
    cases e : x.toBitVec.msb with
    | false => exact ⟨fun _ => rfl, fun _ => BitVec.toInt_nonneg_of_msb_false e⟩
    | true => exact ⟨fun h => by have := BitVec.toInt_neg_of_msb_true e; omega, fun h => by cases h⟩
  rw [key, key, key, Int32.toBitVec_xor, BitVec.msb_xor]
  cases a.toBitVec.msb <;> cases b.toBitVec.msb <;> simp
/-- rounded down -/
def dwn (a b : Int32) : Int32 := if 0 ≤ a - a / b * b then a / b else a / b - 1
theorem nz_of {b : Int32} (h : 0 < b) : rf_nz b = true := by
  unfold rf_nz
  have : ¬ b = 0 := by intro e; rw [e] at h; exact absurd h (by decide)
  simp [this]
theorem rem_I {a b : Int32} (hb : 0 < b) : (a / b * b).toInt = a.toInt.tdiv b.toInt * b.toInt ∧ (a - a / b * b).toInt = a.toInt - a.toInt.tdiv b.toInt * b.toInt := by
  have hb2 : 0 < b.toInt := by rw [i_lt, i_0] at hb; exact hb
  have r := rngI a
  obtain ⟨q1, q2, q3, q4⟩ := tdiv_pos (a := a.toInt) hb2
  have e1 : (a / b * b).toInt = a.toInt.tdiv b.toInt * b.toInt := by
    rw [mulI (by rw [divI hb]; omega) (by rw [divI hb]; omega), divI hb]
  refine ⟨e1, ?_⟩
  rw [subI (by rw [e1]; omega) (by rw [e1]; omega), e1]
theorem X14_down' {w : rf_w} {m : rf_m} {a b : Int32} (hb : 0 < b) : g_X14_down w m a b = some (dwn a b, m) := by
  unfold g_X14_down dwn
  rw [nz_of hb, g_t, g_t]
  split
  · have : a / b - 0 = a / b := by grind
    rw [this]
  · rfl
theorem J9_floorDiv {w : rf_w} {m : rf_m} {a b : Int32} (hb : 0 < b) : g_J9_floorDiv_7cf53 w m a b = some (dwn a b, m) := by
  unfold g_J9_floorDiv_7cf53 dwn
  rw [nz_of hb, g_t]
  have hb2 : 0 < b.toInt := by rw [i_lt, i_0] at hb; exact hb
  have hb3 : 0 ≤ b := by grind
  obtain ⟨e1, e2⟩ := rem_I (a := a) hb
  obtain ⟨q1, q2, q3, q4⟩ := tdiv_pos (a := a.toInt) hb2
  by_cases h : 0 ≤ a
  · have h' : 0 ≤ a.toInt := by rw [i_le, i_0] at h; exact h
    rw [if_pos (xor_nn.mpr (by simp [h, hb3])), if_pos]
    rw [i_le, i_0, e2]
    have := Int.ediv_mul_le a.toInt (b := b.toInt) (by omega)
    rw [q3 h']; omega
  · have h' : a.toInt < 0 := by rw [i_le, i_0] at h; omega
    rw [if_neg (fun hh => h ((xor_nn.mp hh).mpr hb3))]
    by_cases c : a / b * b = a
    · rw [if_pos c, if_pos]
      rw [i_le, i_0, e2, ← e1, c]; omega
    · rw [if_neg c, if_neg]
      rw [i_le, i_0, e2]
      have : (a / b * b).toInt ≠ a.toInt := fun hh => c (i_eq.mpr hh)
      rw [e1] at this
      omega
theorem dwn_I {a b : Int32} (hb : 0 < b) (ha : -2147483648 < a.toInt) : (dwn a b).toInt = a.toInt / b.toInt := by
  have hb2 : 0 < b.toInt := by rw [i_lt, i_0] at hb; exact hb
  obtain ⟨e1, e2⟩ := rem_I (a := a) hb
  obtain ⟨q1, q2, q3, q4⟩ := tdiv_pos (a := a.toInt) hb2
  have r := rngI a
  unfold dwn
  by_cases h : 0 ≤ a.toInt
  · rw [if_pos, divI hb, q3 h]
    rw [i_le, i_0, e2, q3 h]
    have := Int.ediv_mul_le a.toInt (b := b.toInt) (by omega)
    omega
  · have t1 := q4 (by omega)
    have t2 : 0 ≤ (-a.toInt) / b.toInt := Int.ediv_nonneg (by omega) (by omega)
    have t3 := Int.ediv_le_self b.toInt (show 0 ≤ -a.toInt by omega)
    have t4 := Int.ediv_mul_le (-a.toInt) (b := b.toInt) (by omega)
    have t5 := Int.lt_ediv_add_one_mul_self (-a.toInt) hb2
    have t6 : a.toInt.tdiv b.toInt * b.toInt = -((-a.toInt) / b.toInt * b.toInt) := by rw [t1, Int.neg_mul]
    split
    · rename_i hc
      rw [i_le, i_0, e2, t6] at hc
      rw [divI hb, t1]
      symm
      rw [Int.ediv_eq_iff_of_pos hb2]
      constructor
      · rw [Int.neg_mul]; omega
      · rw [Int.neg_mul]; omega
    · rename_i hc
      rw [i_le, i_0, e2, t6] at hc
      have d1 : (a / b - 1).toInt = -((-a.toInt) / b.toInt) - 1 := by
        rw [subI (by rw [divI hb, t1]; show _ ≤ _ - (1 : Int); omega) (by rw [divI hb, t1]; show _ - (1 : Int) < _; omega), divI hb, t1]; rfl
      rw [d1]
      symm
      rw [Int.ediv_eq_iff_of_pos hb2]
      rw [Int.add_mul, Int.one_mul] at t5
      constructor
      · rw [Int.sub_mul, Int.neg_mul, Int.one_mul]; omega
      · rw [Int.sub_mul, Int.neg_mul, Int.one_mul]; omega
end PBA
