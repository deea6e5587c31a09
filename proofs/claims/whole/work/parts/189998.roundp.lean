/-! round: what is written -/
section PBRoundP
theorem cpy_s {f g : Nat → Int32} {d n : Nat} : va_cpy f g 0 d (n + 1) = pu (va_cpy f g 0 d n) (d + n) (f n) := by
  funext k
  unfold va_cpy pu
  by_cases e : k = d + n
  · have h1 : d ≤ k ∧ k < d + (n + 1) := by omega
    rw [if_pos e, if_pos h1, show 0 + (k - d) = n by omega]
  · rw [if_neg e]
    by_cases h : d ≤ k ∧ k < d + n
    · have h1 : d ≤ k ∧ k < d + (n + 1) := by omega
      simp only [if_pos h, if_pos h1]
    · have h1 : ¬ (d ≤ k ∧ k < d + (n + 1)) := by omega
      simp only [if_neg h, if_neg h1]
theorem cpy_0 {f g : Nat → Int32} {d : Nat} : va_cpy f g 0 d 0 = g := by
  funext k
  unfold va_cpy
  have h1 : ¬ (d ≤ k ∧ k < d + 0) := by omega
  rw [if_neg h1]
theorem put_r {w : rf_w} {M : rf_m} {n R : Nat} (hn : n ≤ 6) (hR : M.1 206 65 = Int32.ofNat R) (h12 : R < 12) : ∃ M', g_X14_round_283 w rf_fuel (Int32.ofNat n) 0 M = some (Int32.ofNat R, M') ∧ (∀ z, z ≠ 206 → z ≠ 245 → z ≠ 246 → M'.1 z = M.1 z) ∧ M'.1 245 = va_cpy (M.1 247) (M.1 245) 0 (6 * R) n ∧ M'.1 246 = pu (M.1 246) R (Int32.ofNat n) ∧ M'.1 206 = pu (pu (pu (M.1 206) 65 (Int32.ofNat (R + 1))) 1 0) 2 (-1) := by
  have key : ∀ k F i (M1 : rf_m), i + k = n → k < F → (∀ z, z ≠ 245 → M1.1 z = M.1 z) → M1.1 245 = va_cpy (M.1 247) (M.1 245) 0 (6 * R) i → ∃ M', g_X14_round_283 w F (Int32.ofNat n) (Int32.ofNat i) M1 = some (Int32.ofNat R, M') ∧ (∀ z, z ≠ 206 → z ≠ 245 → z ≠ 246 → M'.1 z = M.1 z) ∧ M'.1 245 = va_cpy (M.1 247) (M.1 245) 0 (6 * R) n ∧ M'.1 246 = pu (M.1 246) R (Int32.ofNat n) ∧ M'.1 206 = pu (pu (pu (M.1 206) 65 (Int32.ofNat (R + 1))) 1 0) 2 (-1) := by
    intro k
    induction k with
    | zero =>
      intro F i M1 hi hF h1 h2
      obtain ⟨F, rfl⟩ : ∃ g, F = g + 1 := ⟨F - 1, by omega⟩
      show ∃ M', g_X14_round_283_b w _ _ _ M1 = _ ∧ _
      unfold g_X14_round_283_b g_X14_done
      have e : i = n := by omega
      subst e
      have e65 : M1.1 206 65 = Int32.ofNat R := by rw [h1 206 (by decide)]; exact hR
      have e65' : (rf_i M1 246 R (Int32.ofNat i)).1 206 65 = Int32.ofNat R := e65
      rw [if_pos (Int32.le_refl _), e65, gof (by omega) (by decide), g_t, tn_of (by omega), e65', of_succ]
      have e66 : (rf_i (rf_i M1 246 R (Int32.ofNat i)) 206 65 (Int32.ofNat (R + 1))).1 206 65 = Int32.ofNat (R + 1) := rfl
      rw [e66, ofm1']
      simp only [rf_b]
      refine ⟨_, rfl, fun z a1 a2 a3 => ?_, ?_, ?_, ?_⟩
      · rw [rf_i_c, if_neg a1, rf_i_c, if_neg a1, rf_i_c, if_neg a1, rf_i_c, if_neg a3]; exact h1 z a2
      · rw [rf_i_c, if_neg (by decide), rf_i_c, if_neg (by decide), rf_i_c, if_neg (by decide), rf_i_c, if_neg (by decide)]; exact h2
      · rw [rf_i_c, if_neg (by decide), rf_i_c, if_neg (by decide), rf_i_c, if_neg (by decide), rf_i_c, if_pos rfl, h1 246 (by decide)]
      · rw [rf_i_c, if_pos rfl, rf_i_c, if_pos rfl, rf_i_c, if_pos rfl, rf_i_c, if_neg (by decide), h1 206 (by decide)]
    | succ k ih =>
      intro F i M1 hi hF h1 h2
      obtain ⟨F, rfl⟩ : ∃ g, F = g + 1 := ⟨F - 1, by omega⟩
      show ∃ M', g_X14_round_283_b w (g_X14_round_283 w F) _ _ M1 = _ ∧ _
      unfold g_X14_round_283_b
      have l1 : ¬ Int32.ofNat n ≤ Int32.ofNat i := nle (by omega) (by omega)
      have e65 : M1.1 206 65 = Int32.ofNat R := by rw [h1 206 (by decide)]; exact hR
      have e : (6 : Int32) * Int32.ofNat R + Int32.ofNat i = Int32.ofNat (6 * R + i) := by rw [Int32.ofNat_add, Int32.ofNat_mul]; rfl
      rw [if_neg l1, e65, e, gof (by omega) (by decide), g_t, gof (by omega) (by decide), g_t, tn_of (by omega), tn_of (by omega), of_succ]
      refine ih F (i + 1) _ (by omega) (by omega) (fun z hz => ?_) ?_
      · rw [rf_i_c, if_neg hz]; exact h1 z hz
      · rw [rf_i_c, if_pos rfl, h2, h1 247 (by decide), cpy_s]
  exact key n rf_fuel 0 M (by omega) (by unfold rf_fuel; omega) (fun _ _ => rfl) cpy_0.symm
theorem put_c {w : rf_w} {m : rf_m} {n R : Nat} (hn : n ≤ 6) (hR : m.1 50 1 = Int32.ofNat R) (h12 : R < 12) : ∃ m', g_X7_addRound__205 w m (Int32.ofNat n) = some (Int32.ofNat R, m') ∧ (∀ z, z ≠ 50 → z ≠ 53 → z ≠ 54 → m'.1 z = m.1 z) ∧ m'.1 53 = va_cpy (m.1 205) (m.1 53) 0 (6 * R) n ∧ m'.1 54 = pu (m.1 54) R (Int32.ofNat n) ∧ m'.1 50 = pu (m.1 50) 1 (Int32.ofNat (R + 1)) := by
  have e : Int32.ofNat R * 6 = Int32.ofNat (6 * R) := by rw [Nat.mul_comm, Int32.ofNat_mul]; rfl
  have z0 : (0 : Int32).toNatClampNeg = 0 := rfl
  have hg : rf_cg 0 (Int32.ofNat (6 * R)) (Int32.ofNat n) 6 72 = true := by
    unfold rf_cg
    have a1 : ¬ (0 : Int32) < 0 := by decide
    have a2 : ¬ Int32.ofNat (6 * R) < 0 := by have := of_nn (a := 6 * R) (by omega); grind
    have a3 : ¬ Int32.ofNat n < 0 := by have := of_nn (a := n) (by omega); grind
    rw [decide_eq_false a1, decide_eq_false a2, decide_eq_false a3, z0, tn_of (by omega), tn_of (by omega), Nat.ble_eq_true_of_le (by omega), Nat.ble_eq_true_of_le (by omega)]
    rfl
  have hcc : ∀ z, z ≠ 53 → (rf_ci m 205 53 0 (Int32.ofNat (6 * R)) (Int32.ofNat n)).1 z = m.1 z := fun z hz => by unfold rf_ci; funext b; simp only [if_neg hz]
  have hc3 : (rf_ci m 205 53 0 (Int32.ofNat (6 * R)) (Int32.ofNat n)).1 53 = va_cpy (m.1 205) (m.1 53) 0 (6 * R) n := by
    funext b
    unfold rf_ci
    simp only [if_pos, z0, tn_of (show 6 * R < 2147483648 by omega), tn_of (show n < 2147483648 by omega)]
  unfold g_X7_addRound__205
  rw [hR, e, hg]
  generalize rf_ci m 205 53 0 (Int32.ofNat (6 * R)) (Int32.ofNat n) = X at *
  have e50 : X.1 50 1 = Int32.ofNat R := by rw [hcc 50 (by decide)]; exact hR
  have e50' : (rf_i X 54 R (Int32.ofNat n)).1 50 1 = Int32.ofNat R := e50
  rw [e50, gof (by omega) (by decide)]
  simp only [g_t]
  rw [tn_of (by omega), e50', of_succ]
  have e66 : (rf_i (rf_i X 54 R (Int32.ofNat n)) 50 1 (Int32.ofNat (R + 1))).1 50 1 = Int32.ofNat (R + 1) := rfl
  rw [e66, ofm1']
  refine ⟨_, rfl, fun z a1 a2 a3 => ?_, ?_, ?_, ?_⟩
  · rw [rf_i_c, if_neg a1, rf_i_c, if_neg a3]; exact hcc z a2
  · rw [rf_i_c, if_neg (by decide), rf_i_c, if_neg (by decide)]; exact hc3
  · rw [rf_i_c, if_neg (by decide), rf_i_c, if_pos rfl, hcc 54 (by decide)]
  · rw [rf_i_c, if_pos rfl, rf_i_c, if_neg (by decide), hcc 50 (by decide)]
end PBRoundP
