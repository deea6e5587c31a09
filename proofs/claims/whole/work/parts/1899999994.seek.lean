/-! chains: the class seeks -/
section PBSeek
theorem shrink_c {w : rf_w} {X : rf_m} {n : Nat} (hn : X.1 175 8 = Int32.ofNat n) (h8 : n ≤ 8) (rng : ∀ j, j < 3 * n → 1 ≤ (X.1 179 j).toInt ∧ (X.1 179 j).toInt ≤ (X.1 180 j).toInt ∧ (X.1 180 j).toInt ≤ 1000000) : ∃ X', g_X4_measureShrink w X = some X' ∧ X'.1 = X.1 ∧ (∀ z, z ≠ 175 → X'.2 z = X.2 z) ∧ (∀ k, k ≠ 12 → X'.2 175 k = X.2 175 k) ∧ 0 ≤ (X'.2 175 12).toInt ∧ (X'.2 175 12).toInt ≤ 1000000 ∧ ∀ a, a < n → ∀ o i, o < 3 → i < 3 → (X'.2 175 12).toInt * (X.1 180 (3 * a + o)).toInt ≤ 1000000 * (X.1 179 (3 * a + i)).toInt := by
  obtain ⟨F, hF, hFb⟩ := fuel_ex
  have gm : ∀ (Y : rf_m) (u v : Int32), g_min w Y u v = some (if v < u then v else u, Y) := fun Y u v => by unfold g_min; split <;> rfl
  have gx : ∀ (Y : rf_m) (u v : Int32), g_max w Y u v = some (if u < v then v else u, Y) := fun Y u v => by unfold g_max; split <;> rfl
  have gl : ∀ (Y : rf_m) (u v : Int64), ∃ r : Int64, g_minL w Y u v = some (r, Y) ∧ r.toInt = min u.toInt v.toInt := fun Y u v => by
    unfold g_minL
    by_cases c : (0 : Int32) < lg_cmp u v
    · have := cmp_pos.mp c
      exact ⟨v, by rw [if_pos c], by omega⟩
    · have : ¬ v.toInt < u.toInt := fun z => c (cmp_pos.mpr z)
      exact ⟨u, by rw [if_neg c], by omega⟩
  have e3 : ∀ k, Int32.ofNat k * 3 = Int32.ofNat (3 * k) := fun k => by rw [Nat.mul_comm, Int32.ofNat_mul]; rfl
  have k6 : (1000000 : Int64).toInt = 1000000 := by decide
  have key : ∀ k f a (Y : rf_m), a + k = n → k < f → Y.1 = X.1 → (∀ z, z ≠ 175 → Y.2 z = X.2 z) → (∀ k, k ≠ 12 → Y.2 175 k = X.2 175 k) → 0 ≤ (Y.2 175 12).toInt → (Y.2 175 12).toInt ≤ 1000000 → (∀ b, b < a → ∀ o i, o < 3 → i < 3 → (Y.2 175 12).toInt * (X.1 180 (3 * b + o)).toInt ≤ 1000000 * (X.1 179 (3 * b + i)).toInt) → ∃ X', g_X4_measureShrink_9 w f (Int32.ofNat (3 * a)) Y = some X' ∧ X'.1 = X.1 ∧ (∀ z, z ≠ 175 → X'.2 z = X.2 z) ∧ (∀ k, k ≠ 12 → X'.2 175 k = X.2 175 k) ∧ 0 ≤ (X'.2 175 12).toInt ∧ (X'.2 175 12).toInt ≤ 1000000 ∧ ∀ a, a < n → ∀ o i, o < 3 → i < 3 → (X'.2 175 12).toInt * (X.1 180 (3 * a + o)).toInt ≤ 1000000 * (X.1 179 (3 * a + i)).toInt := by
    intro k
    induction k with
    | zero =>
      intro f a Y ha hf y1 y2 y3 y4 y5 y6
      obtain ⟨f, rfl⟩ : ∃ g, f = g + 1 := ⟨f - 1, by omega⟩
      have e : a = n := by omega
      subst e
      refine ⟨Y, ?_, y1, y2, y3, y4, y5, y6⟩
      show g_X4_measureShrink_9_b w _ _ Y = _
      unfold g_X4_measureShrink_9_b
      rw [y1, hn, e3, if_pos (Int32.le_refl _)]
    | succ k ih =>
      intro f a Y ha hf y1 y2 y3 y4 y5 y6
      obtain ⟨f, rfl⟩ : ∃ g, f = g + 1 := ⟨f - 1, by omega⟩
      have g1 : ¬ Int32.ofNat (3 * n) ≤ Int32.ofNat (3 * a) := nle (by omega) (by omega)
      have f1 : Int32.ofNat (3 * a) + 1 = Int32.ofNat (3 * a + 1) := of_succ
      have f2 : Int32.ofNat (3 * a) + 2 = Int32.ofNat (3 * a + 2) := by rw [Int32.ofNat_add]; rfl
      have f3 : Int32.ofNat (3 * a) + 3 = Int32.ofNat (3 * (a + 1)) := by rw [show 3 * (a + 1) = 3 * a + 3 by omega, Int32.ofNat_add]; rfl
      obtain ⟨r01, r02, r03⟩ := rng (3 * a) (by omega)
      obtain ⟨r11, r12, r13⟩ := rng (3 * a + 1) (by omega)
      obtain ⟨r21, r22, r23⟩ := rng (3 * a + 2) (by omega)
      show ∃ X', g_X4_measureShrink_9_b w _ _ Y = _ ∧ _
      unfold g_X4_measureShrink_9_b g_X4_measureShrink_106
      rw [y1, hn, e3, if_neg g1, f1, f2, f3, gof (n := 3 * a) (by omega) (by decide), gof (n := 3 * a + 1) (by omega) (by decide), gof (n := 3 * a + 2) (by omega) (by decide), tn_of (by omega), tn_of (by omega), tn_of (by omega)]
      simp only [g_t]
      rw [gm, b_sm, gm, b_sm, y1, gx, b_sm, gx, b_sm]
      generalize hlo : (if (if X.1 179 (3 * a + 2) < X.1 179 (3 * a + 1) then X.1 179 (3 * a + 2) else X.1 179 (3 * a + 1)) < X.1 179 (3 * a) then (if X.1 179 (3 * a + 2) < X.1 179 (3 * a + 1) then X.1 179 (3 * a + 2) else X.1 179 (3 * a + 1)) else X.1 179 (3 * a)) = lo
      generalize hhi : (if X.1 180 (3 * a) < (if X.1 180 (3 * a + 1) < X.1 180 (3 * a + 2) then X.1 180 (3 * a + 2) else X.1 180 (3 * a + 1)) then (if X.1 180 (3 * a + 1) < X.1 180 (3 * a + 2) then X.1 180 (3 * a + 2) else X.1 180 (3 * a + 1)) else X.1 180 (3 * a)) = hi
      have elo : lo.toInt = min (X.1 179 (3 * a)).toInt (min (X.1 179 (3 * a + 1)).toInt (X.1 179 (3 * a + 2)).toInt) := by rw [← hlo, mnI, mnI]
      have ehi : hi.toInt = max (X.1 180 (3 * a)).toInt (max (X.1 180 (3 * a + 1)).toInt (X.1 180 (3 * a + 2)).toInt) := by rw [← hhi, mxI, mxI]
      have lo1 : 1 ≤ lo.toInt := by omega
      have lo2 : lo.toInt ≤ 1000000 := by omega
      have hi1 : 1 ≤ hi.toInt := by omega
      have np : ¬ lg_cmp (Int32.toInt64 hi) 0 ≤ 0 := fun z => Int32.not_lt.mpr z (cmp_pos.mpr (by rw [i2l, l_0]; omega))
      have lc : ∀ i, i < 3 → lo.toInt ≤ (X.1 179 (3 * a + i)).toInt := fun i hi => by
        have : i = 0 ∨ i = 1 ∨ i = 2 := by omega
        rcases this with rfl | rfl | rfl
        · show lo.toInt ≤ (X.1 179 (3 * a)).toInt; omega
        · omega
        · omega
      have hc : ∀ i, i < 3 → (X.1 180 (3 * a + i)).toInt ≤ hi.toInt ∧ 1 ≤ (X.1 180 (3 * a + i)).toInt := fun i hi => by
        have : i = 0 ∨ i = 1 ∨ i = 2 := by omega
        rcases this with rfl | rfl | rfl
        · show (X.1 180 (3 * a)).toInt ≤ _ ∧ 1 ≤ (X.1 180 (3 * a)).toInt; omega
        · omega
        · omega
      clear hlo hhi elo ehi
      have cv := carLo (a := Int32.toInt64 lo) (b := 1000000) (c := Int32.toInt64 hi) (by rw [i2l]; omega) (by rw [i2l]; omega) (by rw [k6]; omega) (by rw [k6]; omega) (by rw [i2l]; omega)
      rw [i2l, i2l, k6] at cv
      obtain ⟨r, hr1, hr2⟩ := gl Y (Y.2 175 12) (Int32.toInt64 lo * 1000000 / Int32.toInt64 hi)
      rw [if_neg np, nzl_of (by rw [i2l]; omega), g_t, hr1, b_sm]
      have q0 : 0 ≤ lo.toInt * 1000000 / hi.toInt := Int.ediv_nonneg (by omega) (by omega)
      have q1 : lo.toInt * 1000000 / hi.toInt * hi.toInt ≤ lo.toInt * 1000000 := Int.ediv_mul_le _ (by omega)
      rw [cv] at hr2
      generalize lo.toInt * 1000000 / hi.toInt = q at *
      generalize hZ : rf_l Y 175 12 r = Z
      have z1 : Z.1 = Y.1 := by rw [← hZ]; rfl
      have z2 : ∀ z, Z.2 z = if z = 175 then pu (Y.2 175) 12 r else Y.2 z := fun z => by rw [← hZ, rf_l_c]
      have z12 : Z.2 175 12 = r := by rw [z2, if_pos rfl, pu_at]
      refine ih f (a + 1) Z (by omega) (by omega) (z1.trans y1) (fun z hz => by rw [z2, if_neg hz]; exact y2 z hz) (fun k hk => by rw [z2, if_pos rfl, pu_ne hk]; exact y3 k hk) (by rw [z12]; omega) (by rw [z12]; omega) (fun b hb o i o3 i3 => ?_)
      rw [z12]
      by_cases e : b = a
      · subst e
        obtain ⟨h1, h2⟩ := hc o o3
        have h3 := lc i i3
        generalize (X.1 180 (3 * b + o)).toInt = M at *
        generalize (X.1 179 (3 * b + i)).toInt = S at *
        have t1 : r.toInt * M ≤ q * M := Int.mul_le_mul_of_nonneg_right (by omega) (by omega)
        have t2 : q * M ≤ q * hi.toInt := Int.mul_le_mul_of_nonneg_left h1 q0
        omega
      · have h4 := y6 b (by omega) o i o3 i3
        have r5 := (rng (3 * b + o) (by omega))
        have t1 : r.toInt * (X.1 180 (3 * b + o)).toInt ≤ (Y.2 175 12).toInt * (X.1 180 (3 * b + o)).toInt := Int.mul_le_mul_of_nonneg_right (by omega) (by omega)
        exact Int.le_trans t1 h4
  unfold g_X4_measureShrink
  rw [hF]
  generalize hY : rf_l X 175 12 1000000 = Y
  have z1 : Y.1 = X.1 := by rw [← hY]; rfl
  have z2 : ∀ z, Y.2 z = if z = 175 then pu (X.2 175) 12 1000000 else X.2 z := fun z => by rw [← hY, rf_l_c]
  have z12 : Y.2 175 12 = 1000000 := by rw [z2, if_pos rfl, pu_at]
  exact key n F 0 Y (by omega) (by omega) z1 (fun z hz => by rw [z2, if_neg hz]) (fun k hk => by rw [z2, if_pos rfl, pu_ne hk]) (by rw [z12, k6]; omega) (by rw [z12, k6]; omega) (fun b hb => by omega)
theorem JB_e {m X : rf_m} (h : JBase m) (e : ∀ z, (41 ≤ z ∧ z ≤ 47) ∨ (236 ≤ z ∧ z ≤ 242) → X.1 z = m.1 z) (e6 : ∀ k, k = 4 ∨ k = 55 ∨ k = 56 → X.1 206 k = m.1 206 k) : JBase X := by
  unfold JBase
  rw [e 41 (by omega), e 42 (by omega), e 43 (by omega), e 44 (by omega), e 45 (by omega), e 46 (by omega), e 47 (by omega), e 236 (by omega), e 237 (by omega), e 238 (by omega), e 239 (by omega), e 240 (by omega), e 241 (by omega), e 242 (by omega), e6 4 (by omega), e6 55 (by omega), e6 56 (by omega)]
  exact h
theorem JM_e {m X : rf_m} (h : JMark m) (e : ∀ z, z = 1 ∨ z = 4 ∨ z = 5 ∨ z = 209 ∨ z = 214 → X.1 z = m.1 z) (e6 : X.1 206 4 = m.1 206 4) : JMark X := by
  unfold JMark
  rw [e 1 (by omega), e 4 (by omega), e 5 (by omega), e 209 (by omega), e 214 (by omega), e6]
  exact h
end PBSeek
