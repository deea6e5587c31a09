/-! round: the row, and whether it goes round -/
section PBRound
/-- how many come ahead of the first -1 -/
def rowN (f : Nat → Int32) : Nat → Nat → Nat
  | 0, i => i
  | n + 1, i => if f i = -1 then i else rowN f n (i + 1)
theorem rowN_le {f : Nat → Int32} : ∀ n i, i ≤ rowN f n i ∧ rowN f n i ≤ i + n := by
  intro n
  induction n with
  | zero => intro i; exact ⟨Nat.le_refl _, Nat.le_refl _⟩
  | succ n ih =>
    intro i
    show i ≤ (if f i = -1 then i else rowN f n (i + 1)) ∧ (if f i = -1 then i else rowN f n (i + 1)) ≤ i + (n + 1)
    by_cases h : f i = -1
    · rw [if_pos h]; omega
    · rw [if_neg h]; have := ih (i + 1); omega
theorem fill_c {w : rf_w} {m : rf_m} : g_X11_fillRow_48 w rf_fuel 0 m = some (Int32.ofNat (rowN (m.1 205) 6 0), m) := by
  have key : ∀ n F i, i + n = 6 → n < F → g_X11_fillRow_48 w F (Int32.ofNat i) m = some (Int32.ofNat (rowN (m.1 205) n i), m) := by
    intro n
    induction n with
    | zero =>
      intro F i hi hF
      obtain ⟨F, rfl⟩ : ∃ g, F = g + 1 := ⟨F - 1, by omega⟩
      show g_X11_fillRow_48_b w _ _ m = _
      unfold g_X11_fillRow_48_b
      rw [show i = 6 by omega, if_pos (by decide)]
      rfl
    | succ n ih =>
      intro F i hi hF
      obtain ⟨F, rfl⟩ : ∃ g, F = g + 1 := ⟨F - 1, by omega⟩
      show g_X11_fillRow_48_b w (g_X11_fillRow_48 w F) _ m = _
      unfold g_X11_fillRow_48_b
      have h1 : ¬ (6 : Int32) ≤ Int32.ofNat i := nle (R := 6) (by omega) (by decide)
      rw [if_neg h1, gof (by omega) (by decide), g_t, tn_of (by omega)]
      show _ = some (Int32.ofNat (if m.1 205 i = -1 then i else rowN (m.1 205) n (i + 1)), m)
      by_cases z : m.1 205 i = -1
      · rw [if_pos z, if_pos z]
      · rw [if_neg z, if_neg z, of_succ]
        exact ih F (i + 1) (by omega) (by omega)
  exact key 6 rf_fuel 0 (by omega) (by unfold rf_fuel; omega)
/-- the reference's row: the first that is no angle refuses -/
theorem row_r {w : rf_w} {M : rf_m} : g_X14_round_53 w rf_fuel 0 M = @ite _ (∀ i, i < rowN (M.1 247) 6 0 → ib (M.1 247 i) (M.1 206 16)) (Classical.propDecidable _) (g_X14_round_97 w (Int32.ofNat (rowN (M.1 247) 6 0)) M) (g_X14_refused w M 1) := by
  have o1 : ¬ (1 : Int32) = 0 := by decide
  have key : ∀ n F i, i + n = 6 → n < F → (∀ j, j < i → ib (M.1 247 j) (M.1 206 16)) → g_X14_round_53 w F (Int32.ofNat i) M = @ite _ (∀ j, j < rowN (M.1 247) n i → ib (M.1 247 j) (M.1 206 16)) (Classical.propDecidable _) (g_X14_round_97 w (Int32.ofNat (rowN (M.1 247) n i)) M) (g_X14_refused w M 1) := by
    intro n
    induction n with
    | zero =>
      intro F i hi hF hj
      obtain ⟨F, rfl⟩ : ∃ g, F = g + 1 := ⟨F - 1, by omega⟩
      show g_X14_round_53_b w _ _ M = _
      unfold g_X14_round_53_b
      have e : i = 6 := by omega
      subst e
      rw [if_pos (by decide)]
      rw [if_pos (show ∀ j, j < rowN (M.1 247) 0 6 → ib (M.1 247 j) (M.1 206 16) from hj)]
      rfl
    | succ n ih =>
      intro F i hi hF hj
      obtain ⟨F, rfl⟩ : ∃ g, F = g + 1 := ⟨F - 1, by omega⟩
      show g_X14_round_53_b w (g_X14_round_53 w F) _ M = _
      unfold g_X14_round_53_b
      have h1 : ¬ (6 : Int32) ≤ Int32.ofNat i := nle (R := 6) (by omega) (by decide)
      rw [if_neg h1, gof (by omega) (by decide), g_t, g_t, tn_of (by omega)]
      by_cases z : M.1 247 i = -1
      · have e : rowN (M.1 247) (n + 1) i = i := if_pos z
        rw [if_pos z, e, if_pos hj]
      · have e : rowN (M.1 247) (n + 1) i = rowN (M.1 247) n (i + 1) := if_neg z
        rw [if_neg z, e, X14_isAngle]
        simp only [rf_b]
        by_cases q : ib (M.1 247 i) (M.1 206 16)
        · rw [bi_t q, if_neg o1, of_succ]
          refine ih F (i + 1) (by omega) (by omega) (fun j h => ?_)
          by_cases p : j = i
          · rw [p]; exact q
          · exact hj j (by omega)
        · have nq : ¬ ∀ j, j < rowN (M.1 247) n (i + 1) → ib (M.1 247 j) (M.1 206 16) := fun h => q (h i (by have := (rowN_le (f := M.1 247) n (i + 1)).1; omega))
          rw [bi_f q, if_pos rfl, if_neg nq]
          rfl
  exact key 6 rf_fuel 0 (by omega) (by unfold rf_fuel; omega) (fun j h => absurd h (Nat.not_lt_zero j))
theorem rowA_c {w : rf_w} {m : rf_m} {n : Nat} (hn : n ≤ 6) : g_X11_round_18 w rf_fuel (Int32.ofNat n) 0 m = @ite _ (∀ i, i < n → ib (m.1 205 i) (m.1 26 6)) (Classical.propDecidable _) (g_X11_round_18 w 1 (Int32.ofNat n) (Int32.ofNat n) m) (g_X11_refused w m 1) := by
  have o1 : ¬ (1 : Int32) = 0 := by decide
  have key : ∀ k F i, i + k = n → k < F → (∀ j, j < i → ib (m.1 205 j) (m.1 26 6)) → g_X11_round_18 w F (Int32.ofNat n) (Int32.ofNat i) m = @ite _ (∀ i, i < n → ib (m.1 205 i) (m.1 26 6)) (Classical.propDecidable _) (g_X11_round_18 w 1 (Int32.ofNat n) (Int32.ofNat n) m) (g_X11_refused w m 1) := by
    intro k
    induction k with
    | zero =>
      intro F i hi hF hj
      obtain ⟨F, rfl⟩ : ∃ g, F = g + 1 := ⟨F - 1, by omega⟩
      have e : i = n := by omega
      subst e
      rw [if_pos hj]
      show g_X11_round_18_b w _ _ _ m = g_X11_round_18_b w _ _ _ m
      unfold g_X11_round_18_b
      rw [if_pos (Int32.le_refl _), if_pos (Int32.le_refl _)]
    | succ k ih =>
      intro F i hi hF hj
      obtain ⟨F, rfl⟩ : ∃ g, F = g + 1 := ⟨F - 1, by omega⟩
      rw [show g_X11_round_18 w (F + 1) (Int32.ofNat n) (Int32.ofNat i) m = g_X11_round_18_b w (g_X11_round_18 w F) (Int32.ofNat n) (Int32.ofNat i) m from rfl]
      unfold g_X11_round_18_b
      have h1 : ¬ Int32.ofNat n ≤ Int32.ofNat i := nle (by omega) (by omega)
      rw [if_neg h1, gof (by omega) (by decide), g_t, tn_of (by omega), X3_isAngle]
      simp only [rf_b]
      by_cases q : ib (m.1 205 i) (m.1 26 6)
      · rw [bi_t q, if_neg o1, of_succ]
        refine ih F (i + 1) (by omega) (by omega) (fun j h => ?_)
        by_cases p : j = i
        · rw [p]; exact q
        · exact hj j (by omega)
      · have nq : ¬ ∀ i, i < n → ib (m.1 205 i) (m.1 26 6) := fun h => q (h i (by omega))
        rw [bi_f q, if_pos rfl, if_neg nq]
        rfl
  exact key n rf_fuel 0 (by omega) (by unfold rf_fuel; omega) (fun j h => absurd h (Nat.not_lt_zero j))
theorem ahead_c {w : rf_w} {m : rf_m} {i : Nat} (h6 : i < 6) : g_X11_isAhead__205 w m (Int32.ofNat i) = some (bi (∃ j, j < i ∧ m.1 205 j = m.1 205 i), m) := by
  have key : ∀ k F j, j + k = i → k < F → (∀ q, q < j → m.1 205 q ≠ m.1 205 i) → g_X11_isAhead__205_2 w F (Int32.ofNat i) (Int32.ofNat j) m = some (bi (∃ j, j < i ∧ m.1 205 j = m.1 205 i), m) := by
    intro k
    induction k with
    | zero =>
      intro F j hi hF hj
      obtain ⟨F, rfl⟩ : ∃ g, F = g + 1 := ⟨F - 1, by omega⟩
      show g_X11_isAhead__205_2_b w _ _ _ m = _
      unfold g_X11_isAhead__205_2_b
      have e : j = i := by omega
      subst e
      rw [if_pos (Int32.le_refl _), bi_f (fun ⟨q, q1, q2⟩ => hj q q1 q2)]
    | succ k ih =>
      intro F j hi hF hj
      obtain ⟨F, rfl⟩ : ∃ g, F = g + 1 := ⟨F - 1, by omega⟩
      show g_X11_isAhead__205_2_b w (g_X11_isAhead__205_2 w F) _ _ m = _
      unfold g_X11_isAhead__205_2_b
      have h1 : ¬ Int32.ofNat i ≤ Int32.ofNat j := nle (by omega) (by omega)
      rw [if_neg h1, gof (by omega) (by decide), g_t, gof (by omega) (by decide), g_t, tn_of (by omega), tn_of (by omega)]
      by_cases q : m.1 205 j = m.1 205 i
      · rw [if_pos q, bi_t ⟨j, by omega, q⟩]
      · rw [if_neg q, of_succ]
        refine ih F (j + 1) (by omega) (by omega) (fun p hp => ?_)
        by_cases e : p = j
        · rw [e]; exact q
        · exact hj p (by omega)
  exact key i rf_fuel 0 (by omega) (by unfold rf_fuel; omega) (fun j h => absurd h (Nat.not_lt_zero j))
def prv (n i : Nat) : Nat := if i = 0 then n - 1 else i - 1
/-- the i-th of the row stands where its neighbour does, goes on from it, and is new -/
def gRd (A B C f : Nat → Int32) (n i : Nat) : Prop := A (f i).toNatClampNeg = A (f (prv n i)).toNatClampNeg ∧ B (f i).toNatClampNeg = C (f (prv n i)).toNatClampNeg ∧ ¬ ∃ j, j < i ∧ f j = f i
theorem goes_c {w : rf_w} {m : rf_m} {n : Nat} (hn : n ≤ 6) (hf : ∀ i, i < n → ib (m.1 205 i) 80) : g_X7_goesRound__205 w m (Int32.ofNat n) = some (bi (2 ≤ n ∧ ∀ i, i < n → gRd (m.1 28) (m.1 29) (m.1 30) (m.1 205) n i), m) := by
  have o1 : ¬ (1 : Int32) = 0 := by decide
  have key : ∀ k F i, i + k = n → k < F → 2 ≤ n → (∀ j, j < i → gRd (m.1 28) (m.1 29) (m.1 30) (m.1 205) n j) → g_X7_goesRound__205_16 w F (Int32.ofNat n) (m.1 205 (prv n i)) (Int32.ofNat i) m = some (bi (2 ≤ n ∧ ∀ i, i < n → gRd (m.1 28) (m.1 29) (m.1 30) (m.1 205) n i), m) := by
    intro k
    induction k with
    | zero =>
      intro F i hi hF h2 hj
      obtain ⟨F, rfl⟩ : ∃ g, F = g + 1 := ⟨F - 1, by omega⟩
      show g_X7_goesRound__205_16_b w _ _ _ _ m = _
      unfold g_X7_goesRound__205_16_b
      have e : i = n := by omega
      subst e
      rw [if_pos (Int32.le_refl _), bi_t ⟨h2, hj⟩]
    | succ k ih =>
      intro F i hi hF h2 hj
      obtain ⟨F, rfl⟩ : ∃ g, F = g + 1 := ⟨F - 1, by omega⟩
      show g_X7_goesRound__205_16_b w (g_X7_goesRound__205_16 w F) _ _ _ m = _
      unfold g_X7_goesRound__205_16_b
      have h1 : ¬ Int32.ofNat n ≤ Int32.ofNat i := nle (by omega) (by omega)
      have hp : prv n i < n := by unfold prv; split <;> omega
      rw [if_neg h1, gof (by omega) (by decide), tn_of (by omega), in_ib (hf i (by omega)), in_ib (hf _ hp)]
      simp only [g_t]
      by_cases q1 : m.1 28 (m.1 205 i).toNatClampNeg = m.1 28 (m.1 205 (prv n i)).toNatClampNeg
      · rw [if_pos q1]
        by_cases q2 : m.1 29 (m.1 205 i).toNatClampNeg = m.1 30 (m.1 205 (prv n i)).toNatClampNeg
        · rw [if_pos q2, ahead_c (by omega)]
          simp only [rf_b, rf_vi]
          by_cases q3 : ∃ j, j < i ∧ m.1 205 j = m.1 205 i
          · rw [bi_t q3, if_neg o1, bi_f (fun h => (h.2 i (by omega)).2.2 q3)]
          · rw [bi_f q3, if_pos rfl, of_succ]
            have := ih F (i + 1) (by omega) (by omega) h2 (fun j h => by
              by_cases e : j = i
              · rw [e]; exact ⟨q1, q2, q3⟩
              · exact hj j (by omega))
            have e : prv n (i + 1) = i := by unfold prv; rw [if_neg (by omega)]; omega
            rw [e] at this
            exact this
        · rw [if_neg q2, bi_f (fun h => q2 (h.2 i (by omega)).2.1)]
      · rw [if_neg q1, bi_f (fun h => q1 (h.2 i (by omega)).1)]
  unfold g_X7_goesRound__205
  by_cases h2 : 2 ≤ n
  · have l2 : (2 : Int32) ≤ Int32.ofNat n := (of_le (a := 2) (by omega) (by omega)).mpr h2
    have e : Int32.ofNat n - 1 = Int32.ofNat (n - 1) := by
      obtain ⟨k, rfl⟩ : ∃ k, n = k + 1 := ⟨n - 1, by omega⟩
      rw [ofm1']; rfl
    rw [if_pos l2, e, gof (by omega) (by decide), g_t, tn_of (by omega)]
    have := key n rf_fuel 0 (by omega) (by unfold rf_fuel; omega) h2 (fun j h => absurd h (Nat.not_lt_zero j))
    exact this
  · have l2 : ¬ (2 : Int32) ≤ Int32.ofNat n := nle (R := 2) (by omega) (by decide)
    rw [if_neg l2, bi_f (fun h => h2 h.1)]
end PBRound
