/-! round, by the reference -/
section PBRoundR
theorem bi01 {P : Prop} : bi P = 0 ∨ bi P = 1 := by
  by_cases h : P
  · rw [bi_t h]; exact Or.inr rfl
  · rw [bi_f h]; exact Or.inl rfl
theorem inner_r {w : rf_w} {M : rf_m} {rec : Int32 → Int32 → Int32 → rf_m → Option (Int32 × rf_m)} {n i : Nat} (hi6 : i < 6) : ∀ k F j s, j + k = i → k < F → (s = 0 ∨ s = 1) → g_X14_round_206 w rec F (Int32.ofNat n) s (Int32.ofNat i) (Int32.ofNat j) M = rec (Int32.ofNat n) (bi (s = 1 ∧ ∀ q, j ≤ q → q < i → M.1 247 q ≠ M.1 247 i)) (Int32.ofNat (i + 1)) M := by
  have o1 : ¬ (1 : Int32) = 0 := by decide
  have o2 : ¬ (0 : Int32) = 1 := by decide
  intro k
  induction k with
  | zero =>
    intro F j s hi hF hs
    obtain ⟨F, rfl⟩ : ∃ g, F = g + 1 := ⟨F - 1, by omega⟩
    show g_X14_round_206_b w rec _ _ _ _ _ M = _
    unfold g_X14_round_206_b
    have e : j = i := by omega
    subst e
    rw [if_pos (Int32.le_refl _), of_succ]
    rcases hs with z | z
    · rw [z, bi_f (fun h => o2 h.1)]
    · rw [z, bi_t ⟨rfl, fun q h1 h2 => by omega⟩]
  | succ k ih =>
    intro F j s hi hF hs
    obtain ⟨F, rfl⟩ : ∃ g, F = g + 1 := ⟨F - 1, by omega⟩
    show g_X14_round_206_b w rec (g_X14_round_206 w rec F) _ _ _ _ M = _
    unfold g_X14_round_206_b g_X14_round_239 g_X14_round_240
    have h1 : ¬ Int32.ofNat i ≤ Int32.ofNat j := nle (by omega) (by omega)
    rw [if_neg h1, of_succ, ih F (j + 1) 0 (by omega) (by omega) (Or.inl rfl), ih F (j + 1) 1 (by omega) (by omega) (Or.inr rfl), bi_f (fun h => o2 h.1)]
    rcases hs with z | z
    · rw [z, if_pos rfl, bi_f (fun h => o2 h.1)]
    · rw [z, if_neg o1, gof (by omega) (by decide), g_t, gof (by omega) (by decide), g_t, tn_of (by omega), tn_of (by omega)]
      by_cases q : M.1 247 j = M.1 247 i
      · rw [if_pos q, bi_f (fun h => h.2 j (Nat.le_refl _) (by omega) q)]
      · rw [if_neg q]
        by_cases p : ∀ q, j + 1 ≤ q → q < i → M.1 247 q ≠ M.1 247 i
        · rw [bi_t ⟨rfl, p⟩, bi_t ⟨rfl, fun x h1 h2 => by
            by_cases e : x = j
            · rw [e]; exact q
            · exact p x (by omega) h2⟩]
        · rw [bi_f (fun h => p h.2), bi_f (fun h => p (fun x h1 h2 => h.2 x (by omega) h2))]
def gRr (A B C f : Nat → Int32) (n i : Nat) : Prop := A (f i).toNatClampNeg = A (f 0).toNatClampNeg ∧ B (f i).toNatClampNeg = C (f (prv n i)).toNatClampNeg ∧ ¬ ∃ j, j < i ∧ f j = f i
theorem outer_r {w : rf_w} {M : rf_m} {n : Nat} (hn : n ≤ 6) (hf : ∀ i, i < n → ib (M.1 247 i) 80) : ∀ k F i s, i + k = n → k < F → (s = 0 ∨ s = 1) → g_X14_round_113 w F (Int32.ofNat n) s (Int32.ofNat i) M = g_X14_round_113 w 1 (Int32.ofNat n) (bi (s = 1 ∧ ∀ j, i ≤ j → j < n → gRr (M.1 217) (M.1 218) (M.1 219) (M.1 247) n j)) (Int32.ofNat n) M := by
  have o1 : ¬ (1 : Int32) = 0 := by decide
  have o2 : ¬ (0 : Int32) = 1 := by decide
  have z0 : (0 : Int32).toNatClampNeg = 0 := rfl
  intro k
  induction k with
  | zero =>
    intro F i s hi hF hs
    obtain ⟨F, rfl⟩ : ∃ g, F = g + 1 := ⟨F - 1, by omega⟩
    have e : i = n := by omega
    subst e
    have es : bi (s = 1 ∧ ∀ j, i ≤ j → j < i → gRr (M.1 217) (M.1 218) (M.1 219) (M.1 247) i j) = s := by
      rcases hs with z | z
      · rw [z, bi_f (fun h => o2 h.1)]
      · rw [z, bi_t ⟨rfl, fun j h1 h2 => by omega⟩]
    rw [es]
    show g_X14_round_113_b w _ _ _ _ M = g_X14_round_113_b w _ _ _ _ M
    unfold g_X14_round_113_b
    rw [if_pos (Int32.le_refl _), if_pos (Int32.le_refl _)]
  | succ k ih =>
    intro F i s hi hF hs
    obtain ⟨F, rfl⟩ : ∃ g, F = g + 1 := ⟨F - 1, by omega⟩
    have hp : prv n i < n := by unfold prv; split <;> omega
    have h1 : ¬ Int32.ofNat n ≤ Int32.ofNat i := nle (by omega) (by omega)
    have in0 : ∀ s', (s' = 0 ∨ s' = 1) → g_X14_round_206 w (g_X14_round_113 w F) rf_fuel (Int32.ofNat n) s' (Int32.ofNat i) 0 M = g_X14_round_113 w F (Int32.ofNat n) (bi (s' = 1 ∧ ∀ q, 0 ≤ q → q < i → M.1 247 q ≠ M.1 247 i)) (Int32.ofNat (i + 1)) M := fun s' hs' => inner_r (w := w) (M := M) (rec := g_X14_round_113 w F) (n := n) (i := i) (by omega) i rf_fuel 0 s' (by omega) (by unfold rf_fuel; omega) hs'
    have h140 : g_X14_round_140 w (g_X14_round_113 w F) (Int32.ofNat n) s (Int32.ofNat i) (Int32.ofNat (prv n i)) M = g_X14_round_113 w 1 (Int32.ofNat n) (bi (s = 1 ∧ ∀ j, i ≤ j → j < n → gRr (M.1 217) (M.1 218) (M.1 219) (M.1 247) n j)) (Int32.ofNat n) M := by
      unfold g_X14_round_140 g_X14_round_200 g_X14_round_201
      rw [in0 0 (Or.inl rfl), in0 1 (Or.inr rfl), bi_f (fun h => o2 h.1), ih F (i + 1) 0 (by omega) (by omega) (Or.inl rfl), ih F (i + 1) _ (by omega) (by omega) bi01, bi_f (fun h => o2 h.1)]
      rw [gof (by omega) (by decide), g_t, tn_of (by omega)]
      simp only [rf_vi]
      rcases hs with z | z
      · rw [z, if_pos rfl, bi_f (fun h => o2 h.1)]
      · rw [z, if_neg o1, gof (by omega) (by decide), tn_of (by omega), z0, in_ib (hf i (by omega)), in_ib (hf 0 (by omega)), in_ib (hf _ hp)]
        simp only [g_t]
        by_cases q1 : M.1 217 (M.1 247 i).toNatClampNeg = M.1 217 (M.1 247 0).toNatClampNeg
        · rw [if_pos q1]
          by_cases q2 : M.1 218 (M.1 247 i).toNatClampNeg = M.1 219 (M.1 247 (prv n i)).toNatClampNeg
          · rw [if_pos q2]
            by_cases q3 : ∃ j, j < i ∧ M.1 247 j = M.1 247 i
            · obtain ⟨j, j1, j2⟩ := q3
              have e1 : bi (True ∧ ∀ q, 0 ≤ q → q < i → M.1 247 q ≠ M.1 247 i) = 0 := bi_f (fun h => h.2 j (Nat.zero_le _) j1 j2)
              rw [e1, bi_f (fun h => o2 h.1), bi_f (fun h => (h.2 i (Nat.le_refl _) (by omega)).2.2 ⟨j, j1, j2⟩)]
            · have e1 : bi (True ∧ ∀ q, 0 ≤ q → q < i → M.1 247 q ≠ M.1 247 i) = 1 := bi_t ⟨trivial, fun q _ h e => q3 ⟨q, h, e⟩⟩
              rw [e1]
              by_cases p : ∀ j, i + 1 ≤ j → j < n → gRr (M.1 217) (M.1 218) (M.1 219) (M.1 247) n j
              · rw [bi_t ⟨rfl, p⟩, bi_t ⟨trivial, fun x h1 h2 => by
                  by_cases e : x = i
                  · rw [e]; exact ⟨q1, q2, q3⟩
                  · exact p x (by omega) h2⟩]
              · rw [bi_f (fun h => p h.2), bi_f (fun h => p (fun x h1 h2 => h.2 x (by omega) h2))]
          · rw [if_neg q2, bi_f (fun h => q2 (h.2 i (Nat.le_refl _) (by omega)).2.1)]
        · rw [if_neg q1, bi_f (fun h => q1 (h.2 i (Nat.le_refl _) (by omega)).1)]
    rw [show g_X14_round_113 w (F + 1) (Int32.ofNat n) s (Int32.ofNat i) M = g_X14_round_113_b w (g_X14_round_113 w F) (Int32.ofNat n) s (Int32.ofNat i) M from rfl]
    unfold g_X14_round_113_b
    rw [if_neg h1]
    by_cases z : i = 0
    · have e : Int32.ofNat n - 1 = Int32.ofNat (prv n i) := by
        obtain ⟨k, rfl⟩ : ∃ k, n = k + 1 := ⟨n - 1, by omega⟩
        unfold prv; rw [if_pos z, ofm1']; rfl
      have z' : Int32.ofNat i = 0 := by rw [z]; rfl
      rw [if_pos z', e]
      exact h140
    · have e : Int32.ofNat i - 1 = Int32.ofNat (prv n i) := by
        obtain ⟨k, rfl⟩ : ∃ k, i = k + 1 := ⟨i - 1, by omega⟩
        unfold prv; rw [if_neg z, ofm1']; rfl
      have z' : ¬ Int32.ofNat i = 0 := fun q => z ((of_inj (b := 0) (by omega) (by omega)).mp q)
      rw [if_neg z', e]
      exact h140
/-- standing where the neighbour does, all around, is standing where the first does -/
theorem gRd_r {A B C f : Nat → Int32} {n : Nat} : (∀ i, i < n → gRd A B C f n i) ↔ (∀ i, i < n → gRr A B C f n i) := by
  constructor
  · intro h
    have key : ∀ i, i < n → A (f i).toNatClampNeg = A (f 0).toNatClampNeg := by
      intro i
      induction i with
      | zero => intro _; rfl
      | succ i ih =>
        intro hi
        have := (h (i + 1) hi).1
        have e : prv n (i + 1) = i := by unfold prv; rw [if_neg (by omega)]; omega
        rw [e] at this
        rw [this]; exact ih (by omega)
    exact fun i hi => ⟨key i hi, (h i hi).2⟩
  · intro h i hi
    have hp : prv n i < n := by unfold prv; split <;> omega
    exact ⟨by rw [(h i hi).1, (h _ hp).1], (h i hi).2⟩
end PBRoundR
