/-! check: the sides that can be -/
section PBCheck
/-- the side opposite a triangle's i-th angle -/
def sidV (m : rf_m) (t i : Nat) : Int32 := sd (m.1 218 (m.1 243 (3 * t + i)).toNatClampNeg) (m.1 219 (m.1 243 (3 * t + i)).toNatClampNeg)
def cAg (m m1 : rf_m) : Prop := m1.1 51 = m.1 243 ∧ m1.1 29 = m.1 218 ∧ m1.1 30 = m.1 219
theorem t3 {t i : Nat} : Int32.ofNat t * 3 + Int32.ofNat i = Int32.ofNat (3 * t + i) := by rw [Int32.ofNat_add, Nat.mul_comm, Int32.ofNat_mul]; rfl
theorem t3' {t i : Nat} : 3 * Int32.ofNat t + Int32.ofNat i = Int32.ofNat (3 * t + i) := by rw [Int32.ofNat_add, Int32.ofNat_mul]; rfl
theorem opp_c {w : rf_w} {m m1 : rf_m} {t i : Nat} (jn : JNet m) (ja : JAng m) (ht : t < (m.1 206 64).toNatClampNeg) (hi : i < 3) (h : cAg m m1) : g_X7_opposite w m1 (Int32.ofNat t) (Int32.ofNat i) = some (sidV m t i, m1) := by
  have n30 := (net30 jn).1
  obtain ⟨q1, q2⟩ := net_t jn ja ht hi
  unfold g_X7_opposite g_X7_cornerOf
  rw [t3, gof (by omega) (by decide), g_t, tn_of (by omega), b_sm, h.1, in_ib q1, g_t, g_t, h.2.1, h.2.2, X11_sideOf, b_sm]
  rfl
theorem reach_c {w : rf_w} {m : rf_m} {s : Int32} {n : Nat} (hn : n ≤ 3) : g_X4_isReached w m s (Int32.ofNat n) = some (bi (∃ i, i < n ∧ m.1 183 i = s), m) := by
  have key : ∀ k F j, j + k = n → k < F → (∀ q, q < j → m.1 183 q ≠ s) → g_X4_isReached_2 w F s (Int32.ofNat n) (Int32.ofNat j) m = some (bi (∃ i, i < n ∧ m.1 183 i = s), m) := by
    intro k
    induction k with
    | zero =>
      intro F j hi hF hj
      obtain ⟨F, rfl⟩ : ∃ g, F = g + 1 := ⟨F - 1, by omega⟩
      show g_X4_isReached_2_b w _ _ _ _ m = _
      unfold g_X4_isReached_2_b
      have e : j = n := by omega
      subst e
      rw [if_pos (Int32.le_refl _), bi_f (fun ⟨q, q1, q2⟩ => hj q q1 q2)]
    | succ k ih =>
      intro F j hi hF hj
      obtain ⟨F, rfl⟩ : ∃ g, F = g + 1 := ⟨F - 1, by omega⟩
      show g_X4_isReached_2_b w (g_X4_isReached_2 w F) _ _ _ m = _
      unfold g_X4_isReached_2_b
      have h1 : ¬ Int32.ofNat n ≤ Int32.ofNat j := nle (by omega) (by omega)
      rw [if_neg h1, gof (by omega) (by decide), g_t, tn_of (by omega)]
      by_cases q : m.1 183 j = s
      · rw [if_pos q, bi_t ⟨j, by omega, q⟩]
      · rw [if_neg q, of_succ]
        refine ih F (j + 1) (by omega) (by omega) (fun p hp => ?_)
        by_cases e : p = j
        · rw [e]; exact q
        · exact hj p (by omega)
  exact key n rf_fuel 0 (by omega) (by unfold rf_fuel; omega) (fun q h => by omega)
/-- from the sides of S over a triangle -/
def nxt (m : rf_m) (t : Nat) (S : Int32 → Prop) (s : Int32) : Prop := ∃ i j, i < 3 ∧ j < 3 ∧ i ≠ j ∧ S (sidV m t i) ∧ s = sidV m t j
theorem nxt6 {m : rf_m} {t : Nat} {S : Int32 → Prop} {s : Int32} : nxt m t S s ↔ (S (sidV m t 0) ∧ (s = sidV m t 1 ∨ s = sidV m t 2)) ∨ (S (sidV m t 1) ∧ (s = sidV m t 0 ∨ s = sidV m t 2)) ∨ (S (sidV m t 2) ∧ (s = sidV m t 0 ∨ s = sidV m t 1)) := by
  constructor
  · rintro ⟨i, j, h1, h2, h3, h4, h5⟩
    have : i = 0 ∨ i = 1 ∨ i = 2 := by omega
    have : j = 0 ∨ j = 1 ∨ j = 2 := by omega
    rcases ‹i = 0 ∨ i = 1 ∨ i = 2› with rfl | rfl | rfl <;> rcases ‹j = 0 ∨ j = 1 ∨ j = 2› with rfl | rfl | rfl <;> first | exact absurd rfl h3 | exact Or.inl ⟨h4, Or.inl h5⟩ | exact Or.inl ⟨h4, Or.inr h5⟩ | exact Or.inr (Or.inl ⟨h4, Or.inl h5⟩) | exact Or.inr (Or.inl ⟨h4, Or.inr h5⟩) | exact Or.inr (Or.inr ⟨h4, Or.inl h5⟩) | exact Or.inr (Or.inr ⟨h4, Or.inr h5⟩)
  · rintro (⟨h, q | q⟩ | ⟨h, q | q⟩ | ⟨h, q | q⟩)
    · exact ⟨0, 1, by decide, by decide, by decide, h, q⟩
    · exact ⟨0, 2, by decide, by decide, by decide, h, q⟩
    · exact ⟨1, 0, by decide, by decide, by decide, h, q⟩
    · exact ⟨1, 2, by decide, by decide, by decide, h, q⟩
    · exact ⟨2, 0, by decide, by decide, by decide, h, q⟩
    · exact ⟨2, 1, by decide, by decide, by decide, h, q⟩
theorem ex3 {F : Nat → Int32} {s : Int32} : (∃ q, q < 3 ∧ F q = s) ↔ s = F 0 ∨ s = F 1 ∨ s = F 2 := by
  constructor
  · rintro ⟨q, h1, h2⟩
    have : q = 0 ∨ q = 1 ∨ q = 2 := by omega
    rcases this with rfl | rfl | rfl
    · exact Or.inl h2.symm
    · exact Or.inr (Or.inl h2.symm)
    · exact Or.inr (Or.inr h2.symm)
  · rintro (h | h | h)
    · exact ⟨0, by decide, h.symm⟩
    · exact ⟨1, by decide, h.symm⟩
    · exact ⟨2, by decide, h.symm⟩
theorem ex2 {F : Nat → Int32} {s : Int32} : (∃ q, q < 2 ∧ F q = s) ↔ s = F 0 ∨ s = F 1 := by
  constructor
  · rintro ⟨q, h1, h2⟩
    have : q = 0 ∨ q = 1 := by omega
    rcases this with rfl | rfl
    · exact Or.inl h2.symm
    · exact Or.inr h2.symm
  · rintro (h | h)
    · exact ⟨0, by decide, h.symm⟩
    · exact ⟨1, by decide, h.symm⟩
theorem stc_at {m : rf_m} {c : Nat} {f : Nat → Int32} : (stc m c f).1 c = f := if_pos rfl
theorem stc_ne {m : rf_m} {c a : Nat} {f : Nat → Int32} (h : a ≠ c) : (stc m c f).1 a = m.1 a := if_neg h
theorem stc_i2 {m : rf_m} {c k : Nat} {f : Nat → Int32} {x : Int32} : rf_i (stc m c f) c k x = stc m c (pu f k x) := by rw [stc_i, stc_at, stc_stc]
theorem cAg_st {m m1 : rf_m} {c : Nat} {f : Nat → Int32} (h : cAg m m1) (hc : c ≠ 51 ∧ c ≠ 29 ∧ c ≠ 30) : cAg m (stc m1 c f) := ⟨by rw [stc_ne (Ne.symm hc.1)]; exact h.1, by rw [stc_ne (Ne.symm hc.2.1)]; exact h.2.1, by rw [stc_ne (Ne.symm hc.2.2)]; exact h.2.2⟩
noncomputable def iff3 (P : Prop) (a b : Int32) : Int32 := @ite _ P (Classical.propDecidable P) a b
theorem iff3_t {P : Prop} {a b : Int32} (h : P) : iff3 P a b = a := if_pos h
theorem iff3_f {P : Prop} {a b : Int32} (h : ¬ P) : iff3 P a b = b := if_neg h
theorem goOver_c {w : rf_w} {m m1 : rf_m} {t n : Nat} (jn : JNet m) (ja : JAng m) (ht : t < (m.1 206 64).toNatClampNeg) (hn : n ≤ 3) (h : cAg m m1) : ∃ n' F, g_X4_goOver w m1 (Int32.ofNat t) (Int32.ofNat n) = some (Int32.ofNat n', stc m1 183 F) ∧ n' ≤ 3 ∧ (n' = 0 ↔ ¬ ∃ i, i < 3 ∧ ∃ q, q < n ∧ m1.1 183 q = sidV m t i) ∧ ∀ s, (∃ q, q < n' ∧ F q = s) ↔ nxt m t (fun s => ∃ q, q < n ∧ m1.1 183 q = s) s := by
  have o1 : ¬ (1 : Int32) = 0 := by decide
  have g3 : ∀ i, i < 3 → ¬ (3 : Int32) ≤ Int32.ofNat i := fun i hi => nle (R := 3) hi (by decide)
  have st : ∀ f i a3 a4, i < 3 → g_X4_goOver_8 w (f + 1) (Int32.ofNat t) (Int32.ofNat n) a3 a4 (Int32.ofNat i) m1 = g_X4_goOver_8 w f (Int32.ofNat t) (Int32.ofNat n) (iff3 (∃ q, q < n ∧ m1.1 183 q = sidV m t i) (a3 + 1) a3) (iff3 (∃ q, q < n ∧ m1.1 183 q = sidV m t i) (Int32.ofNat i) a4) (Int32.ofNat (i + 1)) m1 := by
    intro f i a3 a4 hi
    show g_X4_goOver_8_b w _ _ _ _ _ _ m1 = _
    unfold g_X4_goOver_8_b g_X4_goOver_39
    rw [if_neg (g3 i hi), opp_c jn ja ht hi h, b_sm, reach_c hn, b_sm, of_succ]
    by_cases q : ∃ q, q < n ∧ m1.1 183 q = sidV m t i
    · rw [bi_t q, if_neg o1, iff3_t q, iff3_t q]
    · rw [bi_f q, if_pos rfl, iff3_f q, iff3_f q]
  have st2 : ∀ f i k a3 a4 F, i < 3 → k < 3 → (1 < a3 ∨ Int32.ofNat i ≠ a4) → g_X4_goOver_57 w (f + 1) (Int32.ofNat t) a3 a4 (Int32.ofNat k) (Int32.ofNat i) (stc m1 183 F) = g_X4_goOver_57 w f (Int32.ofNat t) a3 a4 (Int32.ofNat (k + 1)) (Int32.ofNat (i + 1)) (stc m1 183 (pu F k (sidV m t i))) := by
    intro f i k a3 a4 F hi hk hc
    show g_X4_goOver_57_b w _ _ _ _ _ _ _ = _
    unfold g_X4_goOver_57_b g_X4_goOver_75 g_X4_goOver_95
    rw [if_neg (g3 i hi), opp_c jn ja ht hi (cAg_st h (by decide)), b_sm, gof hk (by decide), g_t, tn_of (by omega), of_succ, of_succ, stc_i2]
    rcases hc with hc | hc
    · rw [if_pos hc]
    · rw [if_neg hc]; split <;> rfl
  have st3 : ∀ f i k a3 F, i < 3 → ¬ 1 < a3 → g_X4_goOver_57 w (f + 1) (Int32.ofNat t) a3 (Int32.ofNat i) (Int32.ofNat k) (Int32.ofNat i) (stc m1 183 F) = g_X4_goOver_57 w f (Int32.ofNat t) a3 (Int32.ofNat i) (Int32.ofNat k) (Int32.ofNat (i + 1)) (stc m1 183 F) := by
    intro f i k a3 F hi hc
    show g_X4_goOver_57_b w _ _ _ _ _ _ _ = _
    unfold g_X4_goOver_57_b g_X4_goOver_95
    rw [if_neg (g3 i hi), if_neg hc, if_pos rfl, of_succ]
  have en : ∀ f a3 a4 k F, g_X4_goOver_57 w (f + 1) (Int32.ofNat t) a3 a4 (Int32.ofNat k) (Int32.ofNat 3) (stc m1 183 F) = some (Int32.ofNat k, stc m1 183 F) := by
    intro f a3 a4 k F
    show g_X4_goOver_57_b w _ _ _ _ _ _ _ = _
    unfold g_X4_goOver_57_b
    rw [if_pos (by decide)]
  obtain ⟨f, hf⟩ : ∃ f, rf_fuel = f + 4 := ⟨999996, rfl⟩
  have e0 : g_X4_goOver w m1 (Int32.ofNat t) (Int32.ofNat n) = g_X4_goOver_8 w (f + 4) (Int32.ofNat t) (Int32.ofNat n) 0 (-1) (Int32.ofNat 0) m1 := by unfold g_X4_goOver; rw [hf]; rfl
  have en8 : ∀ a3 a4, g_X4_goOver_8 w (f + 1) (Int32.ofNat t) (Int32.ofNat n) a3 a4 (Int32.ofNat 3) m1 = if a3 = 0 then some (0, m1) else g_X4_goOver_57 w (f + 4) (Int32.ofNat t) a3 a4 (Int32.ofNat 0) (Int32.ofNat 0) (stc m1 183 (m1.1 183)) := by
    intro a3 a4
    show g_X4_goOver_8_b w _ _ _ _ _ _ m1 = _
    unfold g_X4_goOver_8_b
    rw [if_pos (by decide), hf, stc_self]
    rfl
  rw [e0, st (f + 3) 0 _ _ (by decide), st (f + 2) 1 _ _ (by decide), st (f + 1) 2 _ _ (by decide), en8]
  have d3 : ∀ F : Nat → Int32, (∀ s, (∃ q, q < 3 ∧ F q = s) ↔ s = F 0 ∨ s = F 1 ∨ s = F 2) := fun F s => ex3
  have x3 : ∀ P : Nat → Prop, (∃ i, i < 3 ∧ P i) ↔ P 0 ∨ P 1 ∨ P 2 := by
    intro P
    constructor
    · rintro ⟨i, h1, h2⟩
      have : i = 0 ∨ i = 1 ∨ i = 2 := by omega
      rcases this with rfl | rfl | rfl
      · exact Or.inl h2
      · exact Or.inr (Or.inl h2)
      · exact Or.inr (Or.inr h2)
    · rintro (h | h | h)
      · exact ⟨0, by decide, h⟩
      · exact ⟨1, by decide, h⟩
      · exact ⟨2, by decide, h⟩
  rw [x3]
  have nx : ∀ s, nxt m t (fun s => ∃ q, q < n ∧ m1.1 183 q = s) s ↔ _ := fun s => nxt6
  generalize hP0 : (∃ q, q < n ∧ m1.1 183 q = sidV m t 0) = P0 at *
  generalize hP1 : (∃ q, q < n ∧ m1.1 183 q = sidV m t 1) = P1 at *
  generalize hP2 : (∃ q, q < n ∧ m1.1 183 q = sidV m t 2) = P2 at *
  have all : ∀ a3 a4, 1 < a3 → ∃ n' F, g_X4_goOver_57 w (f + 4) (Int32.ofNat t) a3 a4 (Int32.ofNat 0) (Int32.ofNat 0) (stc m1 183 (m1.1 183)) = some (Int32.ofNat n', stc m1 183 F) ∧ n' = 3 ∧ ∀ s, (∃ q, q < n' ∧ F q = s) ↔ s = sidV m t 0 ∨ s = sidV m t 1 ∨ s = sidV m t 2 := by
    intro a3 a4 h1
    rw [st2 (f + 3) 0 0 a3 a4 _ (by decide) (by decide) (Or.inl h1), st2 (f + 2) 1 1 a3 a4 _ (by decide) (by decide) (Or.inl h1), st2 (f + 1) 2 2 a3 a4 _ (by decide) (by decide) (Or.inl h1), en]
    exact ⟨3, _, rfl, rfl, fun s => ex3⟩
  have b0 : ∀ a3, ¬ 1 < a3 → ∃ n' F, g_X4_goOver_57 w (f + 4) (Int32.ofNat t) a3 (Int32.ofNat 0) (Int32.ofNat 0) (Int32.ofNat 0) (stc m1 183 (m1.1 183)) = some (Int32.ofNat n', stc m1 183 F) ∧ n' = 2 ∧ ∀ s, (∃ q, q < n' ∧ F q = s) ↔ s = sidV m t 1 ∨ s = sidV m t 2 := by
    intro a3 h1
    rw [st3 (f + 3) 0 0 a3 _ (by decide) h1, st2 (f + 2) 1 0 a3 _ _ (by decide) (by decide) (Or.inr (by decide)), st2 (f + 1) 2 1 a3 _ _ (by decide) (by decide) (Or.inr (by decide)), en]
    exact ⟨2, _, rfl, rfl, fun s => ex2⟩
  have b1 : ∀ a3, ¬ 1 < a3 → ∃ n' F, g_X4_goOver_57 w (f + 4) (Int32.ofNat t) a3 (Int32.ofNat 1) (Int32.ofNat 0) (Int32.ofNat 0) (stc m1 183 (m1.1 183)) = some (Int32.ofNat n', stc m1 183 F) ∧ n' = 2 ∧ ∀ s, (∃ q, q < n' ∧ F q = s) ↔ s = sidV m t 0 ∨ s = sidV m t 2 := by
    intro a3 h1
    rw [st2 (f + 3) 0 0 a3 _ _ (by decide) (by decide) (Or.inr (by decide)), st3 (f + 2) 1 1 a3 _ (by decide) h1, st2 (f + 1) 2 1 a3 _ _ (by decide) (by decide) (Or.inr (by decide)), en]
    exact ⟨2, _, rfl, rfl, fun s => ex2⟩
  have b2 : ∀ a3, ¬ 1 < a3 → ∃ n' F, g_X4_goOver_57 w (f + 4) (Int32.ofNat t) a3 (Int32.ofNat 2) (Int32.ofNat 0) (Int32.ofNat 0) (stc m1 183 (m1.1 183)) = some (Int32.ofNat n', stc m1 183 F) ∧ n' = 2 ∧ ∀ s, (∃ q, q < n' ∧ F q = s) ↔ s = sidV m t 0 ∨ s = sidV m t 1 := by
    intro a3 h1
    rw [st2 (f + 3) 0 0 a3 _ _ (by decide) (by decide) (Or.inr (by decide)), st2 (f + 2) 1 1 a3 _ _ (by decide) (by decide) (Or.inr (by decide)), st3 (f + 1) 2 2 a3 _ (by decide) h1, en]
    exact ⟨2, _, rfl, rfl, fun s => ex2⟩
  by_cases h0 : P0 <;> by_cases h1 : P1 <;> by_cases h2 : P2 <;> simp only [iff3, h0, h1, h2, if_true, if_false]
  · obtain ⟨n', F, e1, e2, e3⟩ := all (0 + 1 + 1 + 1) (Int32.ofNat 2) (by decide)
    exact ⟨n', F, by rw [if_neg (by decide)]; exact e1, by omega, by simp; omega, fun s => by rw [e3, nx]; simp only [h0, h1, h2, true_and, false_and, or_false, false_or]; try grind⟩
  · obtain ⟨n', F, e1, e2, e3⟩ := all (0 + 1 + 1) (Int32.ofNat 1) (by decide)
    exact ⟨n', F, by rw [if_neg (by decide)]; exact e1, by omega, by simp; omega, fun s => by rw [e3, nx]; simp only [h0, h1, h2, true_and, false_and, or_false, false_or]; try grind⟩
  · obtain ⟨n', F, e1, e2, e3⟩ := all (0 + 1 + 1) (Int32.ofNat 2) (by decide)
    exact ⟨n', F, by rw [if_neg (by decide)]; exact e1, by omega, by simp; omega, fun s => by rw [e3, nx]; simp only [h0, h1, h2, true_and, false_and, or_false, false_or]; try grind⟩
  · obtain ⟨n', F, e1, e2, e3⟩ := b0 (0 + 1) (by decide)
    exact ⟨n', F, by rw [if_neg (by decide)]; exact e1, by omega, by simp; omega, fun s => by rw [e3, nx]; simp only [h0, h1, h2, true_and, false_and, or_false, false_or]; try grind⟩
  · obtain ⟨n', F, e1, e2, e3⟩ := all (0 + 1 + 1) (Int32.ofNat 2) (by decide)
    exact ⟨n', F, by rw [if_neg (by decide)]; exact e1, by omega, by simp; omega, fun s => by rw [e3, nx]; simp only [h0, h1, h2, true_and, false_and, or_false, false_or]; try grind⟩
  · obtain ⟨n', F, e1, e2, e3⟩ := b1 (0 + 1) (by decide)
    exact ⟨n', F, by rw [if_neg (by decide)]; exact e1, by omega, by simp; omega, fun s => by rw [e3, nx]; simp only [h0, h1, h2, true_and, false_and, or_false, false_or]; try grind⟩
  · obtain ⟨n', F, e1, e2, e3⟩ := b2 (0 + 1) (by decide)
    exact ⟨n', F, by rw [if_neg (by decide)]; exact e1, by omega, by simp; omega, fun s => by rw [e3, nx]; simp only [h0, h1, h2, true_and, false_and, or_false, false_or]; try grind⟩
  · exact ⟨0, m1.1 183, by rw [stc_self]; rfl, by omega, by simp, fun s => by rw [nx]; simp [h0, h1, h2]⟩
end PBCheck
