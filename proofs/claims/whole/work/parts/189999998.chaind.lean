/-! chains: the reference's search -/
section PBChainD
theorem tdiv_nn {a b : Int} (ha : 0 ≤ a) (hb : 0 < b) : a.tdiv b = a / b := (tdiv_pos hb).2.2.1 ha
theorem prod_le {a b A B : Int} (h0 : 0 ≤ a) (h1 : a ≤ A) (h2 : 0 ≤ b) (h3 : b ≤ B) : 0 ≤ a * b ∧ a * b ≤ A * B := ⟨Int.mul_nonneg h0 h2, Int.mul_le_mul h1 h3 h2 (by omega)⟩
theorem carLo {a b c : Int64} (a0 : 0 ≤ a.toInt) (a1 : a.toInt ≤ 1000000000) (b0 : 0 ≤ b.toInt) (b1 : b.toInt ≤ 1000000) (c0 : 1 ≤ c.toInt) : (a * b / c).toInt = a.toInt * b.toInt / c.toInt := by
  obtain ⟨p0, p1⟩ := prod_le a0 a1 b0 b1
  rw [divL (by omega), mulL (by omega) (by omega), tdiv_nn p0 (by omega)]
theorem carHi {a b c : Int64} (a0 : 0 ≤ a.toInt) (a1 : a.toInt ≤ 1000000000) (b0 : 0 ≤ b.toInt) (b1 : b.toInt ≤ 1000000) (c0 : 1 ≤ c.toInt) (c1 : c.toInt ≤ 1000000) : ((a * b + c - 1) / c).toInt = (a.toInt * b.toInt + c.toInt - 1) / c.toInt := by
  obtain ⟨p0, p1⟩ := prod_le a0 a1 b0 b1
  have m := mulL (a := a) (b := b) (by omega) (by omega)
  have s := addL (a := a * b) (b := c) (by omega) (by omega)
  have k : (1 : Int64).toInt = 1 := by decide
  have t := subL (a := a * b + c) (b := 1) (by omega) (by omega)
  rw [divL (by omega), t, s, m, k, tdiv_nn (by omega) (by omega)]
/-- what the search reads and never changes -/
def stR (w : rf_w) (m M : rf_m) (U : List Nat) (g1 g2 : Int32) : Prop := M.1 243 = m.1 243 ∧ M.1 218 = m.1 218 ∧ M.1 219 = m.1 219 ∧ (∀ a, a < (m.1 206 16).toNatClampNeg → siP w m M a) ∧ M.1 206 104 = Int32.ofNat U.length ∧ (∀ u (h : u < U.length), M.1 271 u = Int32.ofNat U[u]) ∧ M.1 206 108 = g1 ∧ M.1 206 109 = g2
def rdF (M M' : rf_m) : Prop := (∀ z, z ≠ 206 → (z < 272 ∨ 277 < z) → M'.1 z = M.1 z) ∧ (∀ k, k < 105 ∨ 107 < k → M'.1 206 k = M.1 206 k) ∧ M'.2 = M.2
theorem rdF_refl (M : rf_m) : rdF M M := ⟨fun _ _ _ => rfl, fun _ _ => rfl, rfl⟩
theorem rdF_trans {A B C : rf_m} (h1 : rdF A B) (h2 : rdF B C) : rdF A C := ⟨fun z a b => (h2.1 z a b).trans (h1.1 z a b), fun k a => (h2.2.1 k a).trans (h1.2.1 k a), h2.2.2.trans h1.2.2⟩
theorem stR_e {w : rf_w} {m M M' : rf_m} {U : List Nat} {g1 g2 : Int32} (h : stR w m M U g1 g2) (f : rdF M M') : stR w m M' U g1 g2 := by
  obtain ⟨a1, a2, a3, a4, a5, a6, a7, a8⟩ := h
  refine ⟨by rw [f.1 243 (by decide) (by omega)]; exact a1, by rw [f.1 218 (by decide) (by omega)]; exact a2, by rw [f.1 219 (by decide) (by omega)]; exact a3, fun a ha => ?_, by rw [f.2.1 104 (by omega)]; exact a5, fun u hu => by rw [f.1 271 (by decide) (by omega)]; exact a6 u hu, by rw [f.2.1 108 (by omega)]; exact a7, by rw [f.2.1 109 (by omega)]; exact a8⟩
  have := a4 a ha
  unfold siP at this ⊢
  rw [f.1 268 (by decide) (by omega), f.1 269 (by decide) (by omega), f.1 270 (by decide) (by omega)]
  exact this
/-- the rows of the path up to n are those of before -/
def rsE (n : Nat) (M M' : rf_m) : Prop := ∀ j, j < n → M'.1 272 j = M.1 272 j ∧ M'.1 273 j = M.1 273 j ∧ M'.1 274 j = M.1 274 j
theorem rw_e {m M M' : rf_m} {p : List (Nat × Nat)} (h : rwR m (M.1 272) (M.1 273) (M.1 274) p) (e : rsE p.length M M') : rwR m (M'.1 272) (M'.1 273) (M'.1 274) p := fun j hj => by
  obtain ⟨e1, e2, e3⟩ := e j hj
  rw [e1, e2, e3]
  exact h j hj
theorem opp_r {w : rf_w} {m M : rf_m} {t : Nat} {x y : Int32} {L go s : Int32} {lo hi : Int} (jn : JNet m) (ja : JAng m) (jm : JMark m) (ht : t < (m.1 206 64).toNatClampNeg) (hx : ib x 30) (hy : ib y 30) (h3 : M.1 243 = m.1 243) (h8 : M.1 218 = m.1 218) (h9 : M.1 219 = m.1 219) : g_X14_opposite w M (Int32.ofNat t) x y = some ((match plc (envE w m L go s lo hi) t (sd x y) with | none => -1 | some o => Int32.ofNat o), M) := by
  have n30 := (net30 jn).1
  have o1 : ¬ (1 : Int32) = 0 := by decide
  have bw : ∀ i, i < 3 → g_X14_isBetween w M (m.1 243 (3 * t + i)) x y = some (bi (sidV m t i = sd x y), M) := fun i hi => by
    obtain ⟨q1, q2⟩ := net_t jn ja ht hi
    obtain ⟨a, b⟩ := cor_ib jn ja jm ht hi
    have iff := sd_iff hx hy a b
    unfold g_X14_isBetween g_X14_isBetween_20
    rw [in_ib q1, g_t, g_t, g_t, g_t, h8, h9]
    unfold sidV
    by_cases c1 : m.1 218 (m.1 243 (3 * t + i)).toNatClampNeg = x
    · rw [if_pos c1]
      by_cases c2 : m.1 219 (m.1 243 (3 * t + i)).toNatClampNeg = y
      · rw [if_pos c2, bi_t (iff.mpr (Or.inl ⟨c1, c2⟩))]
      · rw [if_neg c2]
        by_cases c3 : m.1 218 (m.1 243 (3 * t + i)).toNatClampNeg = y
        · rw [if_pos c3]
          by_cases c4 : m.1 219 (m.1 243 (3 * t + i)).toNatClampNeg = x
          · rw [if_pos c4, bi_t (iff.mpr (Or.inr ⟨c3, c4⟩))]
          · rw [if_neg c4, bi_f (fun z => (iff.mp z).elim (fun q => c2 q.2) (fun q => c4 q.2))]
        · rw [if_neg c3, bi_f (fun z => (iff.mp z).elim (fun q => c2 q.2) (fun q => c3 q.1))]
    · rw [if_neg c1]
      by_cases c3 : m.1 218 (m.1 243 (3 * t + i)).toNatClampNeg = y
      · rw [if_pos c3]
        by_cases c4 : m.1 219 (m.1 243 (3 * t + i)).toNatClampNeg = x
        · rw [if_pos c4, bi_t (iff.mpr (Or.inr ⟨c3, c4⟩))]
        · rw [if_neg c4, bi_f (fun z => (iff.mp z).elim (fun q => c1 q.1) (fun q => c4 q.2))]
      · rw [if_neg c3, bi_f (fun z => (iff.mp z).elim (fun q => c1 q.1) (fun q => c3 q.1))]
  have st : ∀ f i, i < 3 → g_X14_opposite_3 w (f + 1) (Int32.ofNat t) x y (Int32.ofNat i) M = @ite _ (sidV m t i = sd x y) (Classical.propDecidable _) (some (Int32.ofNat i, M)) (g_X14_opposite_3 w f (Int32.ofNat t) x y (Int32.ofNat (i + 1)) M) := fun f i hi => by
    have g1 : ¬ (3 : Int32) ≤ Int32.ofNat i := nle (R := 3) hi (by decide)
    show g_X14_opposite_3_b w _ _ _ _ _ M = _
    unfold g_X14_opposite_3_b
    simp only [rf_vi]
    rw [if_neg g1, t3', gof (by omega) (by decide), g_t, tn_of (by omega), h3, bw i hi, b_sm, of_succ]
    by_cases c : sidV m t i = sd x y
    · rw [bi_t c, if_neg o1, if_pos c]
    · rw [bi_f c, if_pos rfl, if_neg c]
  obtain ⟨f, hf⟩ : ∃ f, rf_fuel = f + 4 := ⟨999996, rfl⟩
  have en : g_X14_opposite_3 w (f + 1) (Int32.ofNat t) x y (Int32.ofNat 3) M = some (-1, M) := by
    show g_X14_opposite_3_b w _ _ _ _ _ M = _
    unfold g_X14_opposite_3_b
    have p3 : (3 : Int32) ≤ Int32.ofNat 3 := by decide
    rw [if_pos p3]
  have e0 : g_X14_opposite w M (Int32.ofNat t) x y = g_X14_opposite_3 w (f + 4) (Int32.ofNat t) x y (Int32.ofNat 0) M := by unfold g_X14_opposite; rw [hf]; rfl
  rw [e0, st (f + 3) 0 (by decide), st (f + 2) 1 (by decide), st (f + 1) 2 (by decide), en]
  have ep : plc (envE w m L go s lo hi) t (sd x y) = if sidV m t 0 = sd x y then some 0 else if sidV m t 1 = sd x y then some 1 else if sidV m t 2 = sd x y then some 2 else none := rfl
  rw [ep]
  by_cases c0 : sidV m t 0 = sd x y
  · rw [if_pos c0, if_pos c0]
  · rw [if_neg c0, if_neg c0]
    by_cases c1 : sidV m t 1 = sd x y
    · rw [if_pos c1, if_pos c1]
    · rw [if_neg c1, if_neg c1]
      by_cases c2 : sidV m t 2 = sd x y
      · rw [if_pos c2, if_pos c2]
      · rw [if_neg c2, if_neg c2]
/-- the path's row is kept as the best -/
def kpF (M M' : rf_m) (n : Nat) : Prop := (∀ z, z ≠ 275 → z ≠ 276 → z ≠ 277 → M'.1 z = M.1 z) ∧ M'.2 = M.2 ∧ ∀ j, j < n → M'.1 275 j = M.1 272 j ∧ M'.1 276 j = M.1 273 j ∧ M'.1 277 j = M.1 274 j
theorem keep49 {w : rf_w} {M : rf_m} {N : Nat} {rc : rf_m → Int32 → Int32 → Int32 → Int32 → Int32 → Int32 → Option rf_m} {a2 a3 a4 a5 a6 : Int32} (hN : N ≤ 6) : ∃ M', kpF M M' N ∧ g_X14_chains_49 w rc rf_fuel (Int32.ofNat N) a2 a3 a4 a5 a6 0 M = g_X14_chains_103 w rc (Int32.ofNat N) a2 a3 a4 a5 a6 M' := by
  have key : ∀ n f i Mi, i + n = N → n < f → kpF M Mi i → ∃ M', kpF M M' N ∧ g_X14_chains_49 w rc f (Int32.ofNat N) a2 a3 a4 a5 a6 (Int32.ofNat i) Mi = g_X14_chains_103 w rc (Int32.ofNat N) a2 a3 a4 a5 a6 M' := by
    intro n
    induction n with
    | zero =>
      intro f i Mi hi hf hM
      obtain ⟨f, rfl⟩ : ∃ g, f = g + 1 := ⟨f - 1, by omega⟩
      have e : i = N := by omega
      subst e
      refine ⟨Mi, hM, ?_⟩
      show g_X14_chains_49_b w _ _ _ _ _ _ _ _ _ _ = _
      unfold g_X14_chains_49_b
      rw [if_pos (Int32.le_refl _)]
    | succ n ih =>
      intro f i Mi hi hf hM
      obtain ⟨f, rfl⟩ : ∃ g, f = g + 1 := ⟨f - 1, by omega⟩
      have g1 : ¬ Int32.ofNat N ≤ Int32.ofNat i := nle (by omega) (by omega)
      show ∃ M', _ ∧ g_X14_chains_49_b w _ _ _ _ _ _ _ _ _ _ = _
      unfold g_X14_chains_49_b
      rw [if_neg g1, gof (by omega) (by decide), tn_of (by omega), of_succ]
      simp only [g_t]
      refine ih f (i + 1) _ (by omega) (by omega) ?_
      have x1 : (rf_i Mi 275 i (Mi.1 272 i)).1 273 = Mi.1 273 := by rw [rf_i_c, if_neg (by decide)]
      have x2 : (rf_i (rf_i Mi 275 i (Mi.1 272 i)) 276 i ((rf_i Mi 275 i (Mi.1 272 i)).1 273 i)).1 274 = Mi.1 274 := by rw [rf_i_c, if_neg (by decide), rf_i_c, if_neg (by decide)]
      rw [x2, x1]
      refine ⟨fun z z1 z2 z3 => ?_, ?_, fun j hj => ?_⟩
      · rw [rf_i_c, if_neg z3, rf_i_c, if_neg z2, rf_i_c, if_neg z1, hM.1 z z1 z2 z3]
      · exact hM.2.1
      · have y1 : (rf_i (rf_i (rf_i Mi 275 i (Mi.1 272 i)) 276 i (Mi.1 273 i)) 277 i (Mi.1 274 i)).1 275 = pu (Mi.1 275) i (Mi.1 272 i) := by rw [rf_i_c, if_neg (by decide), rf_i_c, if_neg (by decide), rf_i_c, if_pos rfl]
        have y2 : (rf_i (rf_i (rf_i Mi 275 i (Mi.1 272 i)) 276 i (Mi.1 273 i)) 277 i (Mi.1 274 i)).1 276 = pu (Mi.1 276) i (Mi.1 273 i) := by rw [rf_i_c, if_neg (by decide), rf_i_c, if_pos rfl, rf_i_c, if_neg (by decide)]
        have y3 : (rf_i (rf_i (rf_i Mi 275 i (Mi.1 272 i)) 276 i (Mi.1 273 i)) 277 i (Mi.1 274 i)).1 277 = pu (Mi.1 277) i (Mi.1 274 i) := by rw [rf_i_c, if_pos rfl, rf_i_c, if_neg (by decide), rf_i_c, if_neg (by decide)]
        rw [y1, y2, y3]
        by_cases e : j = i
        · rw [e, pu_at, pu_at, pu_at, hM.1 272 (by decide) (by decide) (by decide), hM.1 273 (by decide) (by decide) (by decide), hM.1 274 (by decide) (by decide) (by decide)]
          exact ⟨rfl, rfl, rfl⟩
        · rw [pu_ne e, pu_ne e, pu_ne e]; exact hM.2.2 j (by omega)
  exact key N rf_fuel 0 M (by omega) (by unfold rf_fuel; omega) ⟨fun _ _ _ _ => rfl, rfl, fun j hj => by omega⟩
theorem bsR_e {E : chE} {m M M' : rf_m} {B : Option (List (Nat × Nat))} (h : bsR E m M B) (e6 : ∀ k, k = 105 ∨ k = 106 ∨ k = 107 → M'.1 206 k = M.1 206 k) (e : ∀ z, z = 275 ∨ z = 276 ∨ z = 277 → M'.1 z = M.1 z) : bsR E m M' B := by
  cases B with
  | none => show M'.1 206 105 = -1; rw [e6 105 (by omega)]; exact h
  | some q =>
    obtain ⟨h1, h2, h3, h4, h5⟩ := h
    refine ⟨by rw [e6 105 (by omega)]; exact h1, by rw [e6 106 (by omega), e6 107 (by omega)]; exact h2, h3, by rw [e 275 (by omega), e 276 (by omega), e 277 (by omega)]; exact h4, by rw [e6 106 (by omega), e6 107 (by omega)]; exact h5⟩
/-- from one path to a longer one -/
theorem rw_snoc {m M : rf_m} {p : List (Nat × Nat)} {t i : Nat} (r : rwR m (M.1 272) (M.1 273) (M.1 274) p) : rwR m (pu (M.1 272) p.length (Int32.ofNat t)) (pu (M.1 273) p.length (onV m t i)) (pu (M.1 274) p.length (otV m t i)) (p ++ [(t, i)]) := by
  intro j hj
  rw [List.length_append] at hj
  have hj : j < p.length + 1 := hj
  by_cases e : j = p.length
  · subst e
    rw [pu_at, pu_at, pu_at]
    have : (p ++ [(t, i)])[p.length] = (t, i) := by simp
    rw [this]
    exact ⟨rfl, rfl, rfl⟩
  · rw [pu_ne e, pu_ne e, pu_ne e]
    have : (p ++ [(t, i)])[j] = p[j]'(by omega) := List.getElem_append_left (by omega)
    rw [this]
    exact r j (by omega)
end PBChainD
