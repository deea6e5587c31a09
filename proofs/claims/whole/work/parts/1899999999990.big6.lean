/-! the class's whole numbers: one limb of a quotient -/
section PBBig6
def lvo (f : Nat → Int64) (p n : Nat) : Int := lv (fun i => f (p + i)) n
theorem lvo_s {f : Nat → Int64} {p n : Nat} : lvo f p (n + 1) = lvo f p n + (f (p + n)).toInt * pB n := rfl
theorem lvo_split {f : Nat → Int64} {p : Nat} : ∀ n, lv f (p + n) = lv f p + pB p * lvo f p n := by
  intro n
  induction n with
  | zero =>
    show lv f p = lv f p + pB p * 0
    omega
  | succ n ih =>
    show lv f (p + n) + (f (p + n)).toInt * pB (p + n) = _
    rw [ih, lvo_s, pB_add]
    generalize pB p = P
    grind
theorem lvo_lo {f : Nat → Int64} {p : Nat} : ∀ n, lvo f p (n + 1) = (f p).toInt + 1073741824 * lvo f (p + 1) n := by
  intro n
  induction n with
  | zero =>
    show 0 + (f (p + 0)).toInt * 1 = (f p).toInt + 1073741824 * 0
    rw [Nat.add_zero]
    omega
  | succ n ih =>
    rw [lvo_s, ih, lvo_s, show p + (n + 1) = p + 1 + n by omega]
    have : pB (n + 1) = pB n * 1073741824 := rfl
    rw [this]
    grind
theorem lvo_c {f g : Nat → Int64} {p n : Nat} (h : ∀ i, i < n → f (p + i) = g (p + i)) : lvo f p n = lvo g p n := lv_c n h
theorem addTimes_c {w : rf_w} {m : rf_m} {a b n p : Nat} {t : Int64} (ha : bC w a) (hb : bC w b) (ab : a ≠ b) (hp : p + n ≤ 10) (la : lmb (fun i => m.2 (a + 1) (p + i)) n) (lb : lmb (m.2 (b + 1)) n) (t1 : -1073741823 ≤ t.toInt) (t2 : t.toInt ≤ 1073741823) : ∃ cy m', g_X1_addTimes w m a b (Int32.ofNat n) (Int32.ofNat p) t = some (cy, m') ∧ m'.1 = m.1 ∧ (∀ z, z ≠ a + 1 → m'.2 z = m.2 z) ∧ (∀ k, k < p ∨ p + n ≤ k → m'.2 (a + 1) k = m.2 (a + 1) k) ∧ lmb (fun i => m'.2 (a + 1) (p + i)) n ∧ lvo (m'.2 (a + 1)) p n + cy.toInt * pB n = lvo (m.2 (a + 1)) p n + t.toInt * lv (m.2 (b + 1)) n ∧ -1073741824 ≤ cy.toInt ∧ cy.toInt ≤ 1073741824 := by
  obtain ⟨F, hF, hFb⟩ := fuel_ex
  have key : ∀ r f i (M : rf_m) (cy : Int64), i + r = n → r < f → M.1 = m.1 → (∀ z, z ≠ a + 1 → M.2 z = m.2 z) → (∀ k, k < p ∨ p + i ≤ k → M.2 (a + 1) k = m.2 (a + 1) k) → lmb (fun i => M.2 (a + 1) (p + i)) i → -1073741824 ≤ cy.toInt → cy.toInt ≤ 1073741824 → lvo (M.2 (a + 1)) p i + cy.toInt * pB i = lvo (m.2 (a + 1)) p i + t.toInt * lv (m.2 (b + 1)) i → ∃ cz m', g_X1_addTimes_6 w f a b (Int32.ofNat n) (Int32.ofNat p) t cy (Int32.ofNat i) M = some (cz, m') ∧ m'.1 = m.1 ∧ (∀ z, z ≠ a + 1 → m'.2 z = m.2 z) ∧ (∀ k, k < p ∨ p + n ≤ k → m'.2 (a + 1) k = m.2 (a + 1) k) ∧ lmb (fun i => m'.2 (a + 1) (p + i)) n ∧ lvo (m'.2 (a + 1)) p n + cz.toInt * pB n = lvo (m.2 (a + 1)) p n + t.toInt * lv (m.2 (b + 1)) n ∧ -1073741824 ≤ cz.toInt ∧ cz.toInt ≤ 1073741824 := by
    intro r
    induction r with
    | zero =>
      intro f i M cy hi hf e1 e2 e3 hl c0 c1 hv
      obtain ⟨f, rfl⟩ : ∃ g, f = g + 1 := ⟨f - 1, by omega⟩
      have e : i = n := by omega
      subst e
      refine ⟨cy, M, ?_, e1, e2, e3, hl, hv, c0, c1⟩
      show g_X1_addTimes_6_b w _ _ _ _ _ _ _ _ M = _
      unfold g_X1_addTimes_6_b
      rw [bC_g ha, bC_g hb, if_pos (Int32.le_refl _)]
    | succ r ih =>
      intro f i M cy hi hf e1 e2 e3 hl c0 c1 hv
      obtain ⟨f, rfl⟩ : ∃ g, f = g + 1 := ⟨f - 1, by omega⟩
      have gn : ¬ Int32.ofNat n ≤ Int32.ofNat i := nle (by omega) (by omega)
      have ra : 0 ≤ (m.2 (a + 1) (p + i)).toInt ∧ (m.2 (a + 1) (p + i)).toInt < 1073741824 := la i (by omega)
      have rb := lb i (by omega)
      have xi := e3 (p + i) (Or.inr (Nat.le_refl _))
      have eb : M.2 (b + 1) = m.2 (b + 1) := e2 (b + 1) (by omega)
      generalize hA : m.2 (a + 1) (p + i) = xa at *
      generalize hB : m.2 (b + 1) i = xb at *
      have mu : -(1073741823 * 1073741823) ≤ t.toInt * xb.toInt ∧ t.toInt * xb.toInt ≤ 1073741823 * 1073741823 := by
        have u1 : t.toInt * xb.toInt ≤ 1073741823 * xb.toInt := Int.mul_le_mul_of_nonneg_right t2 rb.1
        have u2 : (-1073741823) * xb.toInt ≤ t.toInt * xb.toInt := Int.mul_le_mul_of_nonneg_right t1 rb.1
        omega
      have m1 := mulL (a := t) (b := xb) (by omega) (by omega)
      have m2 := addL (a := xa) (b := t * xb) (by rw [m1]; omega) (by rw [m1]; omega)
      have m3 := addL (a := xa + t * xb) (b := cy) (by rw [m2, m1]; omega) (by rw [m2, m1]; omega)
      rw [m2, m1] at m3
      generalize hS : (xa + t * xb) + cy = S at *
      have sa := and30 (x := S)
      have ss := sar30 (x := S)
      have d := Int.emod_add_mul_ediv S.toInt 1073741824
      obtain ⟨cy', M', k1, k2⟩ := ih f (i + 1) (rf_l M (a + 1) (p + i) (S &&& 1073741823)) (S >>> (Int32.toInt64 30 &&& 63)) (by omega) (by omega) e1 (fun z hz => by rw [rf_l_c, if_neg hz]; exact e2 z hz) (fun k h => by rw [rf_l_c, if_pos rfl, pu_ne (by omega)]; exact e3 k (by omega)) (by
        rw [rf_l_c, if_pos rfl]
        refine lmb_s (fun q hq => ?_) ?_ ?_
        · have : (pu (M.2 (a + 1)) (p + i) (S &&& 1073741823)) (p + q) = M.2 (a + 1) (p + q) := pu_ne (by omega)
          show 0 ≤ ((pu (M.2 (a + 1)) (p + i) (S &&& 1073741823)) (p + q)).toInt ∧ _
          rw [this]
          exact hl q hq
        · show 0 ≤ ((pu (M.2 (a + 1)) (p + i) (S &&& 1073741823)) (p + i)).toInt
          rw [pu_at, sa]; omega
        · show ((pu (M.2 (a + 1)) (p + i) (S &&& 1073741823)) (p + i)).toInt < _
          rw [pu_at, sa]; omega) (by rw [ss]; omega) (by rw [ss]; omega) (by
        have pj : pB (i + 1) = pB i * 1073741824 := rfl
        rw [rf_l_c, if_pos rfl, lvo_s, lvo_s, lv_s, pu_at, lvo_c (g := M.2 (a + 1)) (p := p) (n := i) (fun q hq => pu_ne (f := M.2 (a + 1)) (k := p + i) (x := (S &&& 1073741823)) (by omega)), sa, ss, hA, hB, pj]
        generalize S.toInt % 1073741824 = R at *
        generalize S.toInt / 1073741824 = Q at *
        rw [← d] at m3
        generalize pB i = Pi at *
        generalize lvo (M.2 (a + 1)) p i = L1 at *
        generalize lvo (m.2 (a + 1)) p i = L2 at *
        generalize lv (m.2 (b + 1)) i = L3 at *
        grind)
      refine ⟨cy', M', ?_, k2⟩
      show g_X1_addTimes_6_b w (g_X1_addTimes_6 w f) _ _ _ _ _ _ _ M = _
      unfold g_X1_addTimes_6_b rf_vl
      have ad : Int32.ofNat p + Int32.ofNat i = Int32.ofNat (p + i) := (Int32.ofNat_add p i).symm
      rw [bC_g ha, bC_g hb, if_neg gn, ad, gof (n := p + i) (by omega) (by decide), g_t, gof (n := i) (by omega) (by decide), g_t]
      dsimp only
      rw [g_t, tn_of (n := p + i) (by omega), tn_of (n := i) (by omega), eb, xi, hB, hS, of_succ, k1]
  obtain ⟨cy, M', k1, k2⟩ := key n F 0 m 0 (by omega) (by omega) rfl (fun _ _ => rfl) (fun _ _ => rfl) (fun i hi => by omega) (by decide) (by decide) (by
    show (0 : Int) + 0 * 1 = 0 + t.toInt * 0
    omega)
  refine ⟨cy, M', ?_, k2⟩
  unfold g_X1_addTimes
  rw [bC_g ha, bC_g hb, hF]
  exact k1
/-- a guess of a limb: no less, and at most two more -/
theorem guess {U D P l u lo dl e : Int} (hP : 0 < P) (hU : U = u * P + lo) (lo0 : 0 ≤ lo) (lo1 : lo < P) (hD : D = l * P + dl) (d0 : 0 ≤ dl) (d1 : dl < P) (l0 : 536870912 ≤ l) (u0 : 0 ≤ u) (hUD : U < D * 1073741824) (he : e = if 1073741823 < u / l then 1073741823 else u / l) : 0 ≤ e ∧ e ≤ 1073741823 ∧ U - e * D < D ∧ 0 ≤ U - e * D + 2 * D := by
  have q0 : 0 ≤ u / l := Int.ediv_nonneg u0 (by omega)
  have dm := Int.emod_add_mul_ediv u l
  have r0 := Int.emod_nonneg u (show l ≠ 0 by omega)
  have r1 := Int.emod_lt_of_pos u (show 0 < l by omega)
  have e0 : 0 ≤ e ∧ e ≤ 1073741823 ∧ e ≤ u / l := by
    rw [he]; split
    · omega
    · omega
  have Dp : 0 < D := by
    have : 536870912 * P ≤ l * P := Int.mul_le_mul_of_nonneg_right l0 (by omega)
    omega
  refine ⟨e0.1, e0.2.1, ?_, ?_⟩
  · by_cases c : 1073741823 < u / l
    · rw [if_pos c] at he
      rw [he]
      have : D * 1073741824 = 1073741823 * D + D := by omega
      omega
    · rw [if_neg c] at he
      -- u < (e + 1) l
      have h1 : u + 1 ≤ (e + 1) * l := by
        have : (e + 1) * l = l * (u / l) + l := by rw [he]; grind
        omega
      have h2 := Int.mul_le_mul_of_nonneg_right h1 (show 0 ≤ P by omega)
      have h3 : (u + 1) * P = u * P + P := by grind
      have h4 : (e + 1) * l * P ≤ (e + 1) * D := by
        have : (e + 1) * D = (e + 1) * l * P + (e + 1) * dl := by rw [hD]; grind
        have := Int.mul_nonneg (show 0 ≤ e + 1 by omega) d0
        omega
      have h5 : (e + 1) * D = e * D + D := by grind
      omega
  · have h1 : e * l ≤ u := by
      have := Int.mul_le_mul_of_nonneg_right e0.2.2 (show 0 ≤ l by omega)
      have : u / l * l = l * (u / l) := Int.mul_comm _ _
      omega
    have h2 := Int.mul_le_mul_of_nonneg_right h1 (show 0 ≤ P by omega)
    have h3 : e * D = e * l * P + e * dl := by rw [hD]; grind
    have h4 : e * dl ≤ e * P := Int.mul_le_mul_of_nonneg_left (by omega) e0.1
    have h5 : e * P ≤ (2 * l) * P := Int.mul_le_mul_of_nonneg_right (by omega) (by omega)
    have h6 : (2 * l) * P = 2 * (l * P) := by grind
    omega
theorem takeOut_c {w : rf_w} {m : rf_m} {a b n p : Nat} (ha : bC w a) (hb : bC w b) (ab : a ≠ b) (hn : 0 < n) (hp : p + n ≤ 9) (la : lmb (fun i => m.2 (a + 1) (p + i)) (n + 1)) (lb : lmb (m.2 (b + 1)) n) (ld : 536870912 ≤ (m.2 (b + 1) (n - 1)).toInt) (hU : lvo (m.2 (a + 1)) p (n + 1) < lv (m.2 (b + 1)) n * 1073741824) : ∃ q m', g_X1_takeOut w m a b (Int32.ofNat n) (Int32.ofNat p) = some (q, m') ∧ 0 ≤ q.toInt ∧ q.toInt < 1073741824 ∧ m'.1 = m.1 ∧ (∀ z, z ≠ a + 1 → m'.2 z = m.2 z) ∧ (∀ k, k < p ∨ p + n < k → m'.2 (a + 1) k = m.2 (a + 1) k) ∧ lmb (fun i => m'.2 (a + 1) (p + i)) (n + 1) ∧ m'.2 (a + 1) (p + n) = 0 ∧ lvo (m'.2 (a + 1)) p n + q.toInt * lv (m.2 (b + 1)) n = lvo (m.2 (a + 1)) p (n + 1) ∧ lvo (m'.2 (a + 1)) p n < lv (m.2 (b + 1)) n := by
  obtain ⟨F, hF, hFb⟩ := fuel_ex
  obtain ⟨k, rfl⟩ : ∃ k, n = k + 1 := ⟨n - 1, by omega⟩
  rw [Nat.add_sub_cancel] at ld
  have pk := pB_pos k
  have pn := pB_pos (k + 1)
  have rD := lv_rng (k + 1) lb
  have rl := lv_rng k (lmb_le lb (show k ≤ k + 1 by omega))
  have lk := lb k (by omega)
  have eD : lv (m.2 (b + 1)) (k + 1) = (m.2 (b + 1) k).toInt * pB k + lv (m.2 (b + 1)) k := by rw [lv_s]; omega
  have ru : 0 ≤ (m.2 (a + 1) (p + (k + 1))).toInt ∧ (m.2 (a + 1) (p + (k + 1))).toInt < 1073741824 := la (k + 1) (by omega)
  have rv : 0 ≤ (m.2 (a + 1) (p + k)).toInt ∧ (m.2 (a + 1) (p + k)).toInt < 1073741824 := la k (by omega)
  have rw' : 0 ≤ lvo (m.2 (a + 1)) p k ∧ lvo (m.2 (a + 1)) p k < pB k := lv_rng k (lmb_le la (by omega))
  have eU : lvo (m.2 (a + 1)) p (k + 1 + 1) = ((m.2 (a + 1) (p + (k + 1))).toInt * 1073741824 + (m.2 (a + 1) (p + k)).toInt) * pB k + lvo (m.2 (a + 1)) p k := by
    have pj : pB (k + 1) = pB k * 1073741824 := rfl
    rw [lvo_s, lvo_s, pj]
    grind
  have p30 : (2 : Int) ^ 30 = 1073741824 := by decide
  have so := shlO (x := m.2 (a + 1) (p + (k + 1))) (y := m.2 (a + 1) (p + k)) (s := 30) (by decide) ru.1 rv.1 (by rw [p30]; exact rv.2) (by rw [p30]; omega)
  rw [p30] at so
  generalize hD : lv (m.2 (b + 1)) (k + 1) = D at *
  generalize hl : m.2 (b + 1) k = ll at *
  generalize hu : m.2 (a + 1) (p + (k + 1)) = u1 at *
  generalize hv : m.2 (a + 1) (p + k) = u0 at *
  generalize hUU : lvo (m.2 (a + 1)) p (k + 1 + 1) = U at *
  have so : ((u1 <<< (Int32.toInt64 30 &&& 63)) ||| u0).toInt = u1.toInt * 1073741824 + u0.toInt := so
  have dv := divL (a := (u1 <<< (Int32.toInt64 30 &&& 63)) ||| u0) (b := ll) (by omega)
  rw [tdiv_nn (by rw [so]; omega) (by omega), so] at dv
  -- the guess
  have zM : (1073741823 : Int64).toInt = 1073741823 := rfl
  have gs : ∃ e : Int64, g_minL w m 1073741823 (((u1 <<< (Int32.toInt64 30 &&& 63)) ||| u0) / ll) = some (e, m) ∧ e.toInt = if 1073741823 < (u1.toInt * 1073741824 + u0.toInt) / ll.toInt then 1073741823 else (u1.toInt * 1073741824 + u0.toInt) / ll.toInt := by
    unfold g_minL
    by_cases c : (0 : Int32) < lg_cmp 1073741823 (((u1 <<< (Int32.toInt64 30 &&& 63)) ||| u0) / ll)
    · have c' := cmp_pos.mp c
      rw [dv, zM] at c'
      rw [if_pos c]
      exact ⟨_, rfl, by rw [dv, if_neg (by omega)]⟩
    · have c' : ¬ (((u1 <<< (Int32.toInt64 30 &&& 63)) ||| u0) / ll).toInt < (1073741823 : Int64).toInt := fun z => c (cmp_pos.mpr z)
      rw [dv, zM] at c'
      rw [if_neg c]
      refine ⟨_, rfl, ?_⟩
      rw [zM]
      split
      · rfl
      · omega
  obtain ⟨e, ge1, ge2⟩ := gs
  obtain ⟨b0, b1, b2, b3⟩ := guess (P := pB k) pk eU rw'.1 rw'.2 eD rl.1 rl.2 ld (by omega) hU ge2
  have ng : (-e).toInt = - e.toInt := by rw [Int64.toInt_neg, bm64 (by omega) (by omega)]
  obtain ⟨cy, M1, t1, t2, t3, t4, t5, t6, t7, t8⟩ := addTimes_c (w := w) (m := m) (t := -e) (p := p) (n := k + 1) ha hb ab (by omega) (lmb_le la (by omega)) lb (by rw [ng]; omega) (by rw [ng]; omega)
  have l1U : lvo (m.2 (a + 1)) p (k + 1) + u1.toInt * pB (k + 1) = U := by rw [← hUU, lvo_s (n := k + 1), hu]
  rw [hD, ng] at t6
  -- the two steps back
  have key : ∀ (r f cn : Nat) (gq tp : Int64) (M : rf_m), cn + r = 2 → r < f → M.1 = m.1 → (∀ z, z ≠ a + 1 → M.2 z = m.2 z) → (∀ k', k' < p ∨ p + (k + 1) ≤ k' → M.2 (a + 1) k' = m.2 (a + 1) k') → lmb (fun i => M.2 (a + 1) (p + i)) (k + 1) → tp.toInt * pB (k + 1) + lvo (M.2 (a + 1)) p (k + 1) + gq.toInt * D = U → tp.toInt * pB (k + 1) + lvo (M.2 (a + 1)) p (k + 1) < D → 0 ≤ tp.toInt * pB (k + 1) + lvo (M.2 (a + 1)) p (k + 1) + (r : Int) * D → (gq.toInt ≤ 1073741823 ∧ -(cn : Int) ≤ gq.toInt) → (-5000000000 * (cn + 1 : Int) ≤ tp.toInt ∧ tp.toInt ≤ 5000000000 * (cn + 1 : Int)) → ∃ q m', g_X1_takeOut_84 w f a b (Int32.ofNat (k + 1)) (Int32.ofNat p) gq tp (Int32.ofNat cn) M = some (q, m') ∧ q.toInt ≤ 1073741823 ∧ m'.1 = m.1 ∧ (∀ z, z ≠ a + 1 → m'.2 z = m.2 z) ∧ (∀ k', k' < p ∨ p + (k + 1) < k' → m'.2 (a + 1) k' = m.2 (a + 1) k') ∧ lmb (fun i => m'.2 (a + 1) (p + i)) (k + 1 + 1) ∧ m'.2 (a + 1) (p + (k + 1)) = 0 ∧ lvo (m'.2 (a + 1)) p (k + 1) + q.toInt * D = U ∧ lvo (m'.2 (a + 1)) p (k + 1) < D := by
    have exit_ : ∀ (gq tp : Int64) (M : rf_m), M.1 = m.1 → (∀ z, z ≠ a + 1 → M.2 z = m.2 z) → (∀ k', k' < p ∨ p + (k + 1) ≤ k' → M.2 (a + 1) k' = m.2 (a + 1) k') → lmb (fun i => M.2 (a + 1) (p + i)) (k + 1) → tp.toInt * pB (k + 1) + lvo (M.2 (a + 1)) p (k + 1) + gq.toInt * D = U → tp.toInt * pB (k + 1) + lvo (M.2 (a + 1)) p (k + 1) < D → 0 ≤ tp.toInt * pB (k + 1) + lvo (M.2 (a + 1)) p (k + 1) → gq.toInt ≤ 1073741823 → ∃ q m', some (gq, rf_l M (a + 1) (p + (k + 1)) tp) = some (q, m') ∧ q.toInt ≤ 1073741823 ∧ m'.1 = m.1 ∧ (∀ z, z ≠ a + 1 → m'.2 z = m.2 z) ∧ (∀ k', k' < p ∨ p + (k + 1) < k' → m'.2 (a + 1) k' = m.2 (a + 1) k') ∧ lmb (fun i => m'.2 (a + 1) (p + i)) (k + 1 + 1) ∧ m'.2 (a + 1) (p + (k + 1)) = 0 ∧ lvo (m'.2 (a + 1)) p (k + 1) + q.toInt * D = U ∧ lvo (m'.2 (a + 1)) p (k + 1) < D := by
      intro gq tp M e1 e2 e3 hl' hv1 hv2 hv3 hq
      have rr : 0 ≤ lvo (M.2 (a + 1)) p (k + 1) ∧ lvo (M.2 (a + 1)) p (k + 1) < pB (k + 1) := lv_rng (k + 1) hl'
      have t0 : tp.toInt = 0 := by
        have c1 : ¬ 1 ≤ tp.toInt := fun z => by
          have := Int.mul_le_mul_of_nonneg_right z (show 0 ≤ pB (k + 1) by omega)
          omega
        have c2 : ¬ tp.toInt ≤ -1 := fun z => by
          have := Int.mul_le_mul_of_nonneg_right z (show 0 ≤ pB (k + 1) by omega)
          omega
        omega
      have tz : tp = 0 := l_eq.mpr t0
      rw [t0, Int.zero_mul, Int.zero_add] at hv1 hv2
      have sm' : lvo (pu (M.2 (a + 1)) (p + (k + 1)) tp) p (k + 1) = lvo (M.2 (a + 1)) p (k + 1) := lvo_c (fun i hi => pu_ne (by omega))
      refine ⟨gq, _, rfl, hq, e1, fun z hz => by rw [rf_l_c, if_neg hz]; exact e2 z hz, fun k' hk => by rw [rf_l_c, if_pos rfl, pu_ne (by omega)]; exact e3 k' (by omega), ?_, by rw [rf_l_c, if_pos rfl, pu_at, tz], by rw [rf_l_c, if_pos rfl, sm']; exact hv1, by rw [rf_l_c, if_pos rfl, sm']; exact hv2⟩
      rw [rf_l_c, if_pos rfl]
      refine lmb_s (fun q hq => ?_) ?_ ?_
      · have : (pu (M.2 (a + 1)) (p + (k + 1)) tp) (p + q) = M.2 (a + 1) (p + q) := pu_ne (by omega)
        show 0 ≤ ((pu (M.2 (a + 1)) (p + (k + 1)) tp) (p + q)).toInt ∧ _
        rw [this]
        exact hl' q hq
      · show 0 ≤ ((pu (M.2 (a + 1)) (p + (k + 1)) tp) (p + (k + 1))).toInt
        rw [pu_at]; omega
      · show ((pu (M.2 (a + 1)) (p + (k + 1)) tp) (p + (k + 1))).toInt < _
        rw [pu_at]; omega
    have ad : Int32.ofNat p + Int32.ofNat (k + 1) = Int32.ofNat (p + (k + 1)) := (Int32.ofNat_add p (k + 1)).symm
    have gi : rf_in (Int32.ofNat (p + (k + 1))) 10 = true := gof (n := p + (k + 1)) (by omega) (by decide)
    have ti : (Int32.ofNat (p + (k + 1))).toNatClampNeg = p + (k + 1) := tn_of (by omega)
    intro r
    induction r with
    | zero =>
      intro f cn gq tp M hc hf e1 e2 e3 hl' hv1 hv2 hv3 hq ht
      obtain ⟨f, rfl⟩ : ∃ g, f = g + 1 := ⟨f - 1, by omega⟩
      have e : cn = 2 := by omega
      subst e
      show ∃ q m', g_X1_takeOut_84_b w _ _ _ _ _ _ _ _ M = _ ∧ _
      unfold g_X1_takeOut_84_b
      have c2 : (2 : Int32) ≤ Int32.ofNat 2 := by decide
      rw [bC_g ha, bC_g hb, if_pos c2, ad, gi, g_t, ti]
      exact exit_ gq tp M e1 e2 e3 hl' hv1 hv2 (by rw [show ((0 : Nat) : Int) = 0 from rfl, Int.zero_mul, Int.add_zero] at hv3; exact hv3) hq.1
    | succ r ih =>
      intro f cn gq tp M hc hf e1 e2 e3 hl' hv1 hv2 hv3 hq ht
      obtain ⟨f, rfl⟩ : ∃ g, f = g + 1 := ⟨f - 1, by omega⟩
      have rr : 0 ≤ lvo (M.2 (a + 1)) p (k + 1) ∧ lvo (M.2 (a + 1)) p (k + 1) < pB (k + 1) := lv_rng (k + 1) hl'
      show ∃ q m', g_X1_takeOut_84_b w (g_X1_takeOut_84 w f) _ _ _ _ _ _ _ M = _ ∧ _
      unfold g_X1_takeOut_84_b
      have c2 : ¬ (2 : Int32) ≤ Int32.ofNat cn := nle (R := 2) (by omega) (by decide)
      rw [bC_g ha, bC_g hb, if_neg c2, ad, gi, g_t, ti]
      by_cases c : (0 : Int32) ≤ lg_cmp tp 0
      · have c' := cmp_nn.mp c
        rw [l_0] at c'
        rw [if_pos c]
        have := Int.mul_nonneg c' (show 0 ≤ pB (k + 1) by omega)
        exact exit_ gq tp M e1 e2 e3 hl' hv1 hv2 (by omega) hq.1
      · have c' : tp.toInt < 0 := by
          have : ¬ (0 : Int64).toInt ≤ tp.toInt := fun z => c (cmp_nn.mpr z)
          rw [l_0] at this
          omega
        rw [if_neg c]
        have eb : M.2 (b + 1) = m.2 (b + 1) := e2 (b + 1) (by omega)
        have z1 : (1 : Int64).toInt = 1 := rfl
        obtain ⟨cy', M2, s1, s2, s3, s4, s5, s6, s7, s8⟩ := addTimes_c (w := w) (m := M) (t := 1) (p := p) (n := k + 1) ha hb ab (by omega) hl' (by rw [eb]; exact lb) (by decide) (by decide)
        rw [eb, hD, z1, Int.one_mul] at s6
        have ngv : tp.toInt * pB (k + 1) + lvo (M.2 (a + 1)) p (k + 1) < 0 := by
          have := Int.mul_le_mul_of_nonneg_right (show tp.toInt ≤ -1 by omega) (show 0 ≤ pB (k + 1) by omega)
          omega
        have at1 := addL (a := tp) (b := cy') (by omega) (by omega)
        have at2 := subL (a := gq) (b := 1) (by rw [z1]; omega) (by rw [z1]; omega)
        have vv : (tp + cy').toInt * pB (k + 1) + lvo (M2.2 (a + 1)) p (k + 1) = tp.toInt * pB (k + 1) + lvo (M.2 (a + 1)) p (k + 1) + D := by
          rw [at1]; grind
        have gd : (gq - 1).toInt * D = gq.toInt * D - D := by rw [at2, z1]; grind
        have rs : ((r + 1 : Nat) : Int) * D = (r : Int) * D + D := by rw [Int.natCast_add]; grind
        rw [rs] at hv3
        rw [s1, b_sm, of_succ]
        exact ih f (cn + 1) (gq - 1) (tp + cy') M2 (by omega) (by omega) (by rw [s2]; exact e1) (fun z hz => by rw [s3 z hz]; exact e2 z hz) (fun k' hk => by rw [s4 k' hk]; exact e3 k' hk) s5 (by rw [vv, gd]; omega) (by rw [vv]; omega) (by rw [vv]; omega) (by rw [at2, z1]; omega) (by rw [at1]; omega)
  have fin := key 2 F 0 e (u1 + cy) M1 (by omega) (by omega) t2 t3 t4 t5
  have au := addL (a := u1) (b := cy) (by omega) (by omega)
  have vv : (u1 + cy).toInt * pB (k + 1) + lvo (M1.2 (a + 1)) p (k + 1) = U - e.toInt * D := by rw [au]; grind
  obtain ⟨q, m', f1, f2, f3, f4, f5, f6, f7, f8, f9⟩ := fin (by rw [vv]; omega) (by rw [vv]; exact b2) (by rw [vv]; exact b3) (by omega) (by rw [au]; omega)
  have q0 : 0 ≤ q.toInt := by
    have rr : 0 ≤ lvo (m'.2 (a + 1)) p (k + 1) := (lv_rng (k + 1) (lmb_le f6 (by omega))).1
    have U0 : 0 ≤ U := by rw [← hUU]; exact (lv_rng _ la).1
    refine Classical.byContradiction fun z => ?_
    have := Int.mul_le_mul_of_nonneg_right (show q.toInt ≤ -1 by omega) (show 0 ≤ D by omega)
    omega
  refine ⟨q, m', ?_, q0, by omega, f3, f4, f5, f6, f7, f8, f9⟩
  unfold g_X1_takeOut rf_vl
  have ad : Int32.ofNat p + Int32.ofNat (k + 1) = Int32.ofNat (p + (k + 1)) := (Int32.ofNat_add p (k + 1)).symm
  have ad2 : Int32.ofNat (p + (k + 1)) - 1 = Int32.ofNat (p + k) := by rw [show p + (k + 1) = (p + k) + 1 by omega, ofm1']
  have gi : rf_in (Int32.ofNat (p + (k + 1))) 10 = true := gof (n := p + (k + 1)) (by omega) (by decide)
  have ti : (Int32.ofNat (p + (k + 1))).toNatClampNeg = p + (k + 1) := tn_of (by omega)
  have nz : ¬ lg_cmp ll 0 = 0 := fun z => by
    have := l_eq.mp (cmp_eq0.mp z)
    rw [l_0] at this
    omega
  have l10 : Int32.ofNat (p + (k + 1)) < 10 := (of_lt (b := 10) (by omega) (by omega)).mpr (by omega)
  have z0 : Int32.ofNat 0 = 0 := rfl
  rw [z0] at f1
  have nzl : rf_nzl ll = true := nzl_of (by omega)
  rw [bC_g ha, bC_g hb, ofm1', gof (n := k) (by omega) (by decide), g_t]
  dsimp only
  rw [tn_of (n := k) (by omega), hl, if_neg nz, ad, if_pos l10, gi, g_t, ad2, gof (n := p + k) (by omega) (by decide), g_t, nzl, g_t, ti, tn_of (n := p + k) (by omega), hu, hv, ge1, b_sm, g_t, t1, b_sm, hu, hF, f1]
end PBBig6
