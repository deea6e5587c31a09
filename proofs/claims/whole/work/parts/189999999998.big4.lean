/-! the class's whole numbers: sums -/
section PBBig4
/-- the limbs below n, 0 behind -/
def lex (f : Nat → Int64) (n : Nat) : Nat → Int64 := fun i => if i < n then f i else 0
theorem lex_lt {f : Nat → Int64} {n i : Nat} (h : i < n) : lex f n i = f i := if_pos h
theorem lex_ge {f : Nat → Int64} {n i : Nat} (h : ¬ i < n) : lex f n i = 0 := if_neg h
theorem lex_lv {f : Nat → Int64} {n : Nat} : ∀ N, n ≤ N → lv (lex f n) N = lv f n := by
  intro N h
  obtain ⟨k, rfl⟩ : ∃ k, N = n + k := ⟨N - n, by omega⟩
  clear h
  induction k with
  | zero => exact lv_c n (fun i hi => lex_lt hi)
  | succ k ih =>
    show lv (lex f n) (n + k) + (lex f n (n + k)).toInt * pB (n + k) = _
    rw [ih, lex_ge (by omega)]
    show _ + 0 * _ = _
    omega
theorem lex_lmb {f : Nat → Int64} {n : Nat} (h : lmb f n) (N : Nat) : lmb (lex f n) N := fun i _ => by
  by_cases q : i < n
  · rw [lex_lt q]; exact h i q
  · rw [lex_ge q]; exact ⟨by decide, by decide⟩
theorem addSize_c {w : rf_w} {m : rf_m} {a b : Nat} {x y : Int} (ha : bC w a) (hb : bC w b) (ab : a ≠ b) (hx : bg m a x) (hy : bg m b y) (bx : mg x < pB 9) (bY : mg y < pB 9) : ∃ m', g_X1_addSize w m a b = some m' ∧ bF a m m' ∧ bg m' a (if x < 0 then - (mg x + mg y) else mg x + mg y) := by
  obtain ⟨F, hF, hFb⟩ := fuel_ex
  obtain ⟨na, sa, ma, ga⟩ := bg_mg hx
  obtain ⟨nb, sb, mb, gb⟩ := bg_mg hy
  have a9 := bgs_le sa (by rw [← ma]; exact bx)
  have b9 := bgs_le sb (by rw [← mb]; exact bY)
  have s01 : m.1 a 1 = 0 ∨ m.1 a 1 = 1 := by rcases ga with ⟨q, _⟩ | ⟨q, _⟩; exact Or.inl q; exact Or.inr q
  generalize hN : (if na < nb then nb else na) = N
  have hN1 : na ≤ N ∧ nb ≤ N ∧ N ≤ 9 := by rw [← hN]; split <;> omega
  have mx : (if Int32.ofNat na < Int32.ofNat nb then Int32.ofNat nb else Int32.ofNat na) = Int32.ofNat N := by
    by_cases q : na < nb
    · rw [if_pos q] at hN
      rw [if_pos ((of_lt (by omega) (by omega)).mpr q), hN]
    · rw [if_neg q] at hN
      rw [if_neg (fun z => q ((of_lt (by omega) (by omega)).mp z)), hN]
  have key : ∀ r f i (M : rf_m) (cy : Int64), i + r = N → r < f → bF a m M → M.1 a = m.1 a → lmb (M.2 (a + 1)) i → (∀ k, i ≤ k → M.2 (a + 1) k = m.2 (a + 1) k) → 0 ≤ cy.toInt → cy.toInt ≤ 1 → lv (M.2 (a + 1)) i + cy.toInt * pB i = lv (lex (m.2 (a + 1)) na) i + lv (lex (m.2 (b + 1)) nb) i → ∃ M', g_X1_addSize_18 w f a b cy (Int32.ofNat N) (Int32.ofNat i) M = some M' ∧ bF a m M' ∧ bg M' a (if x < 0 then - (mg x + mg y) else mg x + mg y) := by
    intro r
    induction r with
    | zero =>
      intro f i M cy hi hf fM h1 hl hk c0 c1 hv
      obtain ⟨f, rfl⟩ : ∃ g, f = g + 1 := ⟨f - 1, by omega⟩
      have e : i = N := by omega
      subst e
      rw [lex_lv i hN1.1, lex_lv i hN1.2.1, ← ma, ← mb] at hv
      obtain ⟨M', k1, k2, k3⟩ := settle_c (m := rf_l M (a + 1) i cy) (k := i + 1) (N := i + 1) ha s01 (by omega) (by rw [if_pos (by omega)]) (by
        rw [rf_l_c, if_pos rfl]
        refine lmb_s (lmb_pu hl c0 (by omega)) ?_ ?_
        · rw [pu_at]; exact c0
        · rw [pu_at]; omega)
      refine ⟨M', ?_, bF_trans fM (bF_trans bF_l (bF1_F k2)), ?_⟩
      · show g_X1_addSize_18_b w _ _ _ _ _ _ M = _
        unfold g_X1_addSize_18_b
        have g10 : ¬ (10 : Int32) ≤ Int32.ofNat i := nle (R := 10) (by omega) (by decide)
        have e1 : (rf_l M (a + 1) i cy).1 a 1 = m.1 a 1 := by rw [rf_l_i, h1]
        rw [bC_g ha, bC_g hb, if_pos (Int32.le_refl _), if_neg g10, gof (n := i) (by omega) (by decide), g_t, tn_of (n := i) (by omega), e1, of_succ, k1, bv_sm]
      · rw [rf_l_c, if_pos rfl, lv_s, pu_at, lv_c i (fun q hq => pu_ne (f := M.2 (a + 1)) (k := i) (x := cy) (by omega)), hv] at k3
        rcases ga with ⟨g1, g2⟩ | ⟨g1, g2⟩
        · rw [if_pos g1] at k3
          rw [if_neg (by omega)]; exact k3
        · rw [if_neg (by rw [g1]; decide)] at k3
          rw [if_pos g2]; exact k3
    | succ r ih =>
      intro f i M cy hi hf fM h1 hl hk c0 c1 hv
      obtain ⟨f, rfl⟩ : ∃ g, f = g + 1 := ⟨f - 1, by omega⟩
      have ea : M.1 a 0 = Int32.ofNat na := by rw [h1]; exact sa.2.1
      have eb : M.1 b 0 = Int32.ofNat nb := by rw [fM.1 b (Ne.symm ab)]; exact sb.2.1
      have gn : ¬ Int32.ofNat N ≤ Int32.ofNat i := nle (by omega) (by omega)
      have la := lex_lmb sa.2.2.1 10 i (by omega)
      have lb := lex_lmb sb.2.2.1 10 i (by omega)
      generalize hA : lex (m.2 (a + 1)) na i = xa at *
      generalize hB : lex (m.2 (b + 1)) nb i = xb at *
      have m2 := addL (a := xa) (b := xb) (by omega) (by omega)
      have m3 := addL (a := xa + xb) (b := cy) (by rw [m2]; omega) (by rw [m2]; omega)
      rw [m2] at m3
      generalize hS : (xa + xb) + cy = S at *
      have sad := and30 (x := S)
      have ss := sar30 (x := S)
      have d := Int.emod_add_mul_ediv S.toInt 1073741824
      obtain ⟨M', k1, k2, k3⟩ := ih f (i + 1) (rf_l M (a + 1) i (S &&& 1073741823)) (S >>> (Int32.toInt64 30 &&& 63)) (by omega) (by omega) (bF_trans fM bF_l) h1 (by
        rw [rf_l_c, if_pos rfl]
        refine lmb_s (lmb_pu hl (by rw [sad]; omega) (by rw [sad]; omega)) ?_ ?_
        · rw [pu_at, sad]; omega
        · rw [pu_at, sad]; omega) (fun k h => by rw [rf_l_c, if_pos rfl, pu_ne (by omega)]; exact hk k (by omega)) (by rw [ss]; omega) (by rw [ss]; omega) (by
        have pj : pB (i + 1) = pB i * 1073741824 := rfl
        rw [rf_l_c, if_pos rfl, lv_s, lv_s, lv_s, pu_at, lv_c i (fun q hq => pu_ne (f := M.2 (a + 1)) (k := i) (x := (S &&& 1073741823)) (by omega)), sad, ss, hA, hB, pj]
        generalize S.toInt % 1073741824 = R at *
        generalize S.toInt / 1073741824 = Q at *
        rw [← d] at m3
        grind)
      refine ⟨M', ?_, k2, k3⟩
      show g_X1_addSize_18_b w (g_X1_addSize_18 w f) _ _ _ _ _ M = _
      unfold g_X1_addSize_18_b g_X1_addSize_45 g_X1_addSize_65 rf_vl
      have gi : rf_in (Int32.ofNat i) 10 = true := gof (n := i) (by omega) (by decide)
      have ti : (Int32.ofNat i).toNatClampNeg = i := tn_of (by omega)
      have fin : ∀ xa' xb' : Int64, xa' = xa → xb' = xb → (fun x7 => g_X1_addSize_18 w f a b x7 (Int32.ofNat N) (Int32.ofNat (i + 1)) (rf_l M (a + 1) i (((xa' + xb') + cy) &&& 1073741823))) (((xa' + xb') + cy) >>> (Int32.toInt64 30 &&& 63)) = some M' := fun xa' xb' h1 h2 => by
        rw [h1, h2, hS]; exact k1
      rw [bC_g ha, bC_g hb, if_neg gn, ea, eb, gi, g_t, bC_g ha, bC_g hb, bC_g ha, bC_g hb, g_t, bC_g ha, bC_g hb, g_t, g_t, g_t, of_succ, ti]
      by_cases qa : i < na
      · rw [if_neg (nle qa (by omega))]
        have xa1 : M.2 (a + 1) i = xa := by rw [hk i (Nat.le_refl _), ← hA, lex_lt qa]
        by_cases qb : i < nb
        · rw [if_neg (nle qb (by omega))]
          (try simp only [bC_g ha, bC_g hb])
          exact fin _ _ xa1 (by rw [fM.2 (b + 1) (by omega), ← hB, lex_lt qb])
        · rw [if_pos ((of_le (by omega) (by omega)).mpr (by omega))]
          (try simp only [bC_g ha, bC_g hb])
          exact fin _ _ xa1 (by rw [← hB, lex_ge qb])
      · rw [if_pos ((of_le (by omega) (by omega)).mpr (by omega))]
        have xa1 : (0 : Int64) = xa := by rw [← hA, lex_ge qa]
        by_cases qb : i < nb
        · rw [if_neg (nle qb (by omega))]
          (try simp only [bC_g ha, bC_g hb])
          exact fin _ _ xa1 (by rw [fM.2 (b + 1) (by omega), ← hB, lex_lt qb])
        · rw [if_pos ((of_le (by omega) (by omega)).mpr (by omega))]
          (try simp only [bC_g ha, bC_g hb])
          exact fin _ _ xa1 (by rw [← hB, lex_ge qb])
  obtain ⟨M', k1, k2, k3⟩ := key N F 0 m 0 (by omega) (by omega) bF_refl rfl (fun i hi => by omega) (fun _ _ => rfl) (by decide) (by decide) rfl
  refine ⟨M', ?_, k2, k3⟩
  unfold g_X1_addSize
  rw [bC_g ha, bC_g hb, max_eq, b_sm, sa.2.1, sb.2.1, mx, hF]
  exact k1
/-- which is more, without sign -/
theorem compareSize_c {w : rf_w} {m : rf_m} {a b : Nat} {x y : Int} (ha : bC w a) (hb : bC w b) (hx : bg m a x) (hy : bg m b y) : ∃ v, g_X1_compareSize w m a b = some (v, m) ∧ (v < 0 ↔ mg x < mg y) := by
  obtain ⟨F, hF, hFb⟩ := fuel_ex
  obtain ⟨na, sa, ma, ga⟩ := bg_mg hx
  obtain ⟨nb, sb, mb, gb⟩ := bg_mg hy
  have a10 := sa.1
  have b10 := sb.1
  rw [ma, mb]
  unfold g_X1_compareSize
  rw [bC_g ha, bC_g hb, sa.2.1, sb.2.1]
  by_cases e : na = nb
  · subst e
    rw [if_pos rfl]
    have key : ∀ i f, i ≤ na → i < f → (∀ k, i ≤ k → k < na → m.2 (a + 1) k = m.2 (b + 1) k) → ∃ v, g_X1_compareSize_28 w f a b (Int32.ofNat i - 1) m = some (v, m) ∧ (v < 0 ↔ lv (m.2 (a + 1)) i < lv (m.2 (b + 1)) i) := by
      intro i
      induction i with
      | zero =>
        intro f _ hf _
        obtain ⟨f, rfl⟩ : ∃ g, f = g + 1 := ⟨f - 1, by omega⟩
        refine ⟨0, ?_, ⟨fun z => absurd z (by decide), fun z => absurd z (Int.lt_irrefl _)⟩⟩
        show g_X1_compareSize_28_b w _ _ _ _ m = _
        unfold g_X1_compareSize_28_b
        have l0 : Int32.ofNat 0 - 1 < 0 := by decide
        rw [bC_g ha, bC_g hb, if_pos l0]
      | succ i ih =>
        intro f hi hf hk
        obtain ⟨f, rfl⟩ : ∃ g, f = g + 1 := ⟨f - 1, by omega⟩
        have l0 : ¬ Int32.ofNat i < 0 := fun z => by rw [i_lt, i_0, ofI (by omega)] at z; omega
        have gi : rf_in (Int32.ofNat i) 10 = true := gof (n := i) (by omega) (by decide)
        have ti : (Int32.ofNat i).toNatClampNeg = i := tn_of (by omega)
        have em : Int32.ofNat i + (-1) = Int32.ofNat i - 1 := by grind
        show ∃ v, g_X1_compareSize_28_b w (g_X1_compareSize_28 w f) _ _ _ m = _ ∧ _
        unfold g_X1_compareSize_28_b
        rw [bC_g ha, bC_g hb, ofm1', if_neg l0, gi, g_t, g_t, ti, g_t, g_t, em]
        by_cases q : m.2 (a + 1) i = m.2 (b + 1) i
        · rw [if_pos (cmp_eq0.mpr q)]
          obtain ⟨v, v1, v2⟩ := ih f (by omega) (by omega) (fun k h1 h2 => by
            by_cases e : k = i
            · rw [e]; exact q
            · exact hk k (by omega) h2)
          refine ⟨v, v1, ?_⟩
          rw [v2, lv_s, lv_s, q]
          omega
        · rw [if_neg (fun z => q (cmp_eq0.mp z))]
          have ra := lv_rng i (lmb_le sa.2.2.1 (show i ≤ na by omega))
          have rb := lv_rng i (lmb_le sb.2.2.1 (show i ≤ na by omega))
          have pp := pB_pos i
          rw [lv_s, lv_s]
          by_cases c : (0 : Int32) ≤ lg_cmp (m.2 (a + 1) i) (m.2 (b + 1) i)
          · have c' := cmp_nn.mp c
            have ne : (m.2 (a + 1) i).toInt ≠ (m.2 (b + 1) i).toInt := fun z => q (l_eq.mpr z)
            have u : ((m.2 (b + 1) i).toInt + 1) * pB i ≤ (m.2 (a + 1) i).toInt * pB i := Int.mul_le_mul_of_nonneg_right (by omega) (by omega)
            have u2 : ((m.2 (b + 1) i).toInt + 1) * pB i = (m.2 (b + 1) i).toInt * pB i + pB i := by grind
            rw [if_pos c]
            exact ⟨1, rfl, ⟨fun z => absurd z (by decide), fun z => by omega⟩⟩
          · have c' : ¬ (m.2 (b + 1) i).toInt ≤ (m.2 (a + 1) i).toInt := fun z => c (cmp_nn.mpr z)
            have u : ((m.2 (a + 1) i).toInt + 1) * pB i ≤ (m.2 (b + 1) i).toInt * pB i := Int.mul_le_mul_of_nonneg_right (by omega) (by omega)
            have u2 : ((m.2 (a + 1) i).toInt + 1) * pB i = (m.2 (a + 1) i).toInt * pB i + pB i := by grind
            rw [if_neg c]
            exact ⟨-1, rfl, ⟨fun _ => by omega, fun _ => by decide⟩⟩
    rw [hF]
    exact key na F (Nat.le_refl _) (by omega) (fun k h1 h2 => by omega)
  · have e' : ¬ Int32.ofNat na = Int32.ofNat nb := fun z => e ((of_inj (by omega) (by omega)).mp z)
    rw [if_neg e']
    refine ⟨_, rfl, ?_⟩
    have sI := subI (a := Int32.ofNat na) (b := Int32.ofNat nb) (by rw [ofI (by omega), ofI (by omega)]; omega) (by rw [ofI (by omega), ofI (by omega)]; omega)
    rw [ofI (by omega), ofI (by omega)] at sI
    rw [i_lt, sI, i_0]
    have ra := bgs_rng sa
    have rb := bgs_rng sb
    constructor
    · intro h
      obtain ⟨k, rfl⟩ : ∃ k, nb = k + 1 := ⟨nb - 1, by omega⟩
      have := rb.2.2 k rfl
      have := pB_le (a := na) (b := k) (by omega)
      omega
    · intro h
      refine Classical.byContradiction fun q => ?_
      obtain ⟨k, rfl⟩ : ∃ k, na = k + 1 := ⟨na - 1, by omega⟩
      have := ra.2.2 k rfl
      have := pB_le (a := nb) (b := k) (by omega)
      omega
/-- the more less the less, laid into a, which may be one of both -/
theorem setDiff_c {w : rf_w} {m : rf_m} {a b c : Nat} {x y : Int} {s : Int32} (ha : bC w a) (hb : bC w b) (hc : bC w c) (hs : s = 0 ∨ s = 1) (hx : bg m b x) (hy : bg m c y) (hxy : mg y ≤ mg x) (ab : a = b ∨ a ≠ b) : ∃ m', g_X1_setDifference w m a b c s = some m' ∧ bF a m m' ∧ bg m' a (if s = 0 then mg x - mg y else - (mg x - mg y)) := by
  obtain ⟨F, hF, hFb⟩ := fuel_ex
  obtain ⟨nb, sb, mb, gb⟩ := bg_mg hx
  obtain ⟨nc, sc, mc, gc⟩ := bg_mg hy
  have b10 := sb.1
  have c10 := sc.1
  have cb : nc ≤ nb := bgs_le sc (by have := (bgs_rng sb).2.1; omega)
  have key : ∀ r f i (M : rf_m) (cy : Int64), i + r = nb → r < f → bF a m M → M.1 = m.1 → lmb (M.2 (a + 1)) i → (∀ k, i ≤ k → M.2 (a + 1) k = m.2 (a + 1) k) → (cy.toInt = 0 ∨ cy.toInt = -1) → lv (M.2 (a + 1)) i + cy.toInt * pB i = lv (m.2 (b + 1)) i - lv (lex (m.2 (c + 1)) nc) i → ∃ M', g_X1_setDifference_12 w f a b c s cy (Int32.ofNat nb) (Int32.ofNat i) M = some M' ∧ bF a m M' ∧ bg M' a (if s = 0 then mg x - mg y else - (mg x - mg y)) := by
    intro r
    induction r with
    | zero =>
      intro f i M cy hi hf fM h1 hl hk hcy hv
      obtain ⟨f, rfl⟩ : ∃ g, f = g + 1 := ⟨f - 1, by omega⟩
      have e : i = nb := by omega
      subst e
      rw [lex_lv i cb, ← mb, ← mc] at hv
      have rr := lv_rng i hl
      have c0 : cy.toInt = 0 := by
        rcases hcy with q | q
        · exact q
        · rw [q] at hv; omega
      rw [c0, Int.zero_mul, Int.add_zero] at hv
      obtain ⟨M', k1, k2, k3⟩ := settle_c (k := i) (N := i) ha hs (by omega) (by rw [if_pos (by omega)]) hl
      rw [hv] at k3
      refine ⟨M', ?_, bF_trans fM (bF1_F k2), k3⟩
      show g_X1_setDifference_12_b w _ _ _ _ _ _ _ _ M = _
      unfold g_X1_setDifference_12_b
      rw [bC_g ha, bC_g hb, bC_g hc, if_pos (Int32.le_refl _), k1, bv_sm]
    | succ r ih =>
      intro f i M cy hi hf fM h1 hl hk hcy hv
      obtain ⟨f, rfl⟩ : ∃ g, f = g + 1 := ⟨f - 1, by omega⟩
      have ec : M.1 c 0 = Int32.ofNat nc := by rw [h1]; exact sc.2.1
      have gn : ¬ Int32.ofNat nb ≤ Int32.ofNat i := nle (by omega) (by omega)
      have rd : ∀ z, M.2 (z + 1) i = m.2 (z + 1) i := fun z => by
        by_cases q : z = a
        · rw [q]; exact hk i (Nat.le_refl _)
        · rw [fM.2 (z + 1) (by omega)]
      have la := sb.2.2.1 i (by omega)
      have lc := lex_lmb sc.2.2.1 10 i (by omega)
      generalize hA : m.2 (b + 1) i = xa at *
      generalize hB : lex (m.2 (c + 1)) nc i = xb at *
      have m2 := subL (a := xa) (b := xb) (by omega) (by omega)
      have m3 := addL (a := xa - xb) (b := cy) (by rw [m2]; omega) (by rw [m2]; omega)
      rw [m2] at m3
      generalize hS : (xa - xb) + cy = S at *
      have sad := and30 (x := S)
      have ss := sar30 (x := S)
      have d := Int.emod_add_mul_ediv S.toInt 1073741824
      obtain ⟨M', k1, k2, k3⟩ := ih f (i + 1) (rf_l M (a + 1) i (S &&& 1073741823)) (S >>> (Int32.toInt64 30 &&& 63)) (by omega) (by omega) (bF_trans fM bF_l) h1 (by
        rw [rf_l_c, if_pos rfl]
        refine lmb_s (lmb_pu hl (by rw [sad]; omega) (by rw [sad]; omega)) ?_ ?_
        · rw [pu_at, sad]; omega
        · rw [pu_at, sad]; omega) (fun k h => by rw [rf_l_c, if_pos rfl, pu_ne (by omega)]; exact hk k (by omega)) (by rw [ss]; omega) (by
        have pj : pB (i + 1) = pB i * 1073741824 := rfl
        rw [rf_l_c, if_pos rfl, lv_s, lv_s, lv_s, pu_at, lv_c i (fun q hq => pu_ne (f := M.2 (a + 1)) (k := i) (x := (S &&& 1073741823)) (by omega)), sad, ss, hA, hB, pj]
        generalize S.toInt % 1073741824 = R at *
        generalize S.toInt / 1073741824 = Q at *
        rw [← d] at m3
        grind)
      refine ⟨M', ?_, k2, k3⟩
      show g_X1_setDifference_12_b w (g_X1_setDifference_12 w f) _ _ _ _ _ _ _ M = _
      unfold g_X1_setDifference_12_b g_X1_setDifference_46 rf_vl
      have gi : rf_in (Int32.ofNat i) 10 = true := gof (n := i) (by omega) (by decide)
      have ti : (Int32.ofNat i).toNatClampNeg = i := tn_of (by omega)
      have fin : ∀ xa' xb' : Int64, xa' = xa → xb' = xb → (fun x10 => g_X1_setDifference_12 w f a b c s x10 (Int32.ofNat nb) (Int32.ofNat (i + 1)) (rf_l M (a + 1) i (((xa' - xb') + cy) &&& 1073741823))) (((xa' - xb') + cy) >>> (Int32.toInt64 30 &&& 63)) = some M' := fun xa' xb' h1 h2 => by
        rw [h1, h2, hS]; exact k1
      rw [bC_g ha, bC_g hb, bC_g hc, if_neg gn, ec, gi, g_t, bC_g ha, bC_g hb, bC_g hc, g_t, g_t, bC_g ha, bC_g hb, bC_g hc, g_t, of_succ, ti]
      by_cases qb : i < nc
      · rw [if_neg (nle qb (by omega))]
        exact fin _ _ ((rd b).trans hA) (by rw [rd c, ← hB, lex_lt qb])
      · rw [if_pos ((of_le (by omega) (by omega)).mpr (by omega))]
        exact fin _ _ ((rd b).trans hA) (by rw [← hB, lex_ge qb])
  obtain ⟨M', k1, k2, k3⟩ := key nb F 0 m 0 (by omega) (by omega) bF_refl rfl (fun i hi => by omega) (fun _ _ => rfl) (Or.inl rfl) rfl
  refine ⟨M', ?_, k2, k3⟩
  unfold g_X1_setDifference
  rw [bC_g ha, bC_g hb, bC_g hc, sb.2.1, hF]
  exact k1
theorem addSigned_c {w : rf_w} {m : rf_m} {a b : Nat} {x y : Int} {less : Int32} (ha : bC w a) (hb : bC w b) (ab : a ≠ b) (hl : less = 0 ∨ less = 1) (hx : bg m a x) (hy : bg m b y) (bx : mg x < pB 9) (bY : mg y < pB 9) : ∃ m', g_X1_addSigned w m a b less = some m' ∧ bF a m m' ∧ bg m' a (if less = 0 then x + y else x - y) := by
  obtain ⟨na, sa, ma, ga⟩ := bg_mg hx
  obtain ⟨nb, sb, mb, gb⟩ := bg_mg hy
  have o10 : ¬ (1 : Int32) = 0 := by decide
  have o01 : ¬ (0 : Int32) = 1 := by decide
  -- by the sign that is added
  have key : ∀ s0 : Int32, (s0 = 0 ∨ s0 = 1) → ∀ y' : Int, mg y' = mg y → (s0 = 0 → 0 ≤ y') → (s0 = 1 → y' ≤ 0) → ∃ m', g_X1_addSigned_13 w a b s0 m = some m' ∧ bF a m m' ∧ bg m' a (x + y') := by
    intro s0 hs y' my h0 h1
    have my' : (if y' < 0 then - y' else y') = mg y := my
    have mx : mg x = (if x < 0 then - x else x) := rfl
    unfold g_X1_addSigned_13
    rw [bC_g ha, bC_g hb]
    by_cases e : m.1 a 1 = s0
    · obtain ⟨M', k1, k2, k3⟩ := addSize_c ha hb ab hx hy bx bY
      refine ⟨M', by rw [if_pos e, k1, bv_sm], k2, ?_⟩
      have ev : (if x < 0 then - (mg x + mg y) else mg x + mg y) = x + y' := by
        rcases ga with ⟨g1, g2⟩ | ⟨g1, g2⟩
        · have := h0 (e.symm.trans g1)
          rw [if_neg (by omega)] at my'
          rw [if_neg (by omega), mx, if_neg (by omega)]; omega
        · have := h1 (e.symm.trans g1)
          rw [if_pos g2, mx, if_pos g2]
          by_cases q : y' < 0
          · rw [if_pos q] at my'; omega
          · rw [if_neg q] at my'; omega
      rw [ev] at k3
      exact k3
    · obtain ⟨v, v1, v2⟩ := compareSize_c ha hb hx hy
      rw [if_neg e, v1, b_sm]
      by_cases c : v < 0
      · have c' := v2.mp c
        obtain ⟨M', k1, k2, k3⟩ := setDiff_c (a := a) (b := b) (c := a) ha hb ha hs hy hx (by omega) (Or.inr ab)
        refine ⟨M', by rw [if_pos c, k1, bv_sm], k2, ?_⟩
        have ev : (if s0 = 0 then mg y - mg x else - (mg y - mg x)) = x + y' := by
          rcases ga with ⟨g1, g2⟩ | ⟨g1, g2⟩ <;> rcases hs with hs | hs
          · exact absurd (g1.trans hs.symm) e
          · have := h1 hs
            rw [hs, if_neg o10, mx, if_neg (by omega)]
            by_cases q : y' < 0
            · rw [if_pos q] at my'; omega
            · rw [if_neg q] at my'; omega
          · have := h0 hs
            rw [if_neg (by omega)] at my'
            rw [hs, if_pos rfl, mx, if_pos g2]; omega
          · exact absurd (g1.trans hs.symm) e
        rw [ev] at k3
        exact k3
      · have c' : mg y ≤ mg x := by
          have : ¬ mg x < mg y := fun z => c (v2.mpr z)
          omega
        have s01 : m.1 a 1 = 0 ∨ m.1 a 1 = 1 := by rcases ga with ⟨q, _⟩ | ⟨q, _⟩; exact Or.inl q; exact Or.inr q
        obtain ⟨M', k1, k2, k3⟩ := setDiff_c (a := a) (b := a) (c := b) ha ha hb s01 hx hy c' (Or.inl rfl)
        refine ⟨M', by rw [if_neg c, k1, bv_sm], k2, ?_⟩
        have ev : (if m.1 a 1 = 0 then mg x - mg y else - (mg x - mg y)) = x + y' := by
          rcases ga with ⟨g1, g2⟩ | ⟨g1, g2⟩ <;> rcases hs with hs | hs
          · exact absurd (g1.trans hs.symm) e
          · have := h1 hs
            rw [g1, if_pos rfl, mx, if_neg (by omega)]
            by_cases q : y' < 0
            · rw [if_pos q] at my'; omega
            · rw [if_neg q] at my'; omega
          · have := h0 hs
            rw [if_neg (by omega)] at my'
            rw [g1, if_neg o10, mx, if_pos g2]; omega
          · exact absurd (g1.trans hs.symm) e
        rw [ev] at k3
        exact k3
  have mgn : mg (-y) = mg y := by unfold mg; split <;> split <;> omega
  unfold g_X1_addSigned
  rw [bC_g ha, bC_g hb]
  rcases hl with hl | hl <;> rcases gb with ⟨g1, g2⟩ | ⟨g1, g2⟩
  · rw [hl, g1, if_pos rfl, if_pos rfl]
    exact key 0 (Or.inl rfl) y rfl (fun _ => g2) (fun z => absurd z o01)
  · rw [hl, g1, if_neg o10, if_pos rfl]
    exact key 1 (Or.inr rfl) y rfl (fun z => absurd z o10) (fun _ => by omega)
  · rw [hl, g1, if_neg o01, if_neg o10]
    exact key 1 (Or.inr rfl) (-y) mgn (fun z => absurd z o10) (fun _ => by omega)
  · rw [hl, g1, if_pos rfl, if_neg o10]
    exact key 0 (Or.inl rfl) (-y) mgn (fun _ => by omega) (fun z => absurd z o01)
end PBBig4
