/-! the class's whole numbers: products -/
section PBBig3
theorem fill10 {w : rf_w} {a : Nat} (h : rf_isA w (a + 1) .long 10 = true) : ∀ r f i (M : rf_m), i + r = 10 → r < f → (∀ k, k < i → M.2 (a + 1) k = 0) → ∃ M', g_J7_fill_d0a16_6 w f (a + 1) 0 (Int32.ofNat i) 10 M = some M' ∧ M'.1 = M.1 ∧ (∀ z, z ≠ a + 1 → M'.2 z = M.2 z) ∧ ∀ k, k < 10 → M'.2 (a + 1) k = 0 := by
  intro r
  induction r with
  | zero =>
    intro f i M hi hf hz
    obtain ⟨f, rfl⟩ : ∃ g, f = g + 1 := ⟨f - 1, by omega⟩
    have e : i = 10 := by omega
    subst e
    refine ⟨M, ?_, rfl, fun _ _ => rfl, hz⟩
    show g_J7_fill_d0a16_6_b w _ _ _ _ _ M = _
    unfold g_J7_fill_d0a16_6_b
    have z0 : (10 : Int32) ≤ Int32.ofNat 10 := by decide
    rw [h, g_t, if_pos z0]
  | succ r ih =>
    intro f i M hi hf hz
    obtain ⟨f, rfl⟩ : ∃ g, f = g + 1 := ⟨f - 1, by omega⟩
    obtain ⟨M', k1, k2, k3, k4⟩ := ih f (i + 1) (rf_l M (a + 1) i 0) (by omega) (by omega) (fun k hk => by
      rw [rf_l_c, if_pos rfl]
      by_cases e : k = i
      · rw [e, pu_at]
      · rw [pu_ne e]; exact hz k (by omega))
    refine ⟨M', ?_, by rw [k2]; rfl, fun z hz => by rw [k3 z hz, rf_l_c, if_neg hz], k4⟩
    show g_J7_fill_d0a16_6_b w _ _ _ _ _ M = _
    unfold g_J7_fill_d0a16_6_b
    have z0 : ¬ (10 : Int32) ≤ Int32.ofNat i := nle (R := 10) (by omega) (by decide)
    rw [h, g_t, if_neg z0, gof (n := i) (by omega) (by decide), g_t, tn_of (n := i) (by omega), of_succ, k1]
theorem lv_pu {f : Nat → Int64} {k : Nat} {x : Int64} : ∀ n, k < n → lv (pu f k x) n = lv f n + (x.toInt - (f k).toInt) * pB k := by
  intro n
  induction n with
  | zero => intro h; omega
  | succ n ih =>
    intro h
    rw [lv_s, lv_s]
    by_cases e : n = k
    · subst e
      rw [pu_at, lv_c n (fun i hi => pu_ne (f := f) (k := n) (x := x) (by omega))]
      grind
    · rw [pu_ne e, ih (by omega)]
      omega
theorem lv_zero {f : Nat → Int64} : ∀ n, (∀ i, i < n → f i = 0) → lv f n = 0 := by
  intro n
  induction n with
  | zero => intro _; rfl
  | succ n ih =>
    intro h
    rw [lv_s, ih (fun i hi => h i (by omega)), h n (by omega)]
    show 0 + 0 * pB n = 0
    omega
theorem lmb_pu {f : Nat → Int64} {k n : Nat} {x : Int64} (h : lmb f n) (h1 : 0 ≤ x.toInt) (h2 : x.toInt < 1073741824) : lmb (pu f k x) n := fun i hi => by
  by_cases e : i = k
  · rw [e, pu_at]; exact ⟨h1, h2⟩
  · rw [pu_ne e]; exact h i hi
/-- one limb taken times a number, added -/
theorem mul24 {w : rf_w} {a b c i nb nc : Nat} {r10 : Nat → Nat → Nat → Int32 → rf_m → Option rf_m} {m : rf_m} (ha : bC w a) (hb : bC w b) (hc : bC w c) (ab : a ≠ b) (ac : a ≠ c) (sb : bgs m b nb) (sc : bgs m c nc) (hi : i < nb) (hn : nb + nc ≤ 10) : ∀ r f j (M : rf_m) (cy : Int64), j + r = nc → r < f → bF a m M → lmb (M.2 (a + 1)) (i + nc) → 0 ≤ cy.toInt → cy.toInt < 1073741824 → ∀ V, lv (M.2 (a + 1)) (i + nc) + cy.toInt * pB (i + j) = V + (m.2 (b + 1) i).toInt * lv (m.2 (c + 1)) j * pB i → ∃ M', g_X1_setProduct_24 w r10 f a b c (Int32.ofNat i) cy (Int32.ofNat j) M = r10 a b c (Int32.ofNat (i + 1)) M' ∧ bF a m M' ∧ lmb (M'.2 (a + 1)) (i + 1 + nc) ∧ lv (M'.2 (a + 1)) (i + 1 + nc) = V + (m.2 (b + 1) i).toInt * lv (m.2 (c + 1)) nc * pB i := by
  intro r
  induction r with
  | zero =>
    intro f j M cy hj hf fM hl c0 c1 V hV
    obtain ⟨f, rfl⟩ : ∃ g, f = g + 1 := ⟨f - 1, by omega⟩
    have e : j = nc := by omega
    subst e
    have ec : M.1 c 0 = Int32.ofNat j := by rw [fM.1 c (Ne.symm ac)]; exact sc.2.1
    refine ⟨rf_l M (a + 1) (i + j) cy, ?_, bF_trans fM bF_l, ?_, ?_⟩
    · show g_X1_setProduct_24_b w _ _ _ _ _ _ _ _ M = _
      unfold g_X1_setProduct_24_b g_X1_setProduct_99 g_X1_setProduct_123
      have g10 : ¬ (10 : Int32) ≤ Int32.ofNat (i + j) := nle (R := 10) (by omega) (by decide)
      have ad : Int32.ofNat i + Int32.ofNat j = Int32.ofNat (i + j) := (Int32.ofNat_add i j).symm
      rw [bC_g ha, bC_g hb, bC_g hc, ec, if_pos (Int32.le_refl _), bC_g ha, bC_g hb, bC_g hc, ad, if_neg g10, gof (n := i + j) (by omega) (by decide), g_t, bC_g ha, bC_g hb, bC_g hc, tn_of (n := i + j) (by omega), of_succ]
    · rw [rf_l_c, if_pos rfl, show i + 1 + j = (i + j) + 1 by omega]
      refine lmb_s (lmb_pu hl c0 c1) ?_ ?_
      · rw [pu_at]; exact c0
      · rw [pu_at]; exact c1
    · rw [rf_l_c, if_pos rfl, show i + 1 + j = (i + j) + 1 by omega, lv_s, pu_at, lv_c (i + j) (fun q hq => pu_ne (f := M.2 (a + 1)) (k := i + j) (x := cy) (by omega))]
      exact hV
  | succ r ih =>
    intro f j M cy hj hf fM hl c0 c1 V hV
    obtain ⟨f, rfl⟩ : ∃ g, f = g + 1 := ⟨f - 1, by omega⟩
    have ec : M.1 c 0 = Int32.ofNat nc := by rw [fM.1 c (Ne.symm ac)]; exact sc.2.1
    have lb := sb.2.2.1 i hi
    have lc := sc.2.2.1 j (by omega)
    have la := hl (i + j) (by omega)
    have eb : M.2 (b + 1) = m.2 (b + 1) := fM.2 (b + 1) (by omega)
    have ecc : M.2 (c + 1) = m.2 (c + 1) := fM.2 (c + 1) (by omega)
    generalize hB : m.2 (b + 1) i = xb at *
    generalize hC : m.2 (c + 1) j = xc at *
    generalize hA : M.2 (a + 1) (i + j) = xa at *
    have mu1 : 0 ≤ xb.toInt * xc.toInt := Int.mul_nonneg lb.1 lc.1
    have mu2 : xb.toInt * xc.toInt ≤ 1073741823 * 1073741823 := Int.mul_le_mul (by omega) (by omega) lc.1 (by omega)
    have m1 := mulL (a := xb) (b := xc) (by omega) (by omega)
    have m2 := addL (a := xa) (b := xb * xc) (by rw [m1]; omega) (by rw [m1]; omega)
    have m3 := addL (a := xa + xb * xc) (b := cy) (by rw [m2, m1]; omega) (by rw [m2, m1]; omega)
    rw [m2, m1] at m3
    generalize hS : (xa + xb * xc) + cy = S at *
    have sa := and30 (x := S)
    have ss := sar30 (x := S)
    have s0 : 0 ≤ S.toInt ∧ S.toInt < 1073741824 * 1073741824 := by omega
    have d := Int.emod_add_mul_ediv S.toInt 1073741824
    have q1 : (pu (M.2 (a + 1)) (i + j) (S &&& 1073741823)) (i + j) = S &&& 1073741823 := pu_at ..
    obtain ⟨M', k1, k2, k3, k4⟩ := ih f (j + 1) (rf_l M (a + 1) (i + j) (S &&& 1073741823)) (S >>> (Int32.toInt64 30 &&& 63)) (by omega) (by omega) (bF_trans fM bF_l) (by rw [rf_l_c, if_pos rfl]; exact lmb_pu hl (by rw [sa]; omega) (by rw [sa]; omega)) (by rw [ss]; omega) (by rw [ss]; omega) V (by
      have pj : pB (i + (j + 1)) = pB (i + j) * 1073741824 := rfl
      have pij := pB_add i j
      rw [rf_l_c, if_pos rfl, lv_pu (i + nc) (by omega), sa, ss, hA, pj, lv_s, hC]
      generalize S.toInt % 1073741824 = R at *
      generalize S.toInt / 1073741824 = Q at *
      generalize lv (M.2 (a + 1)) (i + nc) = L at *
      generalize lv (m.2 (c + 1)) j = LC at *
      rw [← d] at m3
      rw [pij] at hV ⊢
      generalize pB i = Pi at *
      generalize pB j = Pj at *
      grind)
    refine ⟨M', ?_, k2, k3, k4⟩
    show g_X1_setProduct_24_b w r10 (g_X1_setProduct_24 w r10 f) _ _ _ _ _ _ M = _
    unfold g_X1_setProduct_24_b
    have g10 : ¬ (10 : Int32) ≤ Int32.ofNat (i + j) := nle (R := 10) (by omega) (by decide)
    have ad : Int32.ofNat i + Int32.ofNat j = Int32.ofNat (i + j) := (Int32.ofNat_add i j).symm
    have gn : ¬ Int32.ofNat nc ≤ Int32.ofNat j := nle (by omega) (by omega)
    unfold rf_vl
    rw [bC_g ha, bC_g hb, bC_g hc, ec, if_neg gn, ad, if_neg g10, gof (n := i + j) (by omega) (by decide), g_t, gof (n := i) (by omega) (by decide), g_t, gof (n := j) (by omega) (by decide), g_t]
    dsimp only
    rw [g_t, tn_of (n := i + j) (by omega), tn_of (n := i) (by omega), tn_of (n := j) (by omega), eb, ecc, hA, hB, hC, hS, of_succ, k1]
theorem setProduct_c {w : rf_w} {m : rf_m} {a b c p q : Nat} {x y : Int} (ha : bC w a) (hb : bC w b) (hc : bC w c) (ab : a ≠ b) (ac : a ≠ c) (hx : bg m b x) (hy : bg m c y) (bx : mg x < pB p) (bY : mg y < pB q) (pq : p + q ≤ 10) : ∃ m', g_X1_setProduct w m a b c = some m' ∧ bF a m m' ∧ bg m' a (x * y) := by
  obtain ⟨F, hF, hFb⟩ := fuel_ex
  obtain ⟨nb, sb, mb, gb⟩ := bg_mg hx
  obtain ⟨nc, sc, mc, gc⟩ := bg_mg hy
  have b10 := bgs_le sb (by rw [← mb]; exact bx)
  have c10 := bgs_le sc (by rw [← mc]; exact bY)
  have o10 : ¬ (1 : Int32) = 0 := by decide
  have o01 : ¬ (0 : Int32) = 1 := by decide
  have key : ∀ r f i (M : rf_m), i + r = nb → r < f → bF a m M → lmb (M.2 (a + 1)) (i + nc) → lv (M.2 (a + 1)) (i + nc) = lv (m.2 (b + 1)) i * lv (m.2 (c + 1)) nc → ∃ M', g_X1_setProduct_10 w f a b c (Int32.ofNat i) M = some M' ∧ bF a m M' ∧ bg M' a (x * y) := by
    intro r
    induction r with
    | zero =>
      intro f i M hi hf fM hl hv
      obtain ⟨f, rfl⟩ : ∃ g, f = g + 1 := ⟨f - 1, by omega⟩
      have e : i = nb := by omega
      subst e
      have eb : M.1 b 0 = Int32.ofNat i := by rw [fM.1 b (Ne.symm ab)]; exact sb.2.1
      have ec : M.1 c 0 = Int32.ofNat nc := by rw [fM.1 c (Ne.symm ac)]; exact sc.2.1
      have eb1 : M.1 b 1 = m.1 b 1 := by rw [fM.1 b (Ne.symm ab)]
      have ec1 : M.1 c 1 = m.1 c 1 := by rw [fM.1 c (Ne.symm ac)]
      have ad : Int32.ofNat i + Int32.ofNat nc = Int32.ofNat (i + nc) := (Int32.ofNat_add i nc).symm
      have fin : ∀ s : Int32, (s = 0 ∨ s = 1) → (if s = 0 then lv (M.2 (a + 1)) (i + nc) else - lv (M.2 (a + 1)) (i + nc)) = x * y → ∃ M', (rf_bv (g_X1_settle w M a (Int32.ofNat (i + nc)) s) fun m9 => some m9) = some M' ∧ bF a m M' ∧ bg M' a (x * y) := fun s hs hv2 => by
        obtain ⟨M', k1, k2, k3⟩ := settle_c (k := i + nc) (N := i + nc) ha hs (by omega) (by rw [if_pos (by omega)]) hl
        rw [hv2] at k3
        exact ⟨M', by rw [k1, bv_sm], bF_trans fM (bF1_F k2), k3⟩
      have fx : (if x < 0 then - x else x) = lv (m.2 (b + 1)) i := mb
      have fy : (if y < 0 then - y else y) = lv (m.2 (c + 1)) nc := mc
      show ∃ M', g_X1_setProduct_10_b w _ _ _ _ _ M = _ ∧ _
      unfold g_X1_setProduct_10_b
      rw [bC_g ha, bC_g hb, bC_g hc, eb, if_pos (Int32.le_refl _), ec, eb1, ec1, ad]
      rcases gb with ⟨g1, g2⟩ | ⟨g1, g2⟩ <;> rcases gc with ⟨g3, g4⟩ | ⟨g3, g4⟩
      · rw [if_neg (by omega)] at fx
        rw [if_neg (by omega)] at fy
        rw [g1, g3, if_pos rfl]
        exact fin 0 (Or.inl rfl) (by rw [if_pos rfl, hv, ← fx, ← fy])
      · rw [if_neg (by omega)] at fx
        rw [if_pos g4] at fy
        rw [g1, g3, if_neg o01]
        exact fin 1 (Or.inr rfl) (by rw [if_neg o10, hv, ← fx, ← fy]; grind)
      · rw [if_pos g2] at fx
        rw [if_neg (by omega)] at fy
        rw [g1, g3, if_neg o10]
        exact fin 1 (Or.inr rfl) (by rw [if_neg o10, hv, ← fx, ← fy]; grind)
      · rw [if_pos g2] at fx
        rw [if_pos g4] at fy
        rw [g1, g3, if_pos rfl]
        exact fin 0 (Or.inl rfl) (by rw [if_pos rfl, hv, ← fx, ← fy]; grind)
    | succ r ih =>
      intro f i M hi hf fM hl hv
      obtain ⟨f, rfl⟩ : ∃ g, f = g + 1 := ⟨f - 1, by omega⟩
      have eb : M.1 b 0 = Int32.ofNat nb := by rw [fM.1 b (Ne.symm ab)]; exact sb.2.1
      have gn : ¬ Int32.ofNat nb ≤ Int32.ofNat i := nle (by omega) (by have := sb.1; omega)
      obtain ⟨M', k1, k2, k3, k4⟩ := mul24 (r10 := g_X1_setProduct_10 w f) ha hb hc ab ac sb sc (show i < nb by omega) (by omega) nc F 0 M 0 (by omega) (by omega) fM hl (by decide) (by decide) (lv (M.2 (a + 1)) (i + nc)) (by
        show _ + 0 * _ = _ + _ * 0 * _
        grind)
      have z0 : Int32.ofNat 0 = 0 := rfl
      rw [z0] at k1
      show ∃ M', g_X1_setProduct_10_b w (g_X1_setProduct_10 w f) _ _ _ _ M = _ ∧ _
      unfold g_X1_setProduct_10_b
      rw [bC_g ha, bC_g hb, bC_g hc, eb, if_neg gn, hF, k1]
      refine ih f (i + 1) M' (by omega) (by omega) k2 k3 ?_
      rw [k4, hv, lv_s]
      grind
  obtain ⟨M0, f1, f2, f3, f4⟩ := fill10 (w := w) (a := a) ha.2.2 10 F 0 m (by omega) (by omega) (fun k hk => by omega)
  have hl0 : ∀ N, N ≤ 10 → lmb (M0.2 (a + 1)) N := fun N hN i hi => by rw [f4 i (by omega)]; exact ⟨by decide, by decide⟩
  obtain ⟨M', k1, k2, k3⟩ := key nb F 0 M0 (by omega) (by have := sb.1; omega) ⟨fun z _ => by rw [f2], f3⟩ (hl0 _ (by omega)) (by
    rw [lv_zero (0 + nc) (fun i hi => f4 i (by omega))]
    show (0 : Int) = 0 * _
    omega)
  refine ⟨M', ?_, k2, k3⟩
  unfold g_X1_setProduct g_J7_fill_d0a16
  have z10 : Int32.ofNat 10 = 10 := rfl
  have z0 : Int32.ofNat 0 = 0 := rfl
  rw [z0] at f1 k1
  rw [bC_g ha, bC_g hb, bC_g hc, ha.2.2, g_t, z10, hF, f1, bv_sm, k1]
end PBBig3
