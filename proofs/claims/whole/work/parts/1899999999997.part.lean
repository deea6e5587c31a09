/-! part: lowest terms -/
section PBPart
theorem bg_sz {m : rf_m} {a : Nat} {v : Int} (h : bg m a v) : m.1 a 0 ≤ 0 ↔ v = 0 := by
  obtain ⟨n, h1, h2, h3⟩ := bg_mg h
  have z := bgs_0 h1
  rw [← h2] at z
  have n10 := h1.1
  rw [h1.2.1]
  have mz : mg v = 0 ↔ v = 0 := by unfold mg; split <;> omega
  rw [← mz, ← z]
  constructor
  · intro q
    have := (of_le (b := 0) (by omega) (by omega)).mp q
    omega
  · intro q
    rw [q]; decide
/-- both fit -/
noncomputable def tellP (K Q : Int) (below : Int32) : Int32 := @ite Int32 (mg K < 1000000000 ∧ mg Q < 1000000000) (Classical.propDecidable _) (if below = 0 then Int32.ofInt K else Int32.ofInt Q) (-2147483648)
theorem euc_s {w : rf_w} {m : rf_m} {v : Int} {a2 : Int32} {i f x y : Nat} {M : rf_m} (hi : i < 1000) (hy : y ≠ 0) (hx : (x : Int) < pB 9) (fM : adF m M) (h67 : bg M 67 v) (h69 : bg M 69 x) (h71 : bg M 71 y) : ∃ M', g_X0_lowestTerm_42 w (f + 1) a2 (Int32.ofNat i) M = g_X0_lowestTerm_42 w f a2 (Int32.ofNat (i + 1)) M' ∧ adF m M' ∧ bg M' 67 v ∧ bg M' 69 y ∧ bg M' 71 ((x % y : Nat) : Int) := by
  have mx : mg (x : Int) = x := by unfold mg; rw [if_neg (by omega)]
  obtain ⟨M1, k1, k2, k3, k4⟩ := setQuotient_c (w := w) (m := M) (a := 73) (b := 69) (c := 71) (r := 75) (s := 77) bC_73 bC_69 bC_71 bC_75 bC_77 (by decide) (by decide) (by decide) (by decide) (by decide) (by decide) (by decide) (by decide) (by decide) h69 h71 (by rw [mx]; exact hx) (by omega)
  rw [rV_pos (show (0 : Int) < (y : Int) by omega), if_neg (by omega), ← Int.natCast_emod] at k4
  obtain ⟨M2, l1, l2, l3⟩ := copyFrom_c (w := w) (m := M1) (a := 69) (b := 71) bC_69 bC_71 (by decide) (bg_q h71 k2 (by decide) (by decide) (by decide))
  obtain ⟨M3, n1, n2, n3⟩ := copyFrom_c (w := w) (m := M2) (a := 71) (b := 75) bC_71 bC_75 (by decide) (bg_F k4 l2 (by decide))
  refine ⟨M3, ?_, adF_trans fM (adF_trans (adF_q k2 (by decide) (by decide) (by decide)) (adF_trans (adF_b l2 (by decide)) (adF_b n2 (by decide)))), bg_F (bg_F (bg_q h67 k2 (by decide) (by decide) (by decide)) l2 (by decide)) n2 (by decide), bg_F l3 n2 (by decide), n3⟩
  show g_X0_lowestTerm_42_b w (g_X0_lowestTerm_42 w f) _ _ M = _
  unfold g_X0_lowestTerm_42_b
  have c1 : ¬ (1000 : Int32) ≤ Int32.ofNat i := nle (R := 1000) hi (by decide)
  have c2 : ¬ M.1 71 0 ≤ 0 := fun z => hy (by have := (bg_sz h71).mp z; omega)
  rw [if_neg c1, if_neg c2, k1, bv_sm, l1, bv_sm, n1, bv_sm, of_succ]
theorem euc_e {w : rf_w} {a2 : Int32} {i f : Nat} {M : rf_m} (hi : i < 1000) (h71 : bg M 71 0) : g_X0_lowestTerm_42 w (f + 1) a2 (Int32.ofNat i) M = g_X0_lowestTerm_110 w a2 M := by
  show g_X0_lowestTerm_42_b w (g_X0_lowestTerm_42 w f) _ _ M = _
  unfold g_X0_lowestTerm_42_b
  have c1 : ¬ (1000 : Int32) ≤ Int32.ofNat i := nle (R := 1000) hi (by decide)
  rw [if_neg c1, if_pos ((bg_sz h71).mpr rfl)]
theorem mod_half {y r k : Nat} (hr : 0 < r) (hry : r < y) (hy : y < 2 ^ (k + 1)) : y % r < 2 ^ k := by
  have h1 := Nat.mod_lt y hr
  have h2 : y % r + r ≤ y := by
    have d := Nat.mod_add_div y r
    have q1 : 1 ≤ y / r := (Nat.le_div_iff_mul_le hr).mpr (by omega)
    have := Nat.mul_le_mul_left r q1
    omega
  rw [Nat.pow_succ] at hy
  omega
theorem euc_c {w : rf_w} {m : rf_m} {v : Int} {a2 : Int32} : ∀ k i f (M : rf_m) (x y : Nat), i + 2 * k + 1 ≤ 1000 → 2 * k < f → y < 2 ^ k → (x : Int) < pB 9 → (y : Int) < pB 9 → adF m M → bg M 67 v → bg M 69 x → bg M 71 y → ∃ M', g_X0_lowestTerm_42 w f a2 (Int32.ofNat i) M = g_X0_lowestTerm_110 w a2 M' ∧ adF m M' ∧ bg M' 67 v ∧ bg M' 69 ((Nat.gcd x y : Nat) : Int) := by
  intro k
  induction k with
  | zero =>
    intro i f M x y hi hf hy hx hy9 fM h67 h69 h71
    obtain ⟨f, rfl⟩ : ∃ g, f = g + 1 := ⟨f - 1, by omega⟩
    have y0 : y = 0 := by rw [Nat.pow_zero] at hy; omega
    subst y0
    exact ⟨M, euc_e (by omega) h71, fM, h67, by rw [Nat.gcd_zero_right]; exact h69⟩
  | succ k ih =>
    intro i f M x y hi hf hy hx hy9 fM h67 h69 h71
    obtain ⟨f, rfl⟩ : ∃ g, f = g + 1 + 1 := ⟨f - 2, by omega⟩
    by_cases y0 : y = 0
    · subst y0
      exact ⟨M, euc_e (by omega) h71, fM, h67, by rw [Nat.gcd_zero_right]; exact h69⟩
    · obtain ⟨M1, a1, a2', a3, a4, a5⟩ := euc_s (w := w) (f := f + 1) (a2 := a2) (i := i) (by omega) y0 hx fM h67 h69 h71
      have ml := Nat.mod_lt x (show 0 < y by omega)
      have g1 : Nat.gcd x y = Nat.gcd y (x % y) := by rw [Nat.gcd_comm x y, Nat.gcd_rec y x, Nat.gcd_comm]
      by_cases r0 : x % y = 0
      · rw [r0] at a5
        refine ⟨M1, a1.trans (euc_e (by omega) a5), a2', a3, ?_⟩
        rw [g1, r0, Nat.gcd_zero_right]
        exact a4
      · obtain ⟨M2, b1, b2, b3, b4, b5⟩ := euc_s (w := w) (f := f) (a2 := a2) (i := i + 1) (by omega) r0 hy9 a2' a3 a4 a5
        have g2 : Nat.gcd y (x % y) = Nat.gcd (x % y) (y % (x % y)) := by rw [Nat.gcd_comm y (x % y), Nat.gcd_rec (x % y) y, Nat.gcd_comm]
        have mh := mod_half (k := k) (show 0 < x % y by omega) ml hy
        have ml2 := Nat.mod_lt y (show 0 < x % y by omega)
        obtain ⟨M', c1, c2⟩ := ih (i + 1 + 1) f M2 (x % y) (y % (x % y)) (by omega) (by omega) mh (by omega) (by omega) b2 b3 b4 b5
        refine ⟨M', a1.trans (b1.trans c1), ?_⟩
        rw [g1, g2]
        exact c2
theorem p2c (k : Nat) : ((2 ^ k : Nat) : Int) = (2 : Int) ^ k := by rw [Int.natCast_pow]; rfl
/-- the fraction's parts -/
theorem low_gcd {N D : Int} (hD : 0 < D) : ∃ K Q : Int, N = K * ((Nat.gcd N.natAbs D.natAbs : Nat) : Int) ∧ D = Q * ((Nat.gcd N.natAbs D.natAbs : Nat) : Int) ∧ 0 < ((Nat.gcd N.natAbs D.natAbs : Nat) : Int) ∧ 0 < Q := by
  have g0 : 0 < Nat.gcd N.natAbs D.natAbs := Nat.gcd_pos_of_pos_right _ (by omega)
  obtain ⟨K, hK⟩ : ((Nat.gcd N.natAbs D.natAbs : Nat) : Int) ∣ N := Int.ofNat_dvd_left.mpr (Nat.gcd_dvd_left _ _)
  obtain ⟨Q, hQ⟩ : ((Nat.gcd N.natAbs D.natAbs : Nat) : Int) ∣ D := Int.ofNat_dvd_left.mpr (Nat.gcd_dvd_right _ _)
  generalize hG : ((Nat.gcd N.natAbs D.natAbs : Nat) : Int) = G at *
  have gp : 0 < G := by omega
  refine ⟨K, Q, by rw [hK, Int.mul_comm], by rw [hQ, Int.mul_comm], gp, ?_⟩
  refine Classical.byContradiction fun z => ?_
  have := Int.mul_le_mul_of_nonneg_left (show Q ≤ 0 by omega) (show 0 ≤ G by omega)
  rw [Int.mul_zero] at this
  omega
theorem lowestTerm_c {w : rf_w} {m : rf_m} {n a : Nat} {FF : Nat → Int} {D K Q : Int} {below : Int32} (h : adj1 m n FF D) (ha : a < 80) (h58 : m.1 58 a ≠ 0) (hK : numA FF m a = K * ((Nat.gcd (numA FF m a).natAbs D.natAbs : Nat) : Int)) (hQ : D = Q * ((Nat.gcd (numA FF m a).natAbs D.natAbs : Nat) : Int)) : ∃ m', g_X0_lowestTerm w m (Int32.ofNat a) below = some (tellP K Q below, m') ∧ adF m m' := by
  obtain ⟨FU, hF, hFb⟩ := fuel_ex
  have o1 : ¬ (1 : Int32) = 0 := by decide
  obtain ⟨M1, l1, l2, l3⟩ := layChange_c (w := w) h ha h58
  have rn := (numA_rng h ha).2
  obtain ⟨h1, h2, h3, h4, h5, h6, h7⟩ := h
  obtain ⟨M2, c1, c2, c3⟩ := copyFrom_c (w := w) (m := M1) (a := 69) (b := 67) bC_69 bC_67 (by decide) l3
  obtain ⟨M3, d1, d2, d3⟩ := dropSign_c (w := w) (m := M2) (a := 69) bC_69 c3
  have f3 : adF m M3 := adF_trans l2 (adF_trans (adF_b c2 (by decide)) (adF_b d2 (by decide)))
  obtain ⟨M4, e1, e2, e3⟩ := copyFrom_c (w := w) (m := M3) (a := 71) (b := 63) bC_71 bC_63 (by decide) (bg_ad h3 f3 (by decide))
  generalize hN : numA FF m a = N at *
  have eN : (if N < 0 then - N else N) = (N.natAbs : Int) := by split <;> omega
  have eD : D = (D.natAbs : Int) := by omega
  have mN : mg N = (N.natAbs : Int) := eN
  rw [eN] at d3
  rw [eD] at e3
  have p9 := pB9
  have p120 : ((2 ^ 120 : Nat) : Int) = 1329227995784915872903807060280344576 := by rw [p2c]; rfl
  obtain ⟨M5, u1, u2, u3, u4⟩ := euc_c (w := w) (m := m) (v := N) (a2 := below) 120 0 FU M4 N.natAbs D.natAbs (by decide) (by omega) (by omega) (by omega) (by omega) (adF_trans f3 (adF_b e2 (by decide))) (bg_F (bg_F (bg_F l3 c2 (by decide)) d2 (by decide)) e2 (by decide)) (bg_F d3 e2 (by decide)) e3
  generalize hG : ((Nat.gcd N.natAbs D.natAbs : Nat) : Int) = G at *
  have g0 : G ≠ 0 := by
    intro z
    rw [z, Int.mul_zero] at hQ
    omega
  obtain ⟨M6, s1, s2, s3, s4⟩ := setQuotient_c (w := w) (m := M5) (a := 71) (b := 67) (c := 69) (r := 75) (s := 77) bC_71 bC_67 bC_69 bC_75 bC_77 (by decide) (by decide) (by decide) (by decide) (by decide) (by decide) (by decide) (by decide) (by decide) u3 u4 (by omega) g0
  have mD : mg D = D := by unfold mg; rw [if_neg (by omega)]
  have f6 : adF m M6 := adF_trans u2 (adF_q s2 (by decide) (by decide) (by decide))
  obtain ⟨M7, t1, t2, t3, t4⟩ := setQuotient_c (w := w) (m := M6) (a := 73) (b := 63) (c := 69) (r := 75) (s := 77) bC_73 bC_63 bC_69 bC_75 bC_77 (by decide) (by decide) (by decide) (by decide) (by decide) (by decide) (by decide) (by decide) (by decide) (bg_ad h3 f6 (by decide)) (bg_q u4 s2 (by decide) (by decide) (by decide)) (by rw [mD]; omega) g0
  have q1 : qV N G = K := by rw [hK]; exact qV_ex g0
  have q2 : qV D G = Q := by
    have := qV_ex (k := Q) g0
    rw [← hQ] at this
    exact this
  rw [q1] at s3
  rw [q2] at t3
  have s3' := bg_q s3 t2 (by decide) (by decide) (by decide)
  refine ⟨M7, ?_, adF_trans f6 (adF_q t2 (by decide) (by decide) (by decide))⟩
  unfold g_X0_lowestTerm
  have zo : Int32.ofNat 0 = 0 := rfl
  rw [zo] at u1
  rw [l1, b_sm, if_neg o1, c1, bv_sm, d1, bv_sm, e1, bv_sm, hF, u1]
  unfold g_X0_lowestTerm_110 tellP
  rw [s1, bv_sm, t1, bv_sm, isShort_c bC_71 s3', b_sm]
  by_cases z1 : mg K < 1000000000
  · rw [bi_t z1, if_neg o1, isShort_c bC_73 t3, b_sm]
    by_cases z2 : mg Q < 1000000000
    · have z12 : mg K < 1000000000 ∧ mg Q < 1000000000 := ⟨z1, z2⟩
      rw [bi_t z2, if_neg o1]
      by_cases b : below = 0
      · obtain ⟨x, x1, x2⟩ := toLong_c (w := w) bC_71 s3' (by omega)
        rw [if_pos b, x1, b_sm, l32_of, x2, if_pos z12, if_pos b]
      · obtain ⟨x, x1, x2⟩ := toLong_c (w := w) bC_73 t3 (by omega)
        rw [if_neg b, x1, b_sm, l32_of, x2, if_pos z12, if_neg b]
    · rw [bi_f z2, if_pos rfl, if_neg (fun z => z2 z.2)]
  · rw [bi_f z1, if_pos rfl, if_neg (fun z => z1 z.1)]
/-- the reference's cells at work there -/
def rpF (m m' : rf_m) : Prop := (∀ z, z ≠ 249 → z ≠ 250 → z ≠ 251 → z ≠ 266 → z ≠ 267 → m'.1 z = m.1 z) ∧ m'.2 = m.2
theorem rpF_trans {a b c : rf_m} (h : rpF a b) (k : rpF b c) : rpF a c := ⟨fun z h1 h2 h3 h4 h5 => (k.1 z h1 h2 h3 h4 h5).trans (h.1 z h1 h2 h3 h4 h5), k.2.trans h.2⟩
theorem rpF_st {M : rf_m} {c : Nat} {F : Nat → Int32} (h : c = 266 ∨ c = 267) : rpF M (stc M c F) := ⟨fun z _ _ _ h4 h5 => stc_ne (by omega), rfl⟩
/-- what comes behind Euclid -/
def prt (w : rf_w) (a1 a2 a3 : Int32) (M : rf_m) : Option (Int32 × rf_m) := rf_bv (g_X14_copies__266_264 w M 0 (6 * a1)) fun m1 => (if a3 = 0 then g_X14_part_165 w a2 a3 m1 else rf_bv (g_X14_turns__266 w m1 0) fun m2 => g_X14_part_165 w a2 a3 m2)
theorem eur_s {w : rf_w} {a1 a2 a3 : Int32} {f x y : Nat} {M : rf_m} (hy : y ≠ 0) (hy1 : (y : Int) < 3138550867693340381917894711603833208051177722232017256448) (h267 : w6 (M.1 267) 0 = x) (h266 : w6 (M.1 266) 0 = y) : ∃ M', g_X14_part_83 w (f + 1) a1 a2 a3 M = g_X14_part_83 w f a1 a2 a3 M' ∧ rpF M M' ∧ w6 (M'.1 267) 0 = y ∧ w6 (M'.1 266) 0 = ((x % y : Nat) : Int) := by
  have zo : Int32.ofNat 0 = 0 := rfl
  obtain ⟨M1, k1, k2, k3, k4, k5⟩ := dv_267_266 (w := w) (m := M) (by rw [h266]; omega) (by rw [h266]; exact hy1)
  rw [h267, h266, ← Int.natCast_emod] at k5
  have p6 : pW 6 = 6277101735386680763835789423207666416102355444464034512896 := by decide
  obtain ⟨F1, a1', a2', a3'⟩ := cp_267_266 (w := w) (m := M1) (p := 0) (q := 0) (x := y) (by decide) (by decide) (by rw [k2 266 (by decide) (by decide) (by decide), ← h266]; exact wd_w6)
  obtain ⟨F2, b1, b2, b3⟩ := cp_266_250 (w := w) (m := stc M1 267 F1) (p := 0) (q := 0) (x := ((x % y : Nat) : Int)) (by decide) (by decide) (by rw [stc_ne (by decide), ← k5]; exact wd_w6)
  have ml := Nat.mod_lt x (show 0 < y by omega)
  refine ⟨stc (stc M1 267 F1) 266 F2, ?_, ⟨fun z h1 h2 h3 h4 h5 => by rw [stc_ne h4, stc_ne h5, k2 z h1 h2 h3], k3⟩, ?_, ?_⟩
  · show g_X14_part_83_b w (g_X14_part_83 w f) _ _ _ M = _
    unfold g_X14_part_83_b
    rw [zo] at a1' b1
    rw [iz_266, b_sm, bi_f (by rw [h266]; omega), if_pos rfl, k1, bv_sm, a1', bv_sm, b1, bv_sm]
  · rw [stc_ne (by decide), stc_at]
    exact wd_nn a3' (by omega) (by omega)
  · rw [stc_at]
    exact wd_nn b3 (by omega) (by omega)
theorem eur_e {w : rf_w} {a1 a2 a3 : Int32} {f : Nat} {M : rf_m} (h266 : w6 (M.1 266) 0 = 0) : g_X14_part_83 w (f + 1) a1 a2 a3 M = prt w a1 a2 a3 M := by
  have o1 : ¬ (1 : Int32) = 0 := by decide
  show g_X14_part_83_b w (g_X14_part_83 w f) _ _ _ M = _
  unfold g_X14_part_83_b prt
  rw [iz_266, b_sm, bi_t h266, if_neg o1]
theorem eur_c {w : rf_w} {a1 a2 a3 : Int32} : ∀ k f (M : rf_m) (x y : Nat), 2 * k < f → y < 2 ^ k → (y : Int) < 3138550867693340381917894711603833208051177722232017256448 → w6 (M.1 267) 0 = x → w6 (M.1 266) 0 = y → ∃ M', g_X14_part_83 w f a1 a2 a3 M = prt w a1 a2 a3 M' ∧ rpF M M' ∧ w6 (M'.1 267) 0 = ((Nat.gcd x y : Nat) : Int) := by
  intro k
  induction k with
  | zero =>
    intro f M x y hf hy hy1 h267 h266
    obtain ⟨f, rfl⟩ : ∃ g, f = g + 1 := ⟨f - 1, by omega⟩
    have y0 : y = 0 := by rw [Nat.pow_zero] at hy; omega
    subst y0
    exact ⟨M, eur_e h266, ⟨fun _ _ _ _ _ _ => rfl, rfl⟩, by rw [Nat.gcd_zero_right]; exact h267⟩
  | succ k ih =>
    intro f M x y hf hy hy1 h267 h266
    obtain ⟨f, rfl⟩ : ∃ g, f = g + 1 + 1 := ⟨f - 2, by omega⟩
    by_cases y0 : y = 0
    · subst y0
      exact ⟨M, eur_e h266, ⟨fun _ _ _ _ _ _ => rfl, rfl⟩, by rw [Nat.gcd_zero_right]; exact h267⟩
    · obtain ⟨M1, b1, b2, b3, b4⟩ := eur_s (w := w) (f := f + 1) (a1 := a1) (a2 := a2) (a3 := a3) y0 hy1 h267 h266
      have ml := Nat.mod_lt x (show 0 < y by omega)
      have g1 : Nat.gcd x y = Nat.gcd y (x % y) := by rw [Nat.gcd_comm x y, Nat.gcd_rec y x, Nat.gcd_comm]
      by_cases r0 : x % y = 0
      · rw [r0] at b4
        refine ⟨M1, b1.trans (eur_e b4), b2, ?_⟩
        rw [g1, r0, Nat.gcd_zero_right]
        exact b3
      · obtain ⟨M2, c1, c2, c3, c4⟩ := eur_s (w := w) (f := f) (a1 := a1) (a2 := a2) (a3 := a3) r0 (by omega) b3 b4
        have g2 : Nat.gcd y (x % y) = Nat.gcd (x % y) (y % (x % y)) := by rw [Nat.gcd_comm y (x % y), Nat.gcd_rec (x % y) y, Nat.gcd_comm]
        have mh := mod_half (k := k) (show 0 < x % y by omega) ml hy
        have ml2 := Nat.mod_lt y (show 0 < x % y by omega)
        obtain ⟨M', d1, d2, d3⟩ := ih f M2 (x % y) (y % (x % y)) (by omega) mh (by omega) c3 c4
        refine ⟨M', b1.trans (c1.trans d1), rpF_trans b2 (rpF_trans c2 d2), ?_⟩
        rw [g1, g2]
        exact d3
theorem part_r {w : rf_w} {m M : rf_m} {n a : Nat} {FF : Nat → Int} {D K Q : Int} {below : Int32} (h : adj1 m n FF D) (ha : a < 80) (h58 : m.1 58 a ≠ 0) (hK : numA FF m a = K * ((Nat.gcd (numA FF m a).natAbs D.natAbs : Nat) : Int)) (hQ : D = Q * ((Nat.gcd (numA FF m a).natAbs D.natAbs : Nat) : Int)) (e264 : M.1 264 = m.1 264) (e259 : M.1 259 = m.1 259) : ∃ m', (rf_bv (g_X14_copies__266_264 w M 0 (6 * Int32.ofNat a)) fun m2 => rf_b (g_X14_isBelow__266 w m2 0) fun y3 m3 => (if y3 = 0 then g_X14_part_70 w (Int32.ofNat a) below y3 m3 else rf_bv (g_X14_turns__266 w m3 0) fun m4 => g_X14_part_70 w (Int32.ofNat a) below y3 m4)) = some (tellP K Q below, m') ∧ rpF M m' := by
  have o1 : ¬ (1 : Int32) = 0 := by decide
  have zo : Int32.ofNat 0 = 0 := rfl
  obtain ⟨FU, hF, hFb⟩ := fuel_ex
  have rn := mg_le.mp (numA_rng h ha).2
  obtain ⟨h1, h2, h3, h4, h5, h6, h7⟩ := h
  have p6 : pW 6 = 6277101735386680763835789423207666416102355444464034512896 := by decide
  have e6 : 6 * Int32.ofNat a = Int32.ofNat (6 * a) := by
    have z6 : (6 : Int32).toInt = 6 := rfl
    rw [i_eq, mulI (by rw [ofI (by omega), z6]; omega) (by rw [ofI (by omega), z6]; omega), ofI (by omega), ofI (by omega), z6]
    omega
  have wdN := (h7 a ha).2.2.2 h58
  generalize hN : numA FF m a = N at *
  have eD : D = (D.natAbs : Int) := by omega
  -- one: |N|
  have step : ∀ X : rf_m, rpF M X → ∃ F1 m', g_X14_copies__266_264 w X 0 (Int32.ofNat (6 * a)) = some (stc X 266 F1) ∧ g_X14_isBelow__266 w (stc X 266 F1) 0 = some (bi (N < 0), stc X 266 F1) ∧ (N < 0 → g_X14_turns__266 w (stc X 266 F1) 0 = some m') ∧ (¬ N < 0 → m' = stc X 266 F1) ∧ rpF M m' ∧ w6 (m'.1 266) 0 = (N.natAbs : Int) ∧ m'.1 267 = X.1 267 := by
    intro X fX
    obtain ⟨F1, a1, a2, a3⟩ := cp_266_264 (w := w) (m := X) (p := 0) (q := 6 * a) (x := N) (by decide) (by omega) (by rw [fX.1 264 (by decide) (by decide) (by decide) (by decide) (by decide), e264]; exact wdN)
    have sg := wd_sg a3 (by omega) (by omega)
    rw [zo] at a1
    have ibe : g_X14_isBelow__266 w (stc X 266 F1) 0 = some (bi (N < 0), stc X 266 F1) := by
      rw [ib_266, stc_at]
      have : (3138550867693340381917894711603833208051177722232017256448 ≤ w6 F1 0) ↔ N < 0 := by
        rw [sg]
        split <;> omega
      rw [bi_congr this]
    by_cases q : N < 0
    · rw [if_pos q] at sg
      obtain ⟨F2, b1, b2, b3⟩ := tn_266 (w := w) (m := stc X 266 F1) (p := 0) (x := N) (by decide) (by rw [stc_at]; exact a3)
      rw [zo] at b1
      refine ⟨F1, _, a1, ibe, fun _ => b1, fun z => absurd q z, rpF_trans fX (rpF_trans (rpF_st (Or.inl rfl)) (rpF_st (Or.inl rfl))), ?_, ?_⟩
      · rw [stc_at, wd_nn b3 (by omega) (by omega)]; omega
      · rw [stc_ne (by decide), stc_ne (by decide)]
    · rw [if_neg q] at sg
      refine ⟨F1, _, a1, ibe, fun z => absurd z q, fun _ => rfl, rpF_trans fX (rpF_st (Or.inl rfl)), ?_, ?_⟩
      · rw [stc_at, sg]; omega
      · rw [stc_ne (by decide)]
  obtain ⟨G1, X1, x1, x2, x2a, x2b, x3, x4, x5⟩ := step M ⟨fun _ _ _ _ _ _ => rfl, rfl⟩
  -- two: D
  obtain ⟨F2, c1, c2, c3⟩ := cp_267_259 (w := w) (m := X1) (p := 0) (q := 0) (x := D) (by decide) (by decide) (by rw [x3.1 259 (by decide) (by decide) (by decide) (by decide) (by decide), e259, ← h6]; exact wd_w6)
  rw [zo] at c1
  have c4 := wd_nn c3 (by omega) (by omega)
  have p190 : ((2 ^ 190 : Nat) : Int) = 1569275433846670190958947355801916604025588861116008628224 := by rw [p2c]; rfl
  obtain ⟨M5, u1, u2, u3⟩ := eur_c (w := w) (a1 := Int32.ofNat a) (a2 := below) (a3 := bi (N < 0)) 190 FU (stc X1 267 F2) D.natAbs N.natAbs (by omega) (by omega) (by omega) (by rw [stc_at, c4]; exact eD) (by rw [stc_ne (by decide)]; exact x4)
  rw [Nat.gcd_comm] at u3
  have f5 : rpF M M5 := rpF_trans x3 (rpF_trans (rpF_st (Or.inr rfl)) u2)
  -- one anew
  obtain ⟨G6, X6, y1, y2, y2a, y2b, y3, y4, y5⟩ := step M5 f5
  generalize hG : ((Nat.gcd N.natAbs D.natAbs : Nat) : Int) = G at *
  have g0 : 0 < G := by
    have : G ≠ 0 := by
      intro z
      rw [z, Int.mul_zero] at hQ
      omega
    omega
  have gD : G ≤ D := by
    have q1 : 1 ≤ Q := by
      refine Classical.byContradiction fun z => ?_
      have := Int.mul_le_mul_of_nonneg_right (show Q ≤ 0 by omega) (show 0 ≤ G by omega)
      rw [Int.zero_mul] at this
      omega
    have := Int.mul_le_mul_of_nonneg_right q1 (show 0 ≤ G by omega)
    omega
  have aK : (N.natAbs : Int) = mg K * G := by
    have : mg N = mg K * mg G := by rw [← mgm, ← hK]
    have mG : mg G = G := by unfold mg; rw [if_neg (by omega)]
    have mN : mg N = (N.natAbs : Int) := by unfold mg; split <;> omega
    rw [mG, mN] at this
    exact this
  obtain ⟨M7, d1, d2, d3, d4, d5⟩ := dv_266_267 (w := w) (m := X6) (by rw [y5, u3]; exact g0) (by rw [y5, u3]; omega)
  rw [y4, y5, u3, aK, Int.mul_ediv_cancel _ (show G ≠ 0 by omega)] at d4
  have f7 : rpF M M7 := rpF_trans y3 ⟨fun z z1 z2 z3 _ _ => d2 z z1 z2 z3, d3⟩
  have e267 : w6 (M7.1 267) 0 = G := by rw [d2 267 (by decide) (by decide) (by decide), y5, u3]
  have e259' : w6 (M7.1 259) 0 = D := by rw [f7.1 259 (by decide) (by decide) (by decide) (by decide) (by decide), e259, h6]
  obtain ⟨M8, s1, s2, s3, s4, s5⟩ := dv_259_267 (w := w) (m := M7) (by rw [e267]; exact g0) (by rw [e267]; omega)
  rw [e259', e267, hQ, Int.mul_ediv_cancel _ (show G ≠ 0 by omega)] at s4
  have f8 : rpF M M8 := rpF_trans f7 ⟨fun z z1 z2 z3 _ _ => s2 z z1 z2 z3, s3⟩
  have kN : mg K ≤ (N.natAbs : Int) := by
    have := Int.mul_le_mul_of_nonneg_left (show 1 ≤ G by omega) (mg_nn K)
    omega
  have Q0 : 0 < Q := by
    refine Classical.byContradiction fun z => ?_
    have := Int.mul_le_mul_of_nonneg_right (show Q ≤ 0 by omega) (show 0 ≤ G by omega)
    rw [Int.zero_mul] at this
    omega
  have qD : Q ≤ D := by
    have := Int.mul_le_mul_of_nonneg_left (show 1 ≤ G by omega) (show 0 ≤ Q by omega)
    omega
  have mQ : mg Q = Q := by unfold mg; rw [if_neg (by omega)]
  have K0 := mg_nn K
  have wK : wd (M7.1 249) 0 (mg K) := by rw [← d4]; exact wd_w6
  have wQ : wd (M8.1 249) 0 Q := by rw [← s4]; exact wd_w6
  have lK := isLong_r (w := w) wK (by omega) (by omega)
  have lQ := isLong_r (w := w) wQ (by omega) (by omega)
  obtain ⟨tK, k1, k2⟩ := quoL_r (w := w) (m := M7)
  obtain ⟨tQ, l1, l2⟩ := quoL_r (w := w) (m := M8)
  have zb : (1000000000 : Int64).toInt = 1000000000 := rfl
  -- the end
  have fin : g_X14_part_165 w below (bi (N < 0)) X6 = some (tellP K Q below, M8) := by
    unfold g_X14_part_165 g_X14_part_201
    have last : ∀ s0 : Int32, (s0 = 0 ∧ ¬ mg K < 1000000000) ∨ (s0 = 1 ∧ mg K < 1000000000) → g_X14_part_202 w below (bi (N < 0)) s0 M7 = some (tellP K Q below, M8) := by
      intro s0 hs
      unfold g_X14_part_202 g_X14_part_252 g_X14_part_253 tellP
      rw [k1, b_sm, s1, bv_sm]
      rcases hs with ⟨hs, c⟩ | ⟨hs, c⟩
      · rw [hs, if_pos rfl, if_pos rfl, if_neg (fun z => c z.1)]
      · have tk := k2 (mg K) wK (by omega) (by omega)
        rw [hs, if_neg o1, lQ, b_sm]
        by_cases z1 : -9223372036854775808 ≤ Q ∧ Q < 9223372036854775808
        · have tq := l2 Q wQ z1.1 z1.2
          rw [bi_t z1, if_neg o1, l1, b_sm]
          by_cases z2 : (0 : Int32) ≤ lg_cmp tQ 1000000000
          · have z2' := cmp_nn.mp z2
            rw [zb, tq] at z2'
            rw [if_pos z2, if_pos rfl, if_neg (fun z => by have := z.2; omega)]
          · have z2' : ¬ (1000000000 : Int64).toInt ≤ tQ.toInt := fun z => z2 (cmp_nn.mpr z)
            rw [zb, tq] at z2'
            have z12 : mg K < 1000000000 ∧ mg Q < 1000000000 := ⟨c, by omega⟩
            rw [if_neg z2, if_neg o1]
            by_cases b : below = 0
            · rw [if_pos b, if_pos z12, if_pos b]
              by_cases q : N < 0
              · have K1 : K = - mg K := by
                  have : K < 0 := by
                    refine Classical.byContradiction fun z => ?_
                    have := Int.mul_nonneg (show 0 ≤ K by omega) (show 0 ≤ G by omega)
                    omega
                  unfold mg; rw [if_pos this]; omega
                rw [bi_t q, if_neg o1, l32_of, tk]
                have : -(Int32.ofInt (mg K)) = Int32.ofInt K := by
                  have b1 := bm32 (x := mg K) (by omega) (by omega)
                  have b2 := bm32 (x := K) (by omega) (by omega)
                  have b3 := bm32 (x := - mg K) (by omega) (by omega)
                  rw [i_eq, Int32.toInt_neg, Int32.toInt_ofInt, Int32.toInt_ofInt, b1, b2, b3]
                  omega
                rw [this]
              · have K1 : K = mg K := by
                  have : ¬ K < 0 := by
                    intro z
                    have := Int.mul_le_mul_of_nonneg_right (show K ≤ -1 by omega) (show 0 ≤ G by omega)
                    omega
                  unfold mg; rw [if_neg this]
                rw [bi_f q, if_pos rfl, l32_of, tk, ← K1]
            · rw [if_neg b, if_pos z12, if_neg b, l1, b_sm, l32_of, tq]
        · rw [bi_f z1, if_pos rfl, if_pos rfl, if_neg (fun z => by have := z.2; omega)]
    rw [d1, bv_sm, lK, b_sm]
    by_cases z1 : -9223372036854775808 ≤ mg K ∧ mg K < 9223372036854775808
    · have tk := k2 (mg K) wK z1.1 z1.2
      rw [bi_t z1, if_neg o1, k1, b_sm]
      by_cases z2 : (0 : Int32) ≤ lg_cmp tK 1000000000
      · have z2' := cmp_nn.mp z2
        rw [zb, tk] at z2'
        rw [if_pos z2]
        exact last 0 (Or.inl ⟨rfl, by omega⟩)
      · have z2' : ¬ (1000000000 : Int64).toInt ≤ tK.toInt := fun z => z2 (cmp_nn.mpr z)
        rw [zb, tk] at z2'
        rw [if_neg z2]
        exact last 1 (Or.inr ⟨rfl, by omega⟩)
    · rw [bi_f z1, if_pos rfl]
      exact last 0 (Or.inl ⟨rfl, by omega⟩)
  refine ⟨M8, ?_, f8⟩
  rw [e6, x1, bv_sm, x2, b_sm]
  have pr : prt w (Int32.ofNat a) below (bi (N < 0)) M5 = some (tellP K Q below, M8) := by
    unfold prt
    rw [e6, y1, bv_sm]
    by_cases q : N < 0
    · rw [bi_t q] at fin ⊢
      rw [if_neg o1, y2a q, bv_sm]
      exact fin
    · rw [bi_f q] at fin ⊢
      rw [if_pos rfl, ← y2b q]
      exact fin
  have p70 : g_X14_part_70 w (Int32.ofNat a) below (bi (N < 0)) X1 = some (tellP K Q below, M8) := by
    unfold g_X14_part_70
    rw [c1, bv_sm, hF, u1]
    exact pr
  by_cases q : N < 0
  · rw [bi_t q] at p70 ⊢
    rw [if_neg o1, x2a q, bv_sm]
    exact p70
  · rw [bi_f q] at p70 ⊢
    rw [if_pos rfl, ← x2b q]
    exact p70
theorem k31 {w : rf_w} {m : rf_m} {y : Nat → Int32} (ja : JAng m) (jj : JAdj m) : wp (g_lc_31 w m y) (fun r => r.1 = w ∧ JAdj r.2 ∧ cgF m r.2) := by
  have o1 : ¬ (1 : Int32) = 0 := by decide
  have h80 := ang80 ja
  unfold g_lc_31 g_X11_part
  generalize rf_bz (y 2) = bl
  by_cases h1 : ib (y 1) (m.1 206 16)
  · have ha : (y 1).toNatClampNeg < (m.1 206 16).toNatClampNeg := tn_lt2 h1.1 h1.2
    have ey : Int32.ofNat (y 1).toNatClampNeg = y 1 := of_tn h1.1
    generalize hA : (y 1).toNatClampNeg = a at *
    have gy : rf_in (y 1) 80 = true := by rw [← ey]; exact gof (n := a) (by omega) (by decide)
    have e16 : m.1 26 6 = m.1 206 16 := ja.1
    have hib : ib (y 1) (m.1 26 6) := by rw [e16]; exact h1
    rcases jj with ⟨j1, j2⟩ | ⟨j1, n, FF, D, hadj⟩
    · have j0 := j2 a (by omega)
      have th : g_X0_lowestTerm w m (y 1) bl = some (-2147483648, m) := by
        unfold g_X0_lowestTerm g_X0_layChange
        rw [gy, g_t, hA, if_pos j0, b_sm, if_pos rfl]
      have r16 : (rf_i m 206 0 0).1 206 16 = m.1 206 16 := rfl
      have r88 : (rf_i m 206 0 0).1 206 88 = 0 := j1
      unfold g_X14_part
      simp only [wp_b, wp_ite, wp_g, wp_some, X3_isAngle, X14_isAngle, bi_eq0, hib, r16, h1, r88, th, not_true, false_implies, not_false_eq_true, true_implies, true_and, and_true, decide_true]
      exact JAdj_f (Or.inl ⟨j1, j2⟩) (fun z hz => by rw [rf_i_c, if_neg (by omega)]) (fun z _ => rfl) (fun k hk => by rw [rf_i_c, if_pos rfl, pu_ne hk])
    · obtain ⟨h1', h2', h3', h4', h5', h6', h7'⟩ := id hadj
      obtain ⟨b1, b2, b3, b4⟩ := h7' a (by omega)
      by_cases q : m.1 58 a = 0
      · have th : g_X0_lowestTerm w m (y 1) bl = some (-2147483648, m) := by
          unfold g_X0_lowestTerm g_X0_layChange
          rw [gy, g_t, hA, if_pos q, b_sm, if_pos rfl]
        have r16 : (rf_i m 206 0 0).1 206 16 = m.1 206 16 := rfl
        have r88 : (rf_i m 206 0 0).1 206 88 = 1 := j1
        have r263 : (rf_i m 206 0 0).1 263 a = 0 := by rw [rf_i_c, if_neg (by decide), b3, bi_f (fun z => z q)]
        unfold g_X14_part
        simp only [wp_b, wp_ite, wp_g, wp_some, X3_isAngle, X14_isAngle, bi_eq0, hib, r16, h1, r88, th, hA, gy, r263, o1, not_true, false_implies, not_false_eq_true, true_implies, true_and, and_true, decide_true]
        exact JAdj_f (Or.inr ⟨j1, n, FF, D, hadj⟩) (fun z hz => by rw [rf_i_c, if_neg (by omega)]) (fun z _ => rfl) (fun k hk => by rw [rf_i_c, if_pos rfl, pu_ne hk])
      · obtain ⟨K, Q, hK, hQ, _, _⟩ := low_gcd (N := numA FF m a) h4'
        obtain ⟨M1, t1, t2⟩ := lowestTerm_c (w := w) (below := bl) hadj (show a < 80 by omega) q hK hQ
        rw [ey] at t1
        have rM : ∀ z, 78 < z → (rf_i M1 206 0 0).1 z = (if z = 206 then pu (m.1 206) 0 0 else m.1 z) := fun z hz => by
          rw [rf_i_c]
          by_cases e : z = 206
          · rw [if_pos e, if_pos e, t2.1 206 (by omega)]
          · rw [if_neg e, if_neg e, t2.1 z (by omega)]
        obtain ⟨M2, c1, c2⟩ := part_r (w := w) (M := rf_i M1 206 0 0) (below := bl) hadj (show a < 80 by omega) q hK hQ (by rw [rM 264 (by decide), if_neg (by decide)]) (by rw [rM 259 (by decide), if_neg (by decide)])
        rw [ey] at c1
        have r16 : (rf_i M1 206 0 0).1 206 16 = m.1 206 16 := by rw [rM 206 (by decide), if_pos rfl, pu_ne (by decide)]
        have r88 : (rf_i M1 206 0 0).1 206 88 = 1 := by rw [rM 206 (by decide), if_pos rfl, pu_ne (by decide)]; exact j1
        have r263 : (rf_i M1 206 0 0).1 263 a = 1 := by rw [rM 263 (by decide), if_neg (by decide), b3, bi_t q]
        have ref : g_X14_part w M1 (y 1) bl = some (tellP K Q bl, M2) := by
          unfold g_X14_part
          rw [X14_isAngle, b_sm, r16, bi_t h1, if_neg o1, r88, if_neg o1, gy, g_t, hA, r263, if_neg o1]
          exact c1
        simp only [wp_b, wp_ite, wp_g, wp_some, X3_isAngle, bi_eq0, hib, t1, ref, not_true, false_implies, not_false_eq_true, true_implies, true_and, and_true, decide_true]
        exact JAdj_f (Or.inr ⟨j1, n, FF, D, hadj⟩) (fun z hz => by
          by_cases e : 78 < z
          · rw [c2.1 z (by omega) (by omega) (by omega) (by omega) (by omega), rM z e, if_neg (by omega)]
          · rw [c2.1 z (by omega) (by omega) (by omega) (by omega) (by omega), rf_i_c, if_neg (by omega), t2.1 z (by omega)]) (fun z hz => by rw [c2.2, rf_i_l, t2.2 z (by omega)]) (fun k hk => by rw [c2.1 206 (by decide) (by decide) (by decide) (by decide) (by decide), rM 206 (by decide), if_pos rfl, pu_ne hk])
  · have e16 : m.1 26 6 = m.1 206 16 := ja.1
    have r16 : (rf_i m 206 0 0).1 206 16 = m.1 206 16 := rfl
    unfold g_X14_part
    simp only [wp_b, wp_ite, wp_g, wp_some, X3_isAngle, X14_isAngle, bi_eq0, e16, r16, h1, not_true, false_implies, not_false_eq_true, true_implies, true_and, and_true, decide_true]
    exact JAdj_f jj (fun z hz => by rw [rf_i_c, if_neg (by omega)]) (fun z _ => rfl) (fun k hk => by rw [rf_i_c, if_pos rfl, pu_ne hk])
end PBPart
