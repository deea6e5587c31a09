/-! longs; sine, figure -/
section PBLong
theorem l_lt {a b : Int64} : a < b ↔ a.toInt < b.toInt := Int64.lt_iff_toInt_lt
theorem l_le {a b : Int64} : a ≤ b ↔ a.toInt ≤ b.toInt := Int64.le_iff_toInt_le
theorem l_eq {a b : Int64} : a = b ↔ a.toInt = b.toInt := Int64.toInt_inj.symm
theorem l_0 : (0 : Int64).toInt = 0 := rfl
theorem bm64 {x : Int} (h1 : -9223372036854775808 ≤ x) (h2 : x < 9223372036854775808) : x.bmod (2 ^ 64) = x := by
  rw [Int.bmod_def]
  split <;> omega
theorem rngL (a : Int64) : -9223372036854775808 ≤ a.toInt ∧ a.toInt < 9223372036854775808 := by
  have h1 := Int64.le_toInt a
  have h2 := Int64.toInt_lt a
  omega
theorem addL {a b : Int64} (h1 : -9223372036854775808 ≤ a.toInt + b.toInt) (h2 : a.toInt + b.toInt < 9223372036854775808) : (a + b).toInt = a.toInt + b.toInt := by rw [Int64.toInt_add, bm64 h1 h2]
theorem subL {a b : Int64} (h1 : -9223372036854775808 ≤ a.toInt - b.toInt) (h2 : a.toInt - b.toInt < 9223372036854775808) : (a - b).toInt = a.toInt - b.toInt := by rw [Int64.toInt_sub, bm64 h1 h2]
theorem mulL {a b : Int64} (h1 : -9223372036854775808 ≤ a.toInt * b.toInt) (h2 : a.toInt * b.toInt < 9223372036854775808) : (a * b).toInt = a.toInt * b.toInt := by rw [Int64.toInt_mul, bm64 h1 h2]
theorem i2l {a : Int32} : (Int32.toInt64 a).toInt = a.toInt := Int32.toInt_toInt64 a
theorem l2i {a : Int64} (h1 : -2147483648 ≤ a.toInt) (h2 : a.toInt < 2147483648) : (Int64.toInt32 a).toInt = a.toInt := by rw [Int64.toInt_toInt32, bm32 h1 h2]
theorem divL {a b : Int64} (hb : 0 < b.toInt) : (a / b).toInt = a.toInt.tdiv b.toInt := by
  have r := rngL a
  obtain ⟨q1, q2, q3, q4⟩ := tdiv_pos (a := a.toInt) hb
  have h1 : -9223372036854775808 ≤ a.toInt.tdiv b.toInt ∧ a.toInt.tdiv b.toInt < 9223372036854775808 := by
    by_cases h : 0 ≤ a.toInt
    · rw [q3 h]
      have := Int.ediv_le_self b.toInt h
      have h3 : 0 ≤ a.toInt / b.toInt := Int.ediv_nonneg (by omega) (by omega)
      omega
    · rw [q4 (by omega)]
      have := Int.ediv_le_self b.toInt (show 0 ≤ -a.toInt by omega)
      have h3 : 0 ≤ (-a.toInt) / b.toInt := Int.ediv_nonneg (by omega) (by omega)
      omega
  rw [Int64.toInt_div, bm64 h1.1 h1.2]
theorem cmp_eq0 {a b : Int64} : lg_cmp a b = 0 ↔ a = b := by
  unfold lg_cmp
  split
  · rename_i h
    have h' : b.toInt < a.toInt := l_lt.mp h
    exact ⟨fun e => absurd e (by decide), fun e => by rw [e] at h'; omega⟩
  · split
    · rename_i h; exact ⟨fun _ => h, fun _ => rfl⟩
    · rename_i h; exact ⟨fun e => absurd e (by decide), fun e => absurd e h⟩
theorem cmp_pos {a b : Int64} : (0 : Int32) < lg_cmp a b ↔ b.toInt < a.toInt := by
  unfold lg_cmp
  split
  · rename_i h; exact ⟨fun _ => l_lt.mp h, fun _ => by decide⟩
  · rename_i h
    have h' : ¬ b.toInt < a.toInt := fun e => h (l_lt.mpr e)
    split
    · exact ⟨fun e => absurd e (by decide), fun e => absurd e h'⟩
    · exact ⟨fun e => absurd e (by decide), fun e => absurd e h'⟩
theorem cmp_nn {a b : Int64} : (0 : Int32) ≤ lg_cmp a b ↔ b.toInt ≤ a.toInt := by
  unfold lg_cmp
  split
  · rename_i h
    have h' : b.toInt < a.toInt := l_lt.mp h
    exact ⟨fun _ => by omega, fun _ => by decide⟩
  · rename_i h
    have h' : ¬ b.toInt < a.toInt := fun e => h (l_lt.mpr e)
    split
    · rename_i e; exact ⟨fun _ => by rw [e]; omega, fun _ => by decide⟩
    · rename_i e
      have e' : a.toInt ≠ b.toInt := fun q => e (l_eq.mpr q)
      exact ⟨fun q => absurd q (by decide), fun q => by omega⟩
theorem cmp_neg {a b : Int64} : lg_cmp a b < 0 ↔ a.toInt < b.toInt := by
  have h1 := cmp_nn (a := a) (b := b)
  constructor
  · intro h
    have : ¬ (0 : Int32) ≤ lg_cmp a b := by grind
    rw [h1] at this; omega
  · intro h
    have : ¬ (0 : Int32) ≤ lg_cmp a b := by rw [h1]; omega
    grind
theorem nzl_of {b : Int64} (h : b.toInt ≠ 0) : rf_nzl b = true := by
  unfold rf_nzl
  have : ¬ b = 0 := fun e => h (by rw [e]; rfl)
  simp [this]
theorem xor_nnL {a b : Int64} : 0 ≤ (a ^^^ b).toInt ↔ (0 ≤ a.toInt ↔ 0 ≤ b.toInt) := by
  have key : ∀ x : Int64, 0 ≤ x.toInt ↔ x.toBitVec.msb = false := by
    intro x
    show 0 ≤ x.toBitVec.toInt ↔ _
    cases e : x.toBitVec.msb with
    | false => exact ⟨fun _ => rfl, fun _ => BitVec.toInt_nonneg_of_msb_false e⟩
    | true => exact ⟨fun h => by have := BitVec.toInt_neg_of_msb_true e; omega, fun h => by cases h⟩
  rw [key, key, key, Int64.toBitVec_xor, BitVec.msb_xor]
  cases a.toBitVec.msb <;> cases b.toBitVec.msb <;> simp
theorem rem_L {a b : Int64} (hb2 : 0 < b.toInt) : (a / b * b).toInt = a.toInt.tdiv b.toInt * b.toInt ∧ (a - a / b * b).toInt = a.toInt - a.toInt.tdiv b.toInt * b.toInt := by
  have r := rngL a
  obtain ⟨q1, q2, q3, q4⟩ := tdiv_pos (a := a.toInt) hb2
  have e1 : (a / b * b).toInt = a.toInt.tdiv b.toInt * b.toInt := by
    rw [mulL (by rw [divL hb2]; omega) (by rw [divL hb2]; omega), divL hb2]
  refine ⟨e1, ?_⟩
  rw [subL (by rw [e1]; omega) (by rw [e1]; omega), e1]
/-- rounded down -/
def dwl (a b : Int64) : Int64 := if 0 ≤ (a - a / b * b).toInt then a / b else a / b - 1
theorem X14_downLong' {w : rf_w} {m : rf_m} {a b : Int64} (hb : 0 < b.toInt) : g_X14_downLong w m a b = some (dwl a b, m) := by
  unfold g_X14_downLong dwl
  rw [nzl_of (by omega), g_t, g_t]
  by_cases h : 0 ≤ (a - a / b * b).toInt
  · have : a / b - 0 = a / b := by grind
    have h' : (0 : Int32) ≤ lg_cmp (a - a / b * b) 0 := cmp_nn.mpr (show (0 : Int64).toInt ≤ _ from h)
    rw [if_pos h', if_pos h, this]
  · have h' : ¬ (0 : Int32) ≤ lg_cmp (a - a / b * b) 0 := fun q => h (show (0 : Int64).toInt ≤ _ from cmp_nn.mp q)
    rw [if_neg h', if_neg h]
theorem J9_floorDivL {w : rf_w} {m : rf_m} {a b : Int64} (hb2 : 0 < b.toInt) : g_J9_floorDiv_f86c9 w m a b = some (dwl a b, m) := by
  unfold g_J9_floorDiv_f86c9 dwl
  rw [nzl_of (by omega), g_t]
  obtain ⟨e1, e2⟩ := rem_L (a := a) hb2
  obtain ⟨q1, q2, q3, q4⟩ := tdiv_pos (a := a.toInt) hb2
  by_cases h' : 0 ≤ a.toInt
  · have hx : (0 : Int32) ≤ lg_cmp (a ^^^ b) 0 := cmp_nn.mpr (xor_nnL.mpr ⟨fun _ => by omega, fun _ => h'⟩)
    have hy : 0 ≤ (a - a / b * b).toInt := by
      rw [e2, q3 h']
      have := Int.ediv_mul_le a.toInt (b := b.toInt) (by omega)
      omega
    rw [if_pos hx, if_pos hy]
  · have hx : ¬ (0 : Int32) ≤ lg_cmp (a ^^^ b) 0 := fun hh => h' ((xor_nnL.mp (cmp_nn.mp hh)).mpr (by omega))
    rw [if_neg hx]
    by_cases c : a / b * b = a
    · have hy : 0 ≤ (a - a / b * b).toInt := by rw [e2, ← e1, c]; omega
      rw [if_pos (cmp_eq0.mpr c), if_pos hy]
    · have hy : ¬ 0 ≤ (a - a / b * b).toInt := by
        rw [e2]
        have : (a / b * b).toInt ≠ a.toInt := fun hh => c (l_eq.mpr hh)
        rw [e1] at this
        omega
      rw [if_neg (fun q => c (cmp_eq0.mp q)), if_neg hy]
/-- the sine of seconds -/
def snx (s : Int32) : Int64 := Int32.toInt64 s * (648000 - Int32.toInt64 s)
def sn (s : Int32) : Int32 := Int64.toInt32 (4000000 * snx s / (524880000000 - snx s))
theorem par_rng {s : Int} (h0 : 0 ≤ s) (h1 : s ≤ 648000) : 0 ≤ s * (648000 - s) ∧ s * (648000 - s) ≤ 104976000000 := by
  refine ⟨Int.mul_nonneg h0 (by omega), ?_⟩
  have h : 0 ≤ (s - 324000) * (s - 324000) := by
    rw [← Int.natAbs_mul_self (a := s - 324000)]; omega
  have e : (s - 324000) * (s - 324000) = 104976000000 - s * (648000 - s) := by grind
  omega
theorem snx_I {s : Int32} (h0 : 0 ≤ s.toInt) (h1 : s.toInt ≤ 648000) : (snx s).toInt = s.toInt * (648000 - s.toInt) := by
  have e0 : (648000 : Int64).toInt = 648000 := rfl
  have e1 : (648000 - Int32.toInt64 s).toInt = 648000 - s.toInt := by rw [subL (by rw [e0, i2l]; omega) (by rw [e0, i2l]; omega), e0, i2l]
  have p := par_rng h0 h1
  unfold snx
  rw [mulL (by rw [e1, i2l]; omega) (by rw [e1, i2l]; omega), e1, i2l]
theorem sn_I {s : Int32} (h0 : 0 ≤ s.toInt) (h1 : s.toInt ≤ 648000) : (sn s).toInt = 4000000 * (s.toInt * (648000 - s.toInt)) / (524880000000 - s.toInt * (648000 - s.toInt)) ∧ 0 ≤ (sn s).toInt ∧ (sn s).toInt ≤ 1000000 ∧ 0 < (524880000000 - snx s).toInt := by
  have p := par_rng h0 h1
  have e := snx_I h0 h1
  have c1 : (4000000 : Int64).toInt = 4000000 := rfl
  have c2 : (524880000000 : Int64).toInt = 524880000000 := rfl
  have e1 : (4000000 * snx s).toInt = 4000000 * (s.toInt * (648000 - s.toInt)) := by rw [mulL (by rw [c1, e]; omega) (by rw [c1, e]; omega), c1, e]
  have e2 : (524880000000 - snx s).toInt = 524880000000 - s.toInt * (648000 - s.toInt) := by rw [subL (by rw [c2, e]; omega) (by rw [c2, e]; omega), c2, e]
  generalize s.toInt * (648000 - s.toInt) = X at *
  have hd : 0 < (524880000000 - snx s).toInt := by rw [e2]; omega
  have hp : (0 : Int) < 524880000000 - X := by omega
  have e3 : (4000000 * snx s / (524880000000 - snx s)).toInt = 4000000 * X / (524880000000 - X) := by
    rw [divL hd, e1, e2, Int.tdiv_eq_ediv_of_nonneg (by omega)]
  have b1 : 0 ≤ 4000000 * X / (524880000000 - X) := Int.ediv_nonneg (by omega) (by omega)
  have b2 : 4000000 * X / (524880000000 - X) < 1000001 := by
    rw [Int.ediv_lt_iff_lt_mul hp]; omega
  have e4 : (sn s).toInt = 4000000 * X / (524880000000 - X) := by
    unfold sn
    rw [l2i (by rw [e3]; omega) (by rw [e3]; omega), e3]
  rw [e4]
  exact ⟨rfl, b1, by omega, hd⟩
theorem X11_sineOf {w : rf_w} {m : rf_m} {s : Int32} (h0 : 0 ≤ s.toInt) (h1 : s.toInt ≤ 648000) : g_X11_sineOf w m s = some (sn s, m) := by
  have e0 : (648000 : Int32).toInt = 648000 := rfl
  have e : Int32.toInt64 (648000 - s) = 648000 - Int32.toInt64 s := by
    rw [l_eq, i2l, subI (by rw [e0]; omega) (by rw [e0]; omega), subL (by rw [i2l]; show _ ≤ (648000 : Int) - _; omega) (by rw [i2l]; show (648000 : Int) - _ < _; omega), i2l]
    rfl
  have h := (sn_I h0 h1).2.2.2
  have h' : rf_nzl (524880000000 - snx s) = true := nzl_of (Int.ne_of_gt h)
  refine wp_eq.mp ?_
  unfold g_X11_sineOf sn
  rw [wp_vl, e]
  unfold snx at *
  rw [wp_g, wp_some]
  exact ⟨h', rfl⟩
theorem ten_I {t : Int32} (h0 : 0 ≤ t.toInt) : (t / 10).toInt = t.toInt / 10 := by
  rw [divI (by decide)]
  show t.toInt.tdiv (10 : Int) = _
  exact Int.tdiv_eq_ediv_of_nonneg h0
theorem X14_sineOf {w : rf_w} {m : rf_m} {t : Int32} (h0 : 0 ≤ t.toInt) (h1 : t.toInt ≤ 6480000) : g_X14_sineOf w m t = some (sn (t / 10), m) := by
  have e := ten_I h0
  have h := (sn_I (s := t / 10) (by omega) (by omega)).2.2.2
  have h' : rf_nzl (524880000000 - snx (t / 10)) = true := nzl_of (Int.ne_of_gt h)
  refine wp_eq.mp ?_
  unfold g_X14_sineOf sn
  rw [wp_vl]
  unfold snx at *
  rw [wp_g, wp_some]
  exact ⟨h', rfl⟩
theorem k33 {w : rf_w} {m : rf_m} {y : Nat → Int32} : wp (g_lc_33 w m y) (fun r => r.1 = w) := by
  unfold g_lc_33 g_X11_sine g_X14_sine
  by_cases h1 : iv 0 6480000 (y 1)
  · have h2 := h1.1
    have h3 := h1.2
    rw [i_le] at h2 h3
    have h4 : 0 ≤ (y 1).toInt := h2
    have h5 : (y 1).toInt ≤ 6480000 := h3
    have e := ten_I h4
    have e1 : ∀ M, g_X11_sineOf w M (y 1 / 10) = some (sn (y 1 / 10), M) := fun M => X11_sineOf (by omega) (by omega)
    have e2 : ∀ M, g_X14_sineOf w M (y 1) = some (sn (y 1 / 10), M) := fun M => X14_sineOf h4 h5
    simp [wp_b, wp_g, wp_ite, wp_some, X11_isWithin, X14_in, bi_eq0, h1, e1, e2]
  · simp [wp_b, wp_g, wp_ite, wp_some, X11_isWithin, X14_in, bi_eq0, h1]
/-- the sums of the arcs: x, y, xx, xy after i of them, as ints -/
def arI (i : Nat) (s : Int64 × Int64 × Int64 × Int64) : Prop := 0 ≤ s.1.toInt ∧ s.1.toInt ≤ 90 * i ∧ 0 ≤ s.2.2.1.toInt ∧ s.2.2.1.toInt ≤ 8100 * i ∧ (∀ d : Int, 0 ≤ s.2.2.1.toInt - 2 * s.1.toInt * d + i * (d * d)) ∧ 0 ≤ i * s.2.2.1.toInt - s.1.toInt * s.1.toInt
theorem figure_eq {w : rf_w} {m M : rf_m} {b : Int32} (ja : JArc m) (q1 : M.1 206 138 = m.1 206 138) (q2 : M.1 303 = m.1 303) (q3 : M.1 304 = m.1 304) : ∃ v, g_X6_fit w m b = some (v, m) ∧ g_X14_figure_19 w rf_fuel b 0 0 0 0 0 M = some (v, M) := by
  obtain ⟨c1, c2, c3, c4, c5, c6⟩ := ja
  have hR := of_tn c2.1
  have hb : (m.1 206 138).toNatClampNeg ≤ 30 := tn_le c2.1 c2.2 (by decide)
  refine rel_loop (Fc := fun n i (s : Int64 × Int64 × Int64 × Int64) => g_X6_fit_14 w n b s.1 s.2.1 s.2.2.1 s.2.2.2 i m) (Fr := fun n i (s : Int64 × Int64 × Int64 × Int64) => g_X14_figure_19 w n b s.1 s.2.1 s.2.2.1 s.2.2.2 i M) (P := fun x z => ∃ v, x = some (v, m) ∧ z = some (v, M)) (I := arI) (R := (m.1 206 138).toNatClampNeg) (fun n s hs => ?_) (fun n i s hi hs => ?_) rf_fuel 0 (0, 0, 0, 0) (by omega) (by unfold rf_fuel; omega) ?_
  · show ∃ v, g_X6_fit_14_b w _ b s.1 s.2.1 s.2.2.1 s.2.2.2 _ m = _ ∧ g_X14_figure_19_b w _ b s.1 s.2.1 s.2.2.1 s.2.2.2 _ M = _
    unfold g_X6_fit_14_b g_X14_figure_19_b
    have hA : m.1 41 3 ≤ m.1 206 138 := by rw [c1]; exact Int32.le_refl _
    have hB : M.1 206 138 ≤ m.1 206 138 := by rw [q1]; exact Int32.le_refl _
    rw [hR, if_pos hA, if_pos hB, c1, q1]
    simp only [rf_vl]
    obtain ⟨a1, a2, a3, a4, a5, a6⟩ := hs
    have hN : (m.1 206 138).toInt = ((m.1 206 138).toNatClampNeg : Int) := (tn_toInt c2.1).symm
    have xx : 0 ≤ s.1.toInt * s.1.toInt := Int.mul_nonneg a1 a1
    have xx2 : s.1.toInt * s.1.toInt ≤ 2700 * 2700 := Int.mul_le_mul (by omega) (by omega) a1 (by omega)
    have nx : 0 ≤ (m.1 206 138).toInt * s.2.2.1.toInt := Int.mul_nonneg (by omega) a3
    have nx2 : (m.1 206 138).toInt * s.2.2.1.toInt ≤ 30 * 243000 := Int.mul_le_mul (by omega) (by omega) a3 (by omega)
    have e1 : (Int32.toInt64 (m.1 206 138) * s.2.2.1).toInt = (m.1 206 138).toInt * s.2.2.1.toInt := by rw [mulL (by rw [i2l]; omega) (by rw [i2l]; omega), i2l]
    have e2 : (s.1 * s.1).toInt = s.1.toInt * s.1.toInt := mulL (by omega) (by omega)
    have e3 : (Int32.toInt64 (m.1 206 138) * s.2.2.1 - s.1 * s.1).toInt = (m.1 206 138).toInt * s.2.2.1.toInt - s.1.toInt * s.1.toInt := by rw [subL (by rw [e1, e2]; omega) (by rw [e1, e2]; omega), e1, e2]
    rw [← hN] at a6
    by_cases z : (Int32.toInt64 (m.1 206 138) * s.2.2.1 - s.1 * s.1).toInt = 0
    · have z1 : ¬ (0 : Int32) < lg_cmp (Int32.toInt64 (m.1 206 138) * s.2.2.1 - s.1 * s.1) 0 := by rw [cmp_pos, l_0]; omega
      have z2 : lg_cmp (Int32.toInt64 (m.1 206 138) * s.2.2.1 - s.1 * s.1) 0 = 0 := by rw [cmp_eq0, l_eq, z]; rfl
      rw [if_neg z1, if_pos z2]
      exact ⟨_, rfl, rfl⟩
    · have p : 0 < (Int32.toInt64 (m.1 206 138) * s.2.2.1 - s.1 * s.1).toInt := by omega
      have z1 : (0 : Int32) < lg_cmp (Int32.toInt64 (m.1 206 138) * s.2.2.1 - s.1 * s.1) 0 := by rw [cmp_pos, l_0]; omega
      have z2 : ¬ lg_cmp (Int32.toInt64 (m.1 206 138) * s.2.2.1 - s.1 * s.1) 0 = 0 := by rw [cmp_eq0, l_eq, l_0]; omega
      rw [if_pos z1, if_neg z2, J9_floorDivL p, X14_downLong' p, J9_floorDivL p, X14_downLong' p, Int64.mul_comm s.2.2.1 s.2.1]
      split
      · exact ⟨_, rfl, rfl⟩
      · exact ⟨_, rfl, rfl⟩
  · have h1 : ¬ m.1 206 138 ≤ Int32.ofNat i := by rw [← hR]; exact nle hi (by omega)
    have g : rf_in (Int32.ofNat i) 30 = true := gof (by omega) (by decide)
    have t : (Int32.ofNat i).toNatClampNeg = i := tn_of (by omega)
    refine Or.inr ?_
    show ∃ s' : Int64 × Int64 × Int64 × Int64, _ ∧ g_X6_fit_14_b w (g_X6_fit_14 w n) b s.1 s.2.1 s.2.2.1 s.2.2.2 _ m = _ ∧ g_X14_figure_19_b w (g_X14_figure_19 w n) b s.1 s.2.1 s.2.2.1 s.2.2.2 _ M = _
    unfold g_X6_fit_14_b g_X14_figure_19_b
    have b1 := c4 i
    have b2 : 0 ≤ (m.1 303 i).toInt := by have := b1.1; rw [i_le] at this; exact this
    have b3 : (m.1 303 i).toInt ≤ 90 := by have := b1.2; rw [i_le] at this; exact this
    have dd : 0 ≤ (m.1 303 i).toInt * (m.1 303 i).toInt := Int.mul_nonneg b2 b2
    have dd2 : (m.1 303 i).toInt * (m.1 303 i).toInt ≤ 90 * 90 := Int.mul_le_mul b3 b3 b2 (by omega)
    have e0 : Int32.toInt64 (m.1 303 i * m.1 303 i) = Int32.toInt64 (m.1 303 i) * Int32.toInt64 (m.1 303 i) := by
      rw [l_eq, i2l, mulI (by omega) (by omega), mulL (by rw [i2l]; omega) (by rw [i2l]; omega), i2l]
    rw [c1, q1, if_neg h1, if_neg h1, q2, q3, c3, c5, g, t, e0]
    simp only [g_t, rf_vl]
    rw [of_succ]
    refine ⟨(s.1 + Int32.toInt64 (m.1 303 i), s.2.1 + Int32.toInt64 (m.1 304 i), s.2.2.1 + Int32.toInt64 (m.1 303 i) * Int32.toInt64 (m.1 303 i), s.2.2.2 + Int32.toInt64 (m.1 303 i) * Int32.toInt64 (m.1 304 i)), ?_, rfl, rfl⟩
    obtain ⟨a1, a2, a3, a4, a5, a6⟩ := hs
    have f0 : (Int32.toInt64 (m.1 303 i) * Int32.toInt64 (m.1 303 i)).toInt = (m.1 303 i).toInt * (m.1 303 i).toInt := by rw [mulL (by rw [i2l]; omega) (by rw [i2l]; omega), i2l]
    have f1 : (s.1 + Int32.toInt64 (m.1 303 i)).toInt = s.1.toInt + (m.1 303 i).toInt := by rw [addL (by rw [i2l]; omega) (by rw [i2l]; omega), i2l]
    have f2 : (s.2.2.1 + Int32.toInt64 (m.1 303 i) * Int32.toInt64 (m.1 303 i)).toInt = s.2.2.1.toInt + (m.1 303 i).toInt * (m.1 303 i).toInt := by rw [addL (by rw [f0]; omega) (by rw [f0]; omega), f0]
    unfold arI
    simp only [f1, f2]
    generalize s.1.toInt = X at *
    generalize s.2.2.1.toInt = XX at *
    generalize (m.1 303 i).toInt = D at *
    have sqn : ∀ z : Int, 0 ≤ z * z := fun z => by rw [← Int.natAbs_mul_self (a := z)]; omega
    refine ⟨by omega, by omega, by omega, by omega, fun d => ?_, ?_⟩
    · have h2 := a5 d
      have h3 := sqn (D - d)
      have e : XX + D * D - 2 * (X + D) * d + ((i + 1 : Nat) : Int) * (d * d) = (XX - 2 * X * d + i * (d * d)) + (D - d) * (D - d) := by
        rw [Int.natCast_add]; grind
      rw [e]; omega
    · have h2 := a5 D
      have e : ((i + 1 : Nat) : Int) * (XX + D * D) - (X + D) * (X + D) = (i * XX - X * X) + (XX - 2 * X * D + i * (D * D)) := by
        rw [Int.natCast_add]; grind
      rw [e]; omega
  · refine ⟨by decide, by decide, by decide, by decide, fun d => ?_, by decide⟩
    simp [l_0]
theorem k53 {w : rf_w} {m : rf_m} {y : Nat → Int32} (ja : JArc m) : wp (g_lc_53 w m y) (fun r => r.1 = w) := by
  obtain ⟨v, e1, e2⟩ := figure_eq (w := w) (b := rf_bz (y 1)) (M := rf_i m 206 0 0) ja rfl rfl rfl
  unfold g_lc_53 g_X11_figure g_X14_figure
  simp [wp_b, wp_g, wp_some, e1, e2, cmp_eq0]
end PBLong
