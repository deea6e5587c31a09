/-! see -/
section PBSee
theorem X5_towerOn7 {w : rf_w} {m : rf_m} {a d : Int32} : ∀ t n, t ≤ 512 → t < n → g_X5_towerOn_7 w n a d (Int32.ofNat t - 1) m = some (lastT (m.1 6) (m.1 7) (m.1 8) t a d, m) := by
  intro t
  induction t with
  | zero =>
    intro n _ hn
    obtain ⟨k, rfl⟩ : ∃ k, n = k + 1 := ⟨n - 1, by omega⟩
    show g_X5_towerOn_7_b w (g_X5_towerOn_7 w k) a d _ m = _
    unfold g_X5_towerOn_7_b
    rw [if_pos (by decide)]
    rfl
  | succ t ih =>
    intro n ht hn
    obtain ⟨k, rfl⟩ : ∃ k, n = k + 1 := ⟨n - 1, by omega⟩
    have e : Int32.ofNat (t + 1) - 1 = Int32.ofNat t := by rw [← of_succ]; grind
    rw [e]
    show g_X5_towerOn_7_b w (g_X5_towerOn_7 w k) a d _ m = _
    have e2 : Int32.ofNat t + (-1) = Int32.ofNat t - 1 := by grind
    have g : rf_in (Int32.ofNat t) 512 = true := gof (by omega) (by decide)
    have h0 : ¬ Int32.ofNat t < 0 := by have := of_nn (a := t) (by omega); grind
    unfold g_X5_towerOn_7_b g_X5_towerOn_38 lastT
    rw [if_neg h0, g, g_t, tn_of (by omega), e2, ih k (by omega) (by omega)]
    by_cases h1 : m.1 6 t = a
    · rw [if_pos h1, g_t]
      by_cases h2 : d < m.1 7 t
      · rw [if_pos h2, if_neg (fun hh => by have := hh.2; grind)]
      · rw [if_neg h2, g_t, if_pos ⟨h1, by grind⟩]
    · rw [if_neg h1, if_neg (fun hh => h1 hh.1)]
theorem X5_topOf' {w : rf_w} {m : rf_m} {c : Nat} {a d : Int32} (jm : JMark m) (jt : JTow c m) (hc : c ≤ 512) (ha : ib a (m.1 206 4)) (hd : ib d 10000) : ∃ v, g_X5_topOf w m a d = some (v, m) ∧ (∀ M : rf_m, M.1 207 = m.1 2 → M.1 209 = m.1 209 → M.1 210 = m.1 210 → g_X14_topOf w M a d = some (v, M)) := by
  obtain ⟨c1, c2, c3, c4, c5⟩ := jm
  obtain ⟨d1, d2, d3, d4⟩ := jt
  have g : rf_in a 30 = true := gin ha.1 (by grind [iv, ib]) (by decide)
  have g2 : rf_in (m.1 209 a.toNatClampNeg) 1024 = true := by
    have := c4 a.toNatClampNeg
    exact gin this.1 (by grind [iv]) (by decide)
  have hk : a.toNatClampNeg < 30 := tn_lt ha.1 (by grind [iv, ib]) (by decide)
  have hk2 : d.toNatClampNeg < 10000 := tn_lt hd.1 hd.2 (by decide)
  have e : (10000 : Int32) * a + d = Int32.ofNat (10000 * a.toNatClampNeg + d.toNatClampNeg) := by
    rw [Int32.ofNat_add, Int32.ofNat_mul, of_tn ha.1, of_tn hd.1]; rfl
  have g3 : rf_in ((10000 : Int32) * a + d) 300000 = true := by rw [e]; exact gof (by omega) (by decide)
  have t3 : ((10000 : Int32) * a + d).toNatClampNeg = 10000 * a.toNatClampNeg + d.toNatClampNeg := by rw [e]; exact tn_of (by omega)
  have ht : g_X5_towerOn w m a d = some (m.1 210 (10000 * a.toNatClampNeg + d.toNatClampNeg), m) := by
    unfold g_X5_towerOn
    have := X5_towerOn7 (w := w) (m := m) (a := a) (d := d) (m.1 1 9).toNatClampNeg rf_fuel (by omega) (by unfold rf_fuel; omega)
    rw [of_tn d1] at this
    rw [this, d4 _ _ hk hk2, of_tn ha.1, of_tn hd.1]
  refine ⟨m.1 2 (m.1 209 a.toNatClampNeg).toNatClampNeg + 5 + m.1 210 (10000 * a.toNatClampNeg + d.toNatClampNeg), ?_, ?_⟩
  · unfold g_X5_topOf
    rw [g, g_t, c3, g2, g_t, ht]
    rfl
  · intro M q1 q2 q3
    unfold g_X14_topOf
    rw [g, g_t, q2, g2, g_t, g3, g_t, t3, q1, q3]
theorem q_rng {n k d : Int} (hk1 : 1 ≤ k) (hk2 : k < n) : (0 ≤ d → 0 ≤ (2 * k * d + n) / (2 * n) ∧ (2 * k * d + n) / (2 * n) ≤ d) ∧ (d < 0 → d ≤ (2 * k * d + n) / (2 * n) ∧ (2 * k * d + n) / (2 * n) ≤ 0) := by
  have hn : 0 < 2 * n := by omega
  constructor
  · intro hd
    have h1 : 0 ≤ k * d := Int.mul_nonneg (by omega) hd
    have h2 : k * d ≤ n * d := Int.mul_le_mul_of_nonneg_right (by omega) hd
    have e1 : 2 * k * d = 2 * (k * d) := by rw [Int.mul_assoc]
    have e2 : d * (2 * n) = 2 * (n * d) := by rw [Int.mul_comm d, Int.mul_assoc]
    constructor
    · exact Int.ediv_nonneg (by omega) (by omega)
    · have : (2 * k * d + n) / (2 * n) < d + 1 := by
        rw [Int.ediv_lt_iff_lt_mul hn, Int.add_mul]; omega
      omega
  · intro hd
    have h1 : k * d ≤ 0 := Int.mul_nonpos_of_nonneg_of_nonpos (by omega) (by omega)
    have h2 : n * d ≤ k * d := Int.mul_le_mul_of_nonpos_right (by omega) (by omega)
    have e1 : 2 * k * d = 2 * (k * d) := by rw [Int.mul_assoc]
    have e2 : d * (2 * n) = 2 * (n * d) := by rw [Int.mul_comm d, Int.mul_assoc]
    constructor
    · rw [Int.le_ediv_iff_mul_le hn]; omega
    · have : (2 * k * d + n) / (2 * n) < 0 + 1 := by
        rw [Int.ediv_lt_iff_lt_mul hn]; omega
      omega
theorem q32 {n k d : Int32} (hk1 : 1 ≤ k.toInt) (hk2 : k.toInt < n.toInt) (hn : n.toInt ≤ 31) (hd : -31 ≤ d.toInt ∧ d.toInt ≤ 31) : 0 < 2 * n ∧ (0 ≤ d.toInt → 0 ≤ (dwn (2 * k * d + n) (2 * n)).toInt ∧ (dwn (2 * k * d + n) (2 * n)).toInt ≤ d.toInt) ∧ (d.toInt < 0 → d.toInt ≤ (dwn (2 * k * d + n) (2 * n)).toInt ∧ (dwn (2 * k * d + n) (2 * n)).toInt ≤ 0) := by
  have two : (2 : Int32).toInt = 2 := rfl
  have e1 : (2 * n).toInt = 2 * n.toInt := by rw [mulI (by rw [two]; omega) (by rw [two]; omega), two]
  have e2 : (2 * k).toInt = 2 * k.toInt := by rw [mulI (by rw [two]; omega) (by rw [two]; omega), two]
  have b1 : 2 * k.toInt * d.toInt ≤ 2 * k.toInt * 31 := Int.mul_le_mul_of_nonneg_left hd.2 (by omega)
  have b2 : 2 * k.toInt * (-31) ≤ 2 * k.toInt * d.toInt := Int.mul_le_mul_of_nonneg_left hd.1 (by omega)
  have e3 : (2 * k * d).toInt = 2 * k.toInt * d.toInt := by rw [mulI (by rw [e2]; omega) (by rw [e2]; omega), e2]
  have e4 : (2 * k * d + n).toInt = 2 * k.toInt * d.toInt + n.toInt := by rw [addI (by rw [e3]; omega) (by rw [e3]; omega), e3]
  have p : 0 < 2 * n := by rw [i_lt, i_0, e1]; omega
  rw [dwn_I p (by rw [e4]; omega), e4, e1]
  exact ⟨p, q_rng hk1 hk2⟩
/-- the loops over the line, side by side -/
theorem see_loop {w : rf_w} {m M : rf_m} {x y dx dy n a b : Int32} (e1 : M.1 207 = m.1 2) (e2 : M.1 208 = m.1 3) (hx : 0 ≤ x.toInt ∧ x.toInt ≤ 31) (hy : 0 ≤ y.toInt ∧ y.toInt ≤ 31) (hx2 : 0 ≤ x.toInt + dx.toInt ∧ x.toInt + dx.toInt ≤ 31) (hy2 : 0 ≤ y.toInt + dy.toInt ∧ y.toInt + dy.toInt ≤ 31) (hn : 0 ≤ n.toInt ∧ n.toInt ≤ 31) : ∀ f k, 1 ≤ k → k ≤ 32 → 32 - k < f → ∃ v, g_X5_lookOver_99 w f x y dx dy n a b (Int32.ofNat k) m = some (v, m) ∧ g_X14_see_181 w f x y dx dy n a b (Int32.ofNat k) M = some (v, M) := by
  intro f
  induction f with
  | zero => intro k _ _ h; omega
  | succ f ih =>
    intro k hk1 hk2 hf
    show ∃ v, g_X5_lookOver_99_b w (g_X5_lookOver_99 w f) x y dx dy n a b _ m = _ ∧ g_X14_see_181_b w (g_X14_see_181 w f) x y dx dy n a b _ M = _
    unfold g_X5_lookOver_99_b g_X14_see_181_b
    by_cases h : n ≤ Int32.ofNat k
    · rw [if_pos h, if_pos h]
      exact ⟨0, rfl, rfl⟩
    · rw [if_neg h, if_neg h]
      have kI : (Int32.ofNat k).toInt = k := ofI (by omega)
      have h' : (k : Int) < n.toInt := by rw [i_le, kI] at h; omega
      obtain ⟨p, u1, u2⟩ := q32 (n := n) (k := Int32.ofNat k) (d := dy) (by rw [kI]; omega) (by rw [kI]; exact h') hn.2 (by omega)
      obtain ⟨_, v1, v2⟩ := q32 (n := n) (k := Int32.ofNat k) (d := dx) (by rw [kI]; omega) (by rw [kI]; exact h') hn.2 (by omega)
      rw [J9_floorDiv p, X14_down' p]
      simp only [rf_b]
      rw [J9_floorDiv p, X14_down' p]
      simp only [rf_vi]
      have r1 : 0 ≤ y.toInt + (dwn (2 * Int32.ofNat k * dy + n) (2 * n)).toInt ∧ y.toInt + (dwn (2 * Int32.ofNat k * dy + n) (2 * n)).toInt ≤ 31 := by
        by_cases q : 0 ≤ dy.toInt
        · have := u1 q; omega
        · have := u2 (by omega); omega
      have r2 : 0 ≤ x.toInt + (dwn (2 * Int32.ofNat k * dx + n) (2 * n)).toInt ∧ x.toInt + (dwn (2 * Int32.ofNat k * dx + n) (2 * n)).toInt ≤ 31 := by
        by_cases q : 0 ≤ dx.toInt
        · have := v1 q; omega
        · have := v2 (by omega); omega
      generalize dwn (2 * Int32.ofNat k * dy + n) (2 * n) = q1 at *
      generalize dwn (2 * Int32.ofNat k * dx + n) (2 * n) = q2 at *
      have z0 : (32 : Int32).toInt = 32 := rfl
      have z1 : (y + q1).toInt = y.toInt + q1.toInt := addI (by omega) (by omega)
      have z2 : ((y + q1) * 32).toInt = (y.toInt + q1.toInt) * 32 := by rw [mulI (by rw [z1, z0]; omega) (by rw [z1, z0]; omega), z1, z0]
      have z3 : ((y + q1) * 32 + x).toInt = (y.toInt + q1.toInt) * 32 + x.toInt := by rw [addI (by rw [z2]; omega) (by rw [z2]; omega), z2]
      have z4 : ((y + q1) * 32 + x + q2).toInt = (y.toInt + q1.toInt) * 32 + x.toInt + q2.toInt := by rw [addI (by rw [z3]; omega) (by rw [z3]; omega), z3]
      have g : rf_in ((y + q1) * 32 + x + q2) 1024 = true := gin (by rw [i_le, i_0, z4]; omega) (by rw [i_lt, z4]; show _ < (1024 : Int); omega) (by decide)
      have gz : rf_nz n = true := nz_of (by rw [i_lt, i_0]; omega)
      have cm : (32 : Int32) * (y + q1) = (y + q1) * 32 := Int32.mul_comm _ _
      rw [cm, g, gz, e1, e2]
      simp only [g_t]
      split
      · rw [of_succ]
        have : k + 1 ≤ 32 := by omega
        exact ih (k + 1) (by omega) this (by omega)
      · exact ⟨_, rfl, rfl⟩
theorem cell_xy {c : Int32} (h : iv 0 1023 c) : (0 ≤ (c - c / 32 * 32).toInt ∧ (c - c / 32 * 32).toInt ≤ 31) ∧ 0 ≤ (c / 32).toInt ∧ (c / 32).toInt ≤ 31 := by
  have h0 : 0 ≤ c.toInt := by have := h.1; rw [i_le, i_0] at this; exact this
  have h1 : c.toInt ≤ 1023 := by have := h.2; rw [i_le] at this; exact this
  have p : (0 : Int32) < 32 := by decide
  have e := (rem_I (a := c) p).2
  rw [e, divI p]
  have e2 : (32 : Int32).toInt = 32 := rfl
  rw [e2, Int.tdiv_eq_ediv_of_nonneg h0]
  omega
theorem sub_I2 {a b : Int32} (ha : 0 ≤ a.toInt ∧ a.toInt ≤ 31) (hb : 0 ≤ b.toInt ∧ b.toInt ≤ 31) : (a - b).toInt = a.toInt - b.toInt := subI (by omega) (by omega)
def ab (a : Int32) : Int32 := if (0 : Int32) ≤ a then a else -a
def mx2 (a b : Int32) : Int32 := if ab a < ab b then ab b else ab a
theorem abs_eq {w : rf_w} {m : rf_m} {a : Int32} : g_abs w m a = some (ab a, m) := by unfold g_abs ab; split <;> rfl
theorem max_eq {w : rf_w} {m : rf_m} {a b : Int32} : g_max w m a b = some (if a < b then b else a, m) := by unfold g_max; split <;> rfl
theorem min_eq {w : rf_w} {m : rf_m} {a b : Int32} : g_min w m a b = some (if b < a then b else a, m) := by unfold g_min; split <;> rfl
theorem mx2_I {a b : Int32} (ha : -31 ≤ a.toInt ∧ a.toInt ≤ 31) (hb : -31 ≤ b.toInt ∧ b.toInt ≤ 31) : 0 ≤ (mx2 a b).toInt ∧ (mx2 a b).toInt ≤ 31 := by
  have key : ∀ c : Int32, -31 ≤ c.toInt ∧ c.toInt ≤ 31 → 0 ≤ (ab c).toInt ∧ (ab c).toInt ≤ 31 := by
    intro c hc
    unfold ab
    split
    · rename_i h; rw [i_le, i_0] at h; omega
    · rename_i h
      rw [i_le, i_0] at h
      rw [Int32.toInt_neg, bm32 (by omega) (by omega)]; omega
  unfold mx2
  split
  · exact key b hb
  · exact key a ha
theorem see_tail {w : rf_w} {M : rf_m} {a b d h X Y DX DY N Q va vb v s0 : Int32} (hq : g_X14_reachOf w M d h = some (Q, M)) (ha : g_X14_topOf w M a d = some (va, M)) (hb : g_X14_topOf w M b d = some (vb, M)) (hv : g_X14_see_181 w rf_fuel X Y DX DY N va vb 1 M = some (v, M)) : g_X14_see_135 w a b d h X Y DX DY N s0 M = some (if N ≤ (if s0 = 0 then Q * 1 else Q * 2) then v else 1, M) := by
  unfold g_X14_see_135
  rw [hq]
  simp only [rf_b]
  by_cases h0 : s0 = 0
  · rw [if_pos h0, if_pos h0]
    unfold g_X14_see_156
    rw [ha]
    simp only [rf_b]
    rw [hb]
    simp only []
    rw [hv]
    split <;> rfl
  · rw [if_neg h0, if_neg h0]
    unfold g_X14_see_156
    rw [ha]
    simp only [rf_b]
    rw [hb]
    simp only []
    rw [hv]
    split <;> rfl
theorem see_fin {w : rf_w} {m : rf_m} {a b d h Q va vb v : Int32} (g1 : rf_in a 30 = true) (g2 : rf_in b 30 = true) (m3 : m.1 4 = m.1 209) (m5 : m.1 5 = m.1 214) (m1 : m.1 1 4 = m.1 206 4) (h1 : ib a (m.1 206 4)) (h2 : ib b (m.1 206 4)) (h3 : ¬ a = b) (h4 : ib d 10000) (h5 : ib h 24) (hQ1 : g_X5_reachTo w m b d h = g_X5_reachTo_30 w b h Q m) (hQ2 : g_X14_reachOf w (rf_i m 206 0 0) d h = some (Q, rf_i m 206 0 0)) (ha : g_X5_topOf w m a d = some (va, m)) (hb : g_X5_topOf w m b d = some (vb, m)) (ha2 : g_X14_topOf w (rf_i m 206 0 0) a d = some (va, rf_i m 206 0 0)) (hb2 : g_X14_topOf w (rf_i m 206 0 0) b d = some (vb, rf_i m 206 0 0)) (hv1 : g_X5_lookOver_99 w rf_fuel (m.1 209 a.toNatClampNeg - m.1 209 a.toNatClampNeg / 32 * 32) (m.1 209 a.toNatClampNeg / 32) (m.1 209 b.toNatClampNeg - m.1 209 b.toNatClampNeg / 32 * 32 - (m.1 209 a.toNatClampNeg - m.1 209 a.toNatClampNeg / 32 * 32)) (m.1 209 b.toNatClampNeg / 32 - m.1 209 a.toNatClampNeg / 32) (mx2 (m.1 209 b.toNatClampNeg - m.1 209 b.toNatClampNeg / 32 * 32 - (m.1 209 a.toNatClampNeg - m.1 209 a.toNatClampNeg / 32 * 32)) (m.1 209 b.toNatClampNeg / 32 - m.1 209 a.toNatClampNeg / 32)) va vb 1 m = some (v, m)) (hv2 : g_X14_see_181 w rf_fuel (m.1 209 a.toNatClampNeg - m.1 209 a.toNatClampNeg / 32 * 32) (m.1 209 a.toNatClampNeg / 32) (m.1 209 b.toNatClampNeg - m.1 209 b.toNatClampNeg / 32 * 32 - (m.1 209 a.toNatClampNeg - m.1 209 a.toNatClampNeg / 32 * 32)) (m.1 209 b.toNatClampNeg / 32 - m.1 209 a.toNatClampNeg / 32) (mx2 (m.1 209 b.toNatClampNeg - m.1 209 b.toNatClampNeg / 32 * 32 - (m.1 209 a.toNatClampNeg - m.1 209 a.toNatClampNeg / 32 * 32)) (m.1 209 b.toNatClampNeg / 32 - m.1 209 a.toNatClampNeg / 32)) va vb 1 (rf_i m 206 0 0) = some (v, rf_i m 206 0 0)) : ∃ v', g_X5_lookOver w m a b d h = some (v', m) ∧ wp (g_X14_see w m a b d h) (fun r => r.1 = v') := by
  have t := fun s0 => see_tail (s0 := s0) hQ2 ha2 hb2 hv2
  have q0 : (rf_i m 206 0 0).1 206 4 = m.1 206 4 := rfl
  have q1 : (rf_i m 206 0 0).1 209 = m.1 209 := rfl
  have q2 : (rf_i m 206 0 0).1 214 = m.1 5 := m5.symm
  have f : ∀ x z : Int32, (if ab x < ab z then ab z else ab x) = mx2 x z := fun _ _ => rfl
  clear hv2 ha2 hb2 hQ2
  have g3 : ∀ v', g_X5_lookOver w m a b d h = some (v', m) ↔ wp (g_X5_lookOver w m a b d h) (fun r => r = (v', m)) := fun v' => wp_eq.symm
  simp only [g3]
  clear g3
  unfold g_X5_lookOver g_X14_see
  generalize rf_fuel = F at *
  simp only [wp_b, wp_g, wp_ite, wp_some, wp_vi, X14_isMark, X14_isDay, X14_isHour, bi_eq0, q0, q1, q2, h1, h2, h3, h4, h5, g1, g2, abs_eq, max_eq, f, not_true, false_implies, true_and, not_false_eq_true, true_implies, g_X14_see_134, g_X14_see_130, t, m3, hQ1, g_X5_reachTo_30, ha, hb, hv1]
  clear t
  generalize m.1 209 a.toNatClampNeg - m.1 209 a.toNatClampNeg / 32 * 32 = X at *
  generalize m.1 209 a.toNatClampNeg / 32 = Y at *
  generalize m.1 209 b.toNatClampNeg - m.1 209 b.toNatClampNeg / 32 * 32 - X = DX at *
  generalize m.1 209 b.toNatClampNeg / 32 - Y = DY at *
  generalize mx2 DX DY = N at *
  have o1 : ¬ (1 : Int32) = 0 := by decide
  have mm : Q * 1 = Q := by grind
  have mm2 : Q * 2 = 2 * Q := by grind
  by_cases l1 : m.1 5 b.toNatClampNeg = 0
  · simp only [l1, if_true, true_implies, not_true, false_implies, and_true, mm, mm2]
    refine ⟨if N ≤ Q then v else 1, ?_, rfl⟩
    exact ⟨fun q => by rw [if_pos q], fun q => by rw [if_neg q]⟩
  · by_cases l2 : h < 5
    · simp only [l1, l2, o1, if_true, if_false, true_implies, not_true, not_false_eq_true, false_implies, and_true, true_and, mm, mm2]
      refine ⟨if N ≤ 2 * Q then v else 1, ?_, rfl⟩
      exact ⟨fun q => by rw [if_pos q], fun q => by rw [if_neg q]⟩
    · by_cases l3 : h ≤ 19
      · simp only [l1, l2, l3, o1, if_true, if_false, true_implies, not_true, not_false_eq_true, false_implies, and_true, true_and, mm, mm2]
        refine ⟨if N ≤ Q then v else 1, ?_, rfl⟩
        exact ⟨fun q => by rw [if_pos q], fun q => by rw [if_neg q]⟩
      · simp only [l1, l2, l3, o1, if_true, if_false, true_implies, not_true, not_false_eq_true, false_implies, and_true, true_and, mm, mm2]
        refine ⟨if N ≤ 2 * Q then v else 1, ?_, rfl⟩
        exact ⟨fun q => by rw [if_pos q], fun q => by rw [if_neg q]⟩
theorem k5 {w : rf_w} {m : rf_m} {y : Nat → Int32} {c : Nat} (hc : c ≤ 512) (jm : JMark m) (jc : JCell m) (jt : JTow c m) (jh : JHaze m) : wp (g_lc_5 w m y) (fun r => r.1 = w) := by
  have jm' := jm
  have jt' := jt
  obtain ⟨m1, m2, m3, m4, m5⟩ := jm
  obtain ⟨c1, c2, c3, c4⟩ := jc
  obtain ⟨z1, z2, z3, z4, z5, z6, z7⟩ := jh
  have isP : ib (y 1) (m.1 206 4) → ib (y 2) (m.1 206 4) → ¬ y 1 = y 2 → ib (y 3) 10000 → ib (y 4) 24 → ∃ v, g_X5_lookOver w m (y 1) (y 2) (y 3) (y 4) = some (v, m) ∧ wp (g_X14_see w m (y 1) (y 2) (y 3) (y 4)) (fun r => r.1 = v) := by
    intro h1 h2 h3 h4 h5
    have g1 : rf_in (y 1) 30 = true := gin h1.1 (by grind [iv, ib]) (by decide)
    have g2 : rf_in (y 2) 30 = true := gin h2.1 (by grind [iv, ib]) (by decide)
    obtain ⟨a1, a2⟩ := cell_xy (m4 (y 1).toNatClampNeg)
    obtain ⟨b1, b2⟩ := cell_xy (m4 (y 2).toNatClampNeg)
    obtain ⟨va, ha, ha'⟩ := X5_topOf' (w := w) jm' jt' hc h1 h4
    obtain ⟨vb, hb, hb'⟩ := X5_topOf' (w := w) jm' jt' hc h2 h4
    have hP : ∀ j, (m.1 9 j = y 3 * 24 + y 4) ↔ (m.1 211 j = y 3 ∧ m.1 212 j = y 4) := by
      intro j
      have q1 := z5 j
      have q2 := z6 j
      rw [z7 j]
      unfold iv ib at *
      constructor
      · intro h; constructor <;> grind
      · intro h; rw [h.1, h.2]
    have hl := see_loop (w := w) (m := m) (M := rf_i m 206 0 0) (x := m.1 209 (y 1).toNatClampNeg - m.1 209 (y 1).toNatClampNeg / 32 * 32) (y := m.1 209 (y 1).toNatClampNeg / 32) (dx := m.1 209 (y 2).toNatClampNeg - m.1 209 (y 2).toNatClampNeg / 32 * 32 - (m.1 209 (y 1).toNatClampNeg - m.1 209 (y 1).toNatClampNeg / 32 * 32)) (dy := m.1 209 (y 2).toNatClampNeg / 32 - m.1 209 (y 1).toNatClampNeg / 32) (n := mx2 (m.1 209 (y 2).toNatClampNeg - m.1 209 (y 2).toNatClampNeg / 32 * 32 - (m.1 209 (y 1).toNatClampNeg - m.1 209 (y 1).toNatClampNeg / 32 * 32)) (m.1 209 (y 2).toNatClampNeg / 32 - m.1 209 (y 1).toNatClampNeg / 32)) (a := va) (b := vb) c1.symm c3.symm a1 a2 (by rw [sub_I2 b1 a1]; omega) (by rw [sub_I2 b2 a2]; omega) (mx2_I (by rw [sub_I2 b1 a1]; omega) (by rw [sub_I2 b2 a2]; omega)) rf_fuel 1 (by omega) (by omega) (by unfold rf_fuel; omega)
    obtain ⟨v, hv1, hv2⟩ := hl
    have hv1' : g_X5_lookOver_99 w rf_fuel _ _ _ _ _ va vb 1 m = some (v, m) := hv1
    have hv2' : g_X14_see_181 w rf_fuel _ _ _ _ _ va vb 1 (rf_i m 206 0 0) = some (v, rf_i m 206 0 0) := hv2
    have ha2 := ha' (rf_i m 206 0 0) c1.symm rfl rfl
    have hb2 := hb' (rf_i m 206 0 0) c1.symm rfl rfl
    have hr : ∃ s, g_X5_hazeAt w m (y 3 * 24 + y 4) = some (s, m) ∧ ((s = -1 ∧ g_X14_reachOf w (rf_i m 206 0 0) (y 3) (y 4) = some (32, rf_i m 206 0 0)) ∨ (¬ s = -1 ∧ rf_in s 200 = true ∧ g_X14_reachOf w (rf_i m 206 0 0) (y 3) (y 4) = some (m.1 10 s.toNatClampNeg, rf_i m 206 0 0))) := by
      have bb : iv 0 200 (m.1 1 12) := by rw [z1]; exact z2
      have hb : (m.1 206 6).toNatClampNeg ≤ 200 := tn_le z2.1 z2.2 (by decide)
      rcases first_or (fun j => m.1 211 j = y 3 ∧ m.1 212 j = y 4) (m.1 206 6).toNatClampNeg with hn | ⟨j, hj, hp, hn⟩
      · exact ⟨-1, X5_hazeAt_no bb (by rw [z1]; exact fun j hj h => hn j hj ((hP j).mp h)), Or.inl ⟨rfl, X14_reachOf_no z2 hn⟩⟩
      · refine ⟨Int32.ofNat j, X5_hazeAt_yes bb (by rw [z1]; exact hj) ((hP j).mpr hp) (fun k hk h => hn k hk ((hP k).mp h)), Or.inr ⟨of_ne_m1 (by omega), gof (by omega) (by decide), ?_⟩⟩
        rw [tn_of (by omega), z3]
        exact X14_reachOf_yes (m := rf_i m 206 0 0) z2 hj hp hn
    obtain ⟨s, hs1, hs2⟩ := hr
    have mm : ∀ x : Int32, x * 1 = x := fun x => by grind
    have mm2 : ∀ x : Int32, x * 2 = 2 * x := fun x => by grind
    have hQ : ∃ Q, g_X5_reachTo w m (y 2) (y 3) (y 4) = g_X5_reachTo_30 w (y 2) (y 4) Q m ∧ g_X14_reachOf w (rf_i m 206 0 0) (y 3) (y 4) = some (Q, rf_i m 206 0 0) := by
      unfold g_X5_reachTo
      rw [hs1]
      rcases hs2 with ⟨rfl, hs3⟩ | ⟨hs3, hs4, hs5⟩
      · exact ⟨32, rfl, hs3⟩
      · refine ⟨_, ?_, hs5⟩
        simp only [rf_b]
        rw [if_neg hs3, hs4, g_t]
    obtain ⟨Q, hQ1, hQ2⟩ := hQ
    exact see_fin g1 g2 m3 m5 m1 h1 h2 h3 h4 h5 hQ1 hQ2 ha hb ha2 hb2 hv1' hv2'
  unfold g_lc_5 g_X11_see
  by_cases h1 : ib (y 1) (m.1 206 4)
  · by_cases h2 : ib (y 2) (m.1 206 4)
    · by_cases h3 : y 1 = y 2
      · simp [g_X14_see, wp_b, wp_g, wp_ite, wp_some, X5_isPair, X14_isMark, rf_i_c, pu, bi_eq0, m1, h1, h2, h3]
      · by_cases h4 : ib (y 3) 10000
        · by_cases h5 : ib (y 4) 24
          · obtain ⟨v, e1, e2⟩ := isP h1 h2 h3 h4 h5
            simp only [wp_b, wp_ite, wp_some, X5_isPair, X11_isDay, X11_isHour, bi_eq0, m1, h1, h2, h3, h4, h5, e1, not_true, not_false_eq_true, and_true, ne_eq, false_implies, true_implies, true_and, wp_g]
            refine wp_mono e2 (fun r hr => ?_)
            rw [hr]
            simp
          · simp [g_X14_see, wp_b, wp_g, wp_ite, wp_some, X5_isPair, X14_isMark, X11_isDay, X14_isDay, X11_isHour, X14_isHour, rf_i_c, pu, bi_eq0, m1, h1, h2, h3, h4, h5]
        · simp [g_X14_see, wp_b, wp_g, wp_ite, wp_some, X5_isPair, X14_isMark, X11_isDay, X14_isDay, rf_i_c, pu, bi_eq0, m1, h1, h2, h3, h4]
    · simp [g_X14_see, wp_b, wp_g, wp_ite, wp_some, X5_isPair, X14_isMark, rf_i_c, pu, bi_eq0, m1, h1, h2]
  · simp [g_X14_see, wp_b, wp_g, wp_ite, wp_some, X5_isPair, X14_isMark, rf_i_c, pu, bi_eq0, m1, h1]
end PBSee
