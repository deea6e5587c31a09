/-! triangle; what was found is told; feed -/
section PBTri
theorem X7_looksAt {w : rf_w} {m : rf_m} {a x y : Int32} (h : rf_in a 80 = true) : g_X7_looksAt w m a x y = some (bi (btw (m.1 29) (m.1 30) a x y), m) := by
  refine wp_eq.mp ?_
  unfold g_X7_looksAt g_X7_looksAt_26
  simp only [wp_g, wp_ite, wp_some, h]
  by_cases q : btw (m.1 29) (m.1 30) a x y
  · rw [bi_t q]
    unfold btw at q
    generalize m.1 29 a.toNatClampNeg = u at *
    generalize m.1 30 a.toNatClampNeg = v at *
    simp
    grind
  · rw [bi_f q]
    unfold btw at q
    generalize m.1 29 a.toNatClampNeg = u at *
    generalize m.1 30 a.toNatClampNeg = v at *
    simp
    grind
theorem X14_isBetween {w : rf_w} {m : rf_m} {a x y : Int32} (h : rf_in a 80 = true) : g_X14_isBetween w m a x y = some (bi (btw (m.1 218) (m.1 219) a x y), m) := by
  refine wp_eq.mp ?_
  unfold g_X14_isBetween g_X14_isBetween_20
  simp only [wp_g, wp_ite, wp_some, h]
  by_cases q : btw (m.1 218) (m.1 219) a x y
  · rw [bi_t q]
    unfold btw at q
    generalize m.1 218 a.toNatClampNeg = u at *
    generalize m.1 219 a.toNatClampNeg = v at *
    simp
    grind
  · rw [bi_f q]
    unfold btw at q
    generalize m.1 218 a.toNatClampNeg = u at *
    generalize m.1 219 a.toNatClampNeg = v at *
    simp
    grind
theorem btw_sym {f g : Nat → Int32} {a x y : Int32} : btw f g a x y ↔ btw f g a y x := by unfold btw; grind
theorem X7_isTriangular {w : rf_w} {m : rf_m} {a b c : Int32} (ja : JAng m) (ha : ib a (m.1 206 16)) (hb : ib b (m.1 206 16)) (hc : ib c (m.1 206 16)) : g_X7_isTriangular w m a b c = some (bi (tri (m.1 217) (m.1 218) (m.1 219) (m.1 206 16) a b c), m) := by
  obtain ⟨c1, c2, c3, c4, c5, c6⟩ := ja
  have ga : rf_in a 80 = true := gin ha.1 (by grind [iv, ib]) (by decide)
  have gb : rf_in b 80 = true := gin hb.1 (by grind [iv, ib]) (by decide)
  have gc : rf_in c 80 = true := gin hc.1 (by grind [iv, ib]) (by decide)
  have n1 := (c6 a.toNatClampNeg (tn_lt2 ha.1 ha.2)).2.2.2.2.2
  have n2 := (c6 b.toNatClampNeg (tn_lt2 hb.1 hb.2)).2.2.2.2.2
  have n3 := (c6 c.toNatClampNeg (tn_lt2 hc.1 hc.2)).2.2.2.2.2
  refine wp_eq.mp ?_
  unfold g_X7_isTriangular
  simp only [wp_b, wp_g, wp_ite, wp_some, ga, gb, gc, X7_looksAt ga, X7_looksAt gb, X7_looksAt gc, bi_eq0, c3, c4, c5, true_and]
  have i2 : btw (m.1 218) (m.1 219) b (m.1 217 c.toNatClampNeg) (m.1 217 a.toNatClampNeg) ↔ btw (m.1 218) (m.1 219) b (m.1 217 a.toNatClampNeg) (m.1 217 c.toNatClampNeg) := btw_sym
  rw [i2]
  have hT : tri (m.1 217) (m.1 218) (m.1 219) (m.1 206 16) a b c ↔ (btw (m.1 218) (m.1 219) a (m.1 217 b.toNatClampNeg) (m.1 217 c.toNatClampNeg) ∧ btw (m.1 218) (m.1 219) b (m.1 217 a.toNatClampNeg) (m.1 217 c.toNatClampNeg) ∧ btw (m.1 218) (m.1 219) c (m.1 217 a.toNatClampNeg) (m.1 217 b.toNatClampNeg)) := by
    unfold tri
    constructor
    · rintro ⟨_, _, _, _, _, _, h⟩; exact h
    · intro h
      refine ⟨ha, hb, hc, ?_, ?_, ?_, h⟩
      · intro e; rcases h.2.2 with h3 | h3 <;> (apply n3; rw [h3.1, h3.2, e])
      · intro e; rcases h.1 with h3 | h3 <;> (apply n1; rw [h3.1, h3.2, e])
      · intro e; rcases h.2.1 with h3 | h3 <;> (apply n2; rw [h3.1, h3.2, e])
  rw [bi_congr hT]
  generalize btw (m.1 218) (m.1 219) a (m.1 217 b.toNatClampNeg) (m.1 217 c.toNatClampNeg) = p1
  generalize btw (m.1 218) (m.1 219) b (m.1 217 a.toNatClampNeg) (m.1 217 c.toNatClampNeg) = p2
  generalize btw (m.1 218) (m.1 219) c (m.1 217 a.toNatClampNeg) (m.1 217 b.toNatClampNeg) = p3
  by_cases h1 : p1 <;> by_cases h2 : p2 <;> by_cases h3 : p3 <;> simp [h1, h2, h3, bi_T, bi_F]
theorem k24 {w : rf_w} {m : rf_m} {y : Nat → Int32} (ja : JAng m) (jt : JT m) (jnet : JNet m) : wp (g_lc_24 w m y) (fun r => r.1 = w ∧ JT r.2 ∧ JNet r.2) := by
  unfold g_lc_24 g_X11_triangle g_X14_triangle
  obtain ⟨t1, t2, t3⟩ := jt
  have ja' := ja
  have a1 := ja.1
  have a3 := ja.2.2.1
  have a2 := ja.2.1
  obtain ⟨c1, c2, c3, c4, c5, c6, c7, c8, c9, ca, cb, cd, ce⟩ := jnet
  by_cases h1 : ib (y 1) (m.1 206 16)
  · by_cases h2 : ib (y 2) (m.1 206 16)
    · by_cases h3 : ib (y 3) (m.1 206 16)
      · by_cases h4 : iv 0 9999 (y 4)
        · have ga : rf_in (y 1) 80 = true := gin h1.1 (by grind [iv, ib]) (by decide)
          have gb : rf_in (y 2) 80 = true := gin h2.1 (by grind [iv, ib]) (by decide)
          have gc : rf_in (y 3) 80 = true := gin h3.1 (by grind [iv, ib]) (by decide)
          have e1 := X7_isTriangular (w := w) ja' h1 h2 h3
          by_cases h5 : tri (m.1 217) (m.1 218) (m.1 219) (m.1 206 16) (y 1) (y 2) (y 3)
          · rw [bi_t h5] at e1
            obtain ⟨_, _, _, n1, n2, n3, b1, b2, b3⟩ := h5
            by_cases h6 : m.1 206 64 = 30
            · have hx : ¬ m.1 206 64 < 30 := by rw [h6]; decide
              have hx2 : 30 ≤ m.1 206 64 := by rw [h6]; decide
              simp [wp_b, wp_bv, wp_g, wp_ite, wp_some, wp_vi, wp_vl, X11_isCell, X11_isWithin, X11_isDay, X11_isHour, X11_isTime, X5_isMark, X5_isPair, X3_isParty, X3_isAngle, X3_isReading, X6_isBase, X7_isTriangle, X14_isCell, X14_in, X14_isMark, X14_isDay, X14_isHour, X14_isParty, X14_isAngle, X14_isReading, X14_isBase, X14_isTriangle, g_X11_denied, g_X11_granted, g_X11_refused, g_X11_answered, g_X14_denied, g_X14_granted, g_X14_refused, g_X14_done, bi_eq0, bi_01, rf01_0, rf01_1, rf_i_c, rf_i_l, pu, h1, h2, h3, h4, e1, ga, gb, gc, X14_isBetween ga, X14_isBetween gb, X14_isBetween gc, n1, n2, n3, b1, b2, b3, eq_true h6, hx, hx2, JT, JNet, t1, t2, c1, c3, c5, c6, c7, c8, a1]
              exact ⟨c2, c4, c9, ca, cb, cd, ce⟩
            · have hx : m.1 206 64 < 30 := by clear ca cb cd ce; grind [iv]
              have hx2 : ¬ 30 ≤ m.1 206 64 := by clear ca cb cd ce; grind [iv]
              have hk : (m.1 206 64).toNatClampNeg < 30 := tn_lt c2.1 hx (by decide)
              have e : ∀ j : Nat, j < 3 → m.1 206 64 * 3 + Int32.ofNat j = Int32.ofNat (3 * (m.1 206 64).toNatClampNeg + j) := by
                intro j hj; rw [Int32.ofNat_add, Int32.ofNat_mul, of_tn c2.1, Int32.mul_comm]; rfl
              have e' : ∀ j : Nat, j < 3 → 3 * m.1 206 64 + Int32.ofNat j = Int32.ofNat (3 * (m.1 206 64).toNatClampNeg + j) := by
                intro j hj; rw [Int32.ofNat_add, Int32.ofNat_mul, of_tn c2.1]; rfl
              have z0 : m.1 206 64 * 3 = Int32.ofNat (3 * (m.1 206 64).toNatClampNeg) := by rw [Int32.ofNat_mul, of_tn c2.1, Int32.mul_comm]; rfl
              have z0' : 3 * m.1 206 64 = Int32.ofNat (3 * (m.1 206 64).toNatClampNeg) := by rw [Int32.ofNat_mul, of_tn c2.1]; rfl
              have g0 : rf_in (m.1 206 64 * 3) 90 = true := by rw [z0]; exact gof (by omega) (by decide)
              have g0' : rf_in (3 * m.1 206 64) 90 = true := by rw [z0']; exact gof (by omega) (by decide)
              have g1 : rf_in (m.1 206 64 * 3 + 1) 90 = true := by rw [show (1 : Int32) = Int32.ofNat 1 from rfl, e 1 (by omega)]; exact gof (by omega) (by decide)
              have g1' : rf_in (3 * m.1 206 64 + 1) 90 = true := by rw [show (1 : Int32) = Int32.ofNat 1 from rfl, e' 1 (by omega)]; exact gof (by omega) (by decide)
              have g2 : rf_in (m.1 206 64 * 3 + 2) 90 = true := by rw [show (2 : Int32) = Int32.ofNat 2 from rfl, e 2 (by omega)]; exact gof (by omega) (by decide)
              have g2' : rf_in (3 * m.1 206 64 + 2) 90 = true := by rw [show (2 : Int32) = Int32.ofNat 2 from rfl, e' 2 (by omega)]; exact gof (by omega) (by decide)
              have u0 : (m.1 206 64 * 3).toNatClampNeg = 3 * (m.1 206 64).toNatClampNeg := by rw [z0]; exact tn_of (by omega)
              have u0' : (3 * m.1 206 64).toNatClampNeg = 3 * (m.1 206 64).toNatClampNeg := by rw [z0']; exact tn_of (by omega)
              have u1 : (m.1 206 64 * 3 + 1).toNatClampNeg = 3 * (m.1 206 64).toNatClampNeg + 1 := by rw [show (1 : Int32) = Int32.ofNat 1 from rfl, e 1 (by omega)]; exact tn_of (by omega)
              have u1' : (3 * m.1 206 64 + 1).toNatClampNeg = 3 * (m.1 206 64).toNatClampNeg + 1 := by rw [show (1 : Int32) = Int32.ofNat 1 from rfl, e' 1 (by omega)]; exact tn_of (by omega)
              have u2 : (m.1 206 64 * 3 + 2).toNatClampNeg = 3 * (m.1 206 64).toNatClampNeg + 2 := by rw [show (2 : Int32) = Int32.ofNat 2 from rfl, e 2 (by omega)]; exact tn_of (by omega)
              have u2' : (3 * m.1 206 64 + 2).toNatClampNeg = 3 * (m.1 206 64).toNatClampNeg + 2 := by rw [show (2 : Int32) = Int32.ofNat 2 from rfl, e' 2 (by omega)]; exact tn_of (by omega)
              have gt : rf_in (m.1 206 64) 30 = true := gin c2.1 hx (by decide)
              clear e e' z0 z0'
              simp [wp_b, wp_bv, wp_g, wp_ite, wp_some, wp_vi, wp_vl, X11_isCell, X11_isWithin, X11_isDay, X11_isHour, X11_isTime, X5_isMark, X5_isPair, X3_isParty, X3_isAngle, X3_isReading, X6_isBase, X7_isTriangle, X14_isCell, X14_in, X14_isMark, X14_isDay, X14_isHour, X14_isParty, X14_isAngle, X14_isReading, X14_isBase, X14_isTriangle, g_X11_denied, g_X11_granted, g_X11_refused, g_X11_answered, g_X14_denied, g_X14_granted, g_X14_refused, g_X14_done, bi_eq0, bi_01, rf01_0, rf01_1, rf_i_c, rf_i_l, pu, h1, h2, h3, h4, e1, ga, gb, gc, X14_isBetween ga, X14_isBetween gb, X14_isBetween gc, n1, n2, n3, b1, b2, b3, h6, hx, hx2, g0, g0', g1, g1', g2, g2', u0, u0', u1, u1', u2, u2', gt, g_X7_addTriangle, JT, JNet, t1, t2, c1, c3, c5, c6, c7, c8, a1]
              refine ⟨by clear ca cb cd ce; grind [iv], c4, c9, fun i => ?_, cb, all_succ c2.1 (by clear ca cb cd ce; grind [iv]) (fun i hi => ?_) ?_, ce⟩
              · split
                · exact h4
                · exact ca i
              · rw [if_neg (by omega), if_neg (by omega), if_neg (by omega), if_neg (by omega), if_neg (by omega), if_neg (by omega), if_neg (by omega), if_neg (by omega), if_neg (by omega)]
                exact cd i hi
              · simp
                exact ⟨h1, h2, h3, n1, n2, n3, b1, b2, b3⟩
          · rw [bi_f h5] at e1
            unfold tri at h5
            have h5' : m.1 217 (y 1).toNatClampNeg = m.1 217 (y 2).toNatClampNeg ∨ m.1 217 (y 2).toNatClampNeg = m.1 217 (y 3).toNatClampNeg ∨ m.1 217 (y 3).toNatClampNeg = m.1 217 (y 1).toNatClampNeg ∨ ¬ btw (m.1 218) (m.1 219) (y 1) (m.1 217 (y 2).toNatClampNeg) (m.1 217 (y 3).toNatClampNeg) ∨ ¬ btw (m.1 218) (m.1 219) (y 2) (m.1 217 (y 1).toNatClampNeg) (m.1 217 (y 3).toNatClampNeg) ∨ ¬ btw (m.1 218) (m.1 219) (y 3) (m.1 217 (y 1).toNatClampNeg) (m.1 217 (y 2).toNatClampNeg) := by
              apply Classical.byContradiction
              intro hh
              simp only [not_or, Classical.not_not] at hh
              exact h5 ⟨h1, h2, h3, hh.1, hh.2.1, hh.2.2.1, hh.2.2.2.1, hh.2.2.2.2.1, hh.2.2.2.2.2⟩
            by_cases d0 : m.1 217 (y 1).toNatClampNeg = m.1 217 (y 2).toNatClampNeg
            · simp [wp_b, wp_bv, wp_g, wp_ite, wp_some, wp_vi, wp_vl, X11_isCell, X11_isWithin, X11_isDay, X11_isHour, X11_isTime, X5_isMark, X5_isPair, X3_isParty, X3_isAngle, X3_isReading, X6_isBase, X7_isTriangle, X14_isCell, X14_in, X14_isMark, X14_isDay, X14_isHour, X14_isParty, X14_isAngle, X14_isReading, X14_isBase, X14_isTriangle, g_X11_denied, g_X11_granted, g_X11_refused, g_X11_answered, g_X14_denied, g_X14_granted, g_X14_refused, g_X14_done, bi_eq0, bi_01, rf01_0, rf01_1, rf_i_c, rf_i_l, pu, h1, h2, h3, h4, e1, ga, gb, gc, X14_isBetween ga, X14_isBetween gb, X14_isBetween gc, eq_true d0, JT, JNet, t1, t2, c1, c3, c5, c6, c7, c8, a1]
              exact ⟨c2, c4, c9, ca, cb, cd, ce⟩
            · by_cases d1 : m.1 217 (y 2).toNatClampNeg = m.1 217 (y 3).toNatClampNeg
              · simp [wp_b, wp_bv, wp_g, wp_ite, wp_some, wp_vi, wp_vl, X11_isCell, X11_isWithin, X11_isDay, X11_isHour, X11_isTime, X5_isMark, X5_isPair, X3_isParty, X3_isAngle, X3_isReading, X6_isBase, X7_isTriangle, X14_isCell, X14_in, X14_isMark, X14_isDay, X14_isHour, X14_isParty, X14_isAngle, X14_isReading, X14_isBase, X14_isTriangle, g_X11_denied, g_X11_granted, g_X11_refused, g_X11_answered, g_X14_denied, g_X14_granted, g_X14_refused, g_X14_done, bi_eq0, bi_01, rf01_0, rf01_1, rf_i_c, rf_i_l, pu, h1, h2, h3, h4, e1, ga, gb, gc, X14_isBetween ga, X14_isBetween gb, X14_isBetween gc, d0, eq_true d1, JT, JNet, t1, t2, c1, c3, c5, c6, c7, c8, a1]
                exact ⟨c2, c4, c9, ca, cb, cd, ce⟩
              · by_cases d2 : m.1 217 (y 3).toNatClampNeg = m.1 217 (y 1).toNatClampNeg
                · simp [wp_b, wp_bv, wp_g, wp_ite, wp_some, wp_vi, wp_vl, X11_isCell, X11_isWithin, X11_isDay, X11_isHour, X11_isTime, X5_isMark, X5_isPair, X3_isParty, X3_isAngle, X3_isReading, X6_isBase, X7_isTriangle, X14_isCell, X14_in, X14_isMark, X14_isDay, X14_isHour, X14_isParty, X14_isAngle, X14_isReading, X14_isBase, X14_isTriangle, g_X11_denied, g_X11_granted, g_X11_refused, g_X11_answered, g_X14_denied, g_X14_granted, g_X14_refused, g_X14_done, bi_eq0, bi_01, rf01_0, rf01_1, rf_i_c, rf_i_l, pu, h1, h2, h3, h4, e1, ga, gb, gc, X14_isBetween ga, X14_isBetween gb, X14_isBetween gc, d0, d1, eq_true d2, JT, JNet, t1, t2, c1, c3, c5, c6, c7, c8, a1]
                  exact ⟨c2, c4, c9, ca, cb, cd, ce⟩
                · by_cases d3 : btw (m.1 218) (m.1 219) (y 1) (m.1 217 (y 2).toNatClampNeg) (m.1 217 (y 3).toNatClampNeg)
                  · by_cases d4 : btw (m.1 218) (m.1 219) (y 2) (m.1 217 (y 1).toNatClampNeg) (m.1 217 (y 3).toNatClampNeg)
                    · by_cases d5 : btw (m.1 218) (m.1 219) (y 3) (m.1 217 (y 1).toNatClampNeg) (m.1 217 (y 2).toNatClampNeg)
                      · exact absurd h5' (by simp [d0, d1, d2, d3, d4, d5])
                      · simp [wp_b, wp_bv, wp_g, wp_ite, wp_some, wp_vi, wp_vl, X11_isCell, X11_isWithin, X11_isDay, X11_isHour, X11_isTime, X5_isMark, X5_isPair, X3_isParty, X3_isAngle, X3_isReading, X6_isBase, X7_isTriangle, X14_isCell, X14_in, X14_isMark, X14_isDay, X14_isHour, X14_isParty, X14_isAngle, X14_isReading, X14_isBase, X14_isTriangle, g_X11_denied, g_X11_granted, g_X11_refused, g_X11_answered, g_X14_denied, g_X14_granted, g_X14_refused, g_X14_done, bi_eq0, bi_01, rf01_0, rf01_1, rf_i_c, rf_i_l, pu, h1, h2, h3, h4, e1, ga, gb, gc, X14_isBetween ga, X14_isBetween gb, X14_isBetween gc, d0, d1, d2, d3, d4, d5, JT, JNet, t1, t2, c1, c3, c5, c6, c7, c8, a1]
                        exact ⟨c2, c4, c9, ca, cb, cd, ce⟩
                    · simp [wp_b, wp_bv, wp_g, wp_ite, wp_some, wp_vi, wp_vl, X11_isCell, X11_isWithin, X11_isDay, X11_isHour, X11_isTime, X5_isMark, X5_isPair, X3_isParty, X3_isAngle, X3_isReading, X6_isBase, X7_isTriangle, X14_isCell, X14_in, X14_isMark, X14_isDay, X14_isHour, X14_isParty, X14_isAngle, X14_isReading, X14_isBase, X14_isTriangle, g_X11_denied, g_X11_granted, g_X11_refused, g_X11_answered, g_X14_denied, g_X14_granted, g_X14_refused, g_X14_done, bi_eq0, bi_01, rf01_0, rf01_1, rf_i_c, rf_i_l, pu, h1, h2, h3, h4, e1, ga, gb, gc, X14_isBetween ga, X14_isBetween gb, X14_isBetween gc, d0, d1, d2, d3, d4, JT, JNet, t1, t2, c1, c3, c5, c6, c7, c8, a1]
                      exact ⟨c2, c4, c9, ca, cb, cd, ce⟩
                  · simp [wp_b, wp_bv, wp_g, wp_ite, wp_some, wp_vi, wp_vl, X11_isCell, X11_isWithin, X11_isDay, X11_isHour, X11_isTime, X5_isMark, X5_isPair, X3_isParty, X3_isAngle, X3_isReading, X6_isBase, X7_isTriangle, X14_isCell, X14_in, X14_isMark, X14_isDay, X14_isHour, X14_isParty, X14_isAngle, X14_isReading, X14_isBase, X14_isTriangle, g_X11_denied, g_X11_granted, g_X11_refused, g_X11_answered, g_X14_denied, g_X14_granted, g_X14_refused, g_X14_done, bi_eq0, bi_01, rf01_0, rf01_1, rf_i_c, rf_i_l, pu, h1, h2, h3, h4, e1, ga, gb, gc, X14_isBetween ga, X14_isBetween gb, X14_isBetween gc, d0, d1, d2, d3, JT, JNet, t1, t2, c1, c3, c5, c6, c7, c8, a1]
                    exact ⟨c2, c4, c9, ca, cb, cd, ce⟩
        · simp [wp_b, wp_bv, wp_g, wp_ite, wp_some, wp_vi, wp_vl, X11_isCell, X11_isWithin, X11_isDay, X11_isHour, X11_isTime, X5_isMark, X5_isPair, X3_isParty, X3_isAngle, X3_isReading, X6_isBase, X7_isTriangle, X14_isCell, X14_in, X14_isMark, X14_isDay, X14_isHour, X14_isParty, X14_isAngle, X14_isReading, X14_isBase, X14_isTriangle, g_X11_denied, g_X11_granted, g_X11_refused, g_X11_answered, g_X14_denied, g_X14_granted, g_X14_refused, g_X14_done, bi_eq0, bi_01, rf01_0, rf01_1, rf_i_c, rf_i_l, pu, h1, h2, h3, h4, JT, JNet, t1, t2, c1, c3, c5, c6, c7, c8, a1]
          exact ⟨c2, c4, c9, ca, cb, cd, ce⟩
      · simp [wp_b, wp_bv, wp_g, wp_ite, wp_some, wp_vi, wp_vl, X11_isCell, X11_isWithin, X11_isDay, X11_isHour, X11_isTime, X5_isMark, X5_isPair, X3_isParty, X3_isAngle, X3_isReading, X6_isBase, X7_isTriangle, X14_isCell, X14_in, X14_isMark, X14_isDay, X14_isHour, X14_isParty, X14_isAngle, X14_isReading, X14_isBase, X14_isTriangle, g_X11_denied, g_X11_granted, g_X11_refused, g_X11_answered, g_X14_denied, g_X14_granted, g_X14_refused, g_X14_done, bi_eq0, bi_01, rf01_0, rf01_1, rf_i_c, rf_i_l, pu, h1, h2, h3, JT, JNet, t1, t2, c1, c3, c5, c6, c7, c8, a1]
        exact ⟨c2, c4, c9, ca, cb, cd, ce⟩
    · simp [wp_b, wp_bv, wp_g, wp_ite, wp_some, wp_vi, wp_vl, X11_isCell, X11_isWithin, X11_isDay, X11_isHour, X11_isTime, X5_isMark, X5_isPair, X3_isParty, X3_isAngle, X3_isReading, X6_isBase, X7_isTriangle, X14_isCell, X14_in, X14_isMark, X14_isDay, X14_isHour, X14_isParty, X14_isAngle, X14_isReading, X14_isBase, X14_isTriangle, g_X11_denied, g_X11_granted, g_X11_refused, g_X11_answered, g_X14_denied, g_X14_granted, g_X14_refused, g_X14_done, bi_eq0, bi_01, rf01_0, rf01_1, rf_i_c, rf_i_l, pu, h1, h2, JT, JNet, t1, t2, c1, c3, c5, c6, c7, c8, a1]
      exact ⟨c2, c4, c9, ca, cb, cd, ce⟩
  · simp [wp_b, wp_bv, wp_g, wp_ite, wp_some, wp_vi, wp_vl, X11_isCell, X11_isWithin, X11_isDay, X11_isHour, X11_isTime, X5_isMark, X5_isPair, X3_isParty, X3_isAngle, X3_isReading, X6_isBase, X7_isTriangle, X14_isCell, X14_in, X14_isMark, X14_isDay, X14_isHour, X14_isParty, X14_isAngle, X14_isReading, X14_isBase, X14_isTriangle, g_X11_denied, g_X11_granted, g_X11_refused, g_X11_answered, g_X14_denied, g_X14_granted, g_X14_refused, g_X14_done, bi_eq0, bi_01, rf01_0, rf01_1, rf_i_c, rf_i_l, pu, h1, JT, JNet, t1, t2, c1, c3, c5, c6, c7, c8, a1]
    exact ⟨c2, c4, c9, ca, cb, cd, ce⟩
end PBTri
