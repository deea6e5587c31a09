/-! calls that only store or tell (written by /tmp/plain.py, kept by hand) -/
section PBP
theorem rf01_0 : rf_01 0 = true := rfl
theorem rf01_1 : rf_01 1 = true := rfl
theorem tn_succ {x : Int32} (h0 : 0 ≤ x) (hb : x < 2147483647) : (x + 1).toNatClampNeg = x.toNatClampNeg + 1 := by
  have h1 := tn_toInt h0
  have h2 : x.toNatClampNeg < 2147483647 := tn_lt h0 hb (by decide)
  rw [← of_tn h0, of_succ, tn_of (by omega), tn_of (by omega)]
theorem all_succ {P : Nat → Prop} {x : Int32} (h0 : 0 ≤ x) (hb : x < 2147483647) (h : ∀ i, i < x.toNatClampNeg → P i) (hx : P x.toNatClampNeg) : ∀ i, i < (x + 1).toNatClampNeg → P i := by
  intro i hi
  rw [tn_succ h0 hb] at hi
  by_cases e : i = x.toNatClampNeg
  · rw [e]; exact hx
  · exact h i (by omega)
theorem k0 {w : rf_w} {m : rf_m} {y : Nat → Int32} (jt : JT m) (jcell : JCell m) : wp (g_lc_0 w m y) (fun r => r.1 = w ∧ JT r.2 ∧ JCell r.2) := by
  unfold g_lc_0 g_X11_cell g_X14_cell
  obtain ⟨t1, t2, t3⟩ := jt
  obtain ⟨c1, c2, c3, c4⟩ := jcell
  by_cases h1 : ib (y 1) 1024
  · have g := gin h1.1 h1.2 (by decide)
    by_cases h2 : iv 0 2000 (y 2)
    · by_cases h3 : iv 0 90 (y 3)
      · simp [wp_b, wp_bv, wp_g, wp_ite, wp_some, wp_vi, wp_vl, X11_isCell, X11_isWithin, X11_isDay, X11_isHour, X11_isTime, X5_isMark, X5_isPair, X3_isParty, X3_isAngle, X3_isReading, X6_isBase, X7_isTriangle, X14_isCell, X14_in, X14_isMark, X14_isDay, X14_isHour, X14_isParty, X14_isAngle, X14_isReading, X14_isBase, X14_isTriangle, g_X11_denied, g_X11_granted, g_X11_refused, g_X11_answered, g_X14_denied, g_X14_granted, g_X14_refused, g_X14_done, bi_eq0, bi_01, rf01_0, rf01_1, rf_i_c, rf_i_l, pu, h1, h2, h3, g, JT, JCell, t1, t2, c1, c3]
        grind [iv, ib]
      · simp [wp_b, wp_bv, wp_g, wp_ite, wp_some, wp_vi, wp_vl, X11_isCell, X11_isWithin, X11_isDay, X11_isHour, X11_isTime, X5_isMark, X5_isPair, X3_isParty, X3_isAngle, X3_isReading, X6_isBase, X7_isTriangle, X14_isCell, X14_in, X14_isMark, X14_isDay, X14_isHour, X14_isParty, X14_isAngle, X14_isReading, X14_isBase, X14_isTriangle, g_X11_denied, g_X11_granted, g_X11_refused, g_X11_answered, g_X14_denied, g_X14_granted, g_X14_refused, g_X14_done, bi_eq0, bi_01, rf01_0, rf01_1, rf_i_c, rf_i_l, pu, h1, h2, h3, g, JT, JCell, t1, t2, c1, c3]
        exact ⟨c2, c4⟩
    · simp [wp_b, wp_bv, wp_g, wp_ite, wp_some, wp_vi, wp_vl, X11_isCell, X11_isWithin, X11_isDay, X11_isHour, X11_isTime, X5_isMark, X5_isPair, X3_isParty, X3_isAngle, X3_isReading, X6_isBase, X7_isTriangle, X14_isCell, X14_in, X14_isMark, X14_isDay, X14_isHour, X14_isParty, X14_isAngle, X14_isReading, X14_isBase, X14_isTriangle, g_X11_denied, g_X11_granted, g_X11_refused, g_X11_answered, g_X14_denied, g_X14_granted, g_X14_refused, g_X14_done, bi_eq0, bi_01, rf01_0, rf01_1, rf_i_c, rf_i_l, pu, h1, h2, JT, JCell, t1, t2, c1, c3]
      exact ⟨c2, c4⟩
  · simp [wp_b, wp_bv, wp_g, wp_ite, wp_some, wp_vi, wp_vl, X11_isCell, X11_isWithin, X11_isDay, X11_isHour, X11_isTime, X5_isMark, X5_isPair, X3_isParty, X3_isAngle, X3_isReading, X6_isBase, X7_isTriangle, X14_isCell, X14_in, X14_isMark, X14_isDay, X14_isHour, X14_isParty, X14_isAngle, X14_isReading, X14_isBase, X14_isTriangle, g_X11_denied, g_X11_granted, g_X11_refused, g_X11_answered, g_X14_denied, g_X14_granted, g_X14_refused, g_X14_done, bi_eq0, bi_01, rf01_0, rf01_1, rf_i_c, rf_i_l, pu, h1, JT, JCell, t1, t2, c1, c3]
    exact ⟨c2, c4⟩
theorem k3 {w : rf_w} {m : rf_m} {y : Nat → Int32} (jt : JT m) (jmark : JMark m) : wp (g_lc_3 w m y) (fun r => r.1 = w ∧ JT r.2 ∧ JMark r.2) := by
  unfold g_lc_3 g_X11_lamp g_X14_lamp
  obtain ⟨t1, t2, t3⟩ := jt
  obtain ⟨c1, c2, c3, c4, c5⟩ := jmark
  by_cases h1 : ib (y 1) (m.1 206 4)
  · have g : rf_in (y 1) 30 = true := gin h1.1 (by grind [iv, ib]) (by decide)
    simp [wp_b, wp_bv, wp_g, wp_ite, wp_some, wp_vi, wp_vl, X11_isCell, X11_isWithin, X11_isDay, X11_isHour, X11_isTime, X5_isMark, X5_isPair, X3_isParty, X3_isAngle, X3_isReading, X6_isBase, X7_isTriangle, X14_isCell, X14_in, X14_isMark, X14_isDay, X14_isHour, X14_isParty, X14_isAngle, X14_isReading, X14_isBase, X14_isTriangle, g_X11_denied, g_X11_granted, g_X11_refused, g_X11_answered, g_X14_denied, g_X14_granted, g_X14_refused, g_X14_done, bi_eq0, bi_01, rf01_0, rf01_1, rf_i_c, rf_i_l, pu, h1, g, JT, JMark, t1, t2, c1, c3, c5]
    grind
  · simp [wp_b, wp_bv, wp_g, wp_ite, wp_some, wp_vi, wp_vl, X11_isCell, X11_isWithin, X11_isDay, X11_isHour, X11_isTime, X5_isMark, X5_isPair, X3_isParty, X3_isAngle, X3_isReading, X6_isBase, X7_isTriangle, X14_isCell, X14_in, X14_isMark, X14_isDay, X14_isHour, X14_isParty, X14_isAngle, X14_isReading, X14_isBase, X14_isTriangle, g_X11_denied, g_X11_granted, g_X11_refused, g_X11_answered, g_X14_denied, g_X14_granted, g_X14_refused, g_X14_done, bi_eq0, bi_01, rf01_0, rf01_1, rf_i_c, rf_i_l, pu, h1, JT, JMark, t1, t2, c1, c3, c5]
    grind
theorem k6 {w : rf_w} {m : rf_m} {y : Nat → Int32} (jt : JT m) (jparty : JParty m) : wp (g_lc_6 w m y) (fun r => r.1 = w ∧ JT r.2 ∧ JParty r.2) := by
  unfold g_lc_6 g_X11_party g_X3_addParty g_X14_party
  obtain ⟨t1, t2, t3⟩ := jt
  obtain ⟨c1, c2, c3⟩ := jparty
  by_cases h1 : m.1 206 15 = 8
  · have c2x : ¬ m.1 206 15 < 8 := by grind [iv, ib]
    simp [wp_b, wp_bv, wp_g, wp_ite, wp_some, wp_vi, wp_vl, X11_isCell, X11_isWithin, X11_isDay, X11_isHour, X11_isTime, X5_isMark, X5_isPair, X3_isParty, X3_isAngle, X3_isReading, X6_isBase, X7_isTriangle, X14_isCell, X14_in, X14_isMark, X14_isDay, X14_isHour, X14_isParty, X14_isAngle, X14_isReading, X14_isBase, X14_isTriangle, g_X11_denied, g_X11_granted, g_X11_refused, g_X11_answered, g_X14_denied, g_X14_granted, g_X14_refused, g_X14_done, bi_eq0, bi_01, rf01_0, rf01_1, rf_i_c, rf_i_l, pu, eq_true h1, c2x, c2, JT, JParty, t1, t2, c1, c3]
  · have g : rf_in (m.1 206 15) 8 = true := gin c2.1 (by grind [iv, ib]) (by decide)
    have h2 : ¬ 8 ≤ m.1 206 15 := by grind [iv, ib]
    have h3 : m.1 206 15 < 8 := by grind [iv, ib]
    simp [wp_b, wp_bv, wp_g, wp_ite, wp_some, wp_vi, wp_vl, X11_isCell, X11_isWithin, X11_isDay, X11_isHour, X11_isTime, X5_isMark, X5_isPair, X3_isParty, X3_isAngle, X3_isReading, X6_isBase, X7_isTriangle, X14_isCell, X14_in, X14_isMark, X14_isDay, X14_isHour, X14_isParty, X14_isAngle, X14_isReading, X14_isBase, X14_isTriangle, g_X11_denied, g_X11_granted, g_X11_refused, g_X11_answered, g_X14_denied, g_X14_granted, g_X14_refused, g_X14_done, bi_eq0, bi_01, rf01_0, rf01_1, rf_i_c, rf_i_l, pu, h1, h2, h3, g, JT, JParty, t1, t2, c1, c3]
    grind [iv, ib]
theorem tri_up {f g h f' g' h' : Nat → Int32} {n n' a b c : Int32} (hn : n ≤ n') (e : ∀ i, i < n.toNatClampNeg → f' i = f i ∧ g' i = g i ∧ h' i = h i) (t : tri f g h n a b c) : tri f' g' h' n' a b c := by
  obtain ⟨ha, hb, hc, d⟩ := t
  have ea := e a.toNatClampNeg (tn_lt2 ha.1 ha.2)
  have eb := e b.toNatClampNeg (tn_lt2 hb.1 hb.2)
  have ec := e c.toNatClampNeg (tn_lt2 hc.1 hc.2)
  unfold tri btw at *
  rw [ea.1, eb.1, ec.1, ea.2.1, ea.2.2, eb.2.1, eb.2.2, ec.2.1, ec.2.2]
  exact ⟨⟨ha.1, by grind⟩, ⟨hb.1, by grind⟩, ⟨hc.1, by grind⟩, d⟩
theorem Net_up {m m' : rf_m} {x y z : Int32} (j : JNet m) (c2 : iv 0 80 (m.1 206 16)) (e1 : m'.1 50 0 = m.1 50 0) (e2 : m'.1 206 64 = m.1 206 64) (e3 : m'.1 50 1 = m.1 50 1) (e4 : m'.1 206 65 = m.1 206 65) (e5 : m'.1 51 = m.1 51) (e6 : m'.1 243 = m.1 243) (e7 : m'.1 52 = m.1 52) (e8 : m'.1 244 = m.1 244) (e9 : m'.1 53 = m.1 53) (d1 : m'.1 245 = m.1 245) (d2 : m'.1 54 = m.1 54) (d3 : m'.1 246 = m.1 246) (d4 : m'.1 50 7 = m.1 50 7) (d5 : m'.1 206 16 = m.1 206 16 + 1) (f1 : m'.1 217 = pu (m.1 217) (m.1 206 16).toNatClampNeg x) (f2 : m'.1 218 = pu (m.1 218) (m.1 206 16).toNatClampNeg y) (f3 : m'.1 219 = pu (m.1 219) (m.1 206 16).toNatClampNeg z) : JNet m' := by
  obtain ⟨c1, c3, c4, c5, c6, c7, c8, c9, ca, cb, cc, cd, ce⟩ := j
  have hn : m.1 206 16 ≤ m.1 206 16 + 1 := by clear cb cc cd ce; grind [iv]
  unfold JNet
  rw [e1, e2, e3, e4, e5, e6, e7, e8, e9, d1, d2, d3, d4, d5, f1, f2, f3]
  refine ⟨c1, c3, c4, c5, c6, c7, c8, c9, ca, cb, cc, fun t ht => tri_up hn (fun i hi => ?_) (cd t ht), fun r i hr hi => ?_⟩
  · have : i ≠ (m.1 206 16).toNatClampNeg := by omega
    rw [pu_ne this, pu_ne this, pu_ne this]
    exact ⟨rfl, rfl, rfl⟩
  · have := ce r i hr hi
    clear cb cc cd ce
    grind
theorem k7 {w : rf_w} {m : rf_m} {y : Nat → Int32} (jmark : JMark m) (jt : JT m) (jang : JAng m) (jnet : JNet m) : wp (g_lc_7 w m y) (fun r => r.1 = w ∧ JT r.2 ∧ JAng r.2 ∧ JNet r.2) := by
  unfold g_lc_7 g_X11_angle g_X3_addAngle g_X3_forget g_X14_angle
  obtain ⟨t1, t2, t3⟩ := jt
  obtain ⟨c1, c2, c3, c4, c5, c6⟩ := jang
  have k1 := jmark.1
  have k2 := jmark.2.1
  by_cases h1 : ib (y 1) (m.1 206 4)
  · by_cases h2 : ib (y 2) (m.1 206 4)
    · by_cases h3 : ib (y 3) (m.1 206 4)
      · by_cases h4 : y 1 = y 2
        · simp [wp_b, wp_bv, wp_g, wp_ite, wp_some, wp_vi, wp_vl, X11_isCell, X11_isWithin, X11_isDay, X11_isHour, X11_isTime, X5_isMark, X5_isPair, X3_isParty, X3_isAngle, X3_isReading, X6_isBase, X7_isTriangle, X14_isCell, X14_in, X14_isMark, X14_isDay, X14_isHour, X14_isParty, X14_isAngle, X14_isReading, X14_isBase, X14_isTriangle, g_X11_denied, g_X11_granted, g_X11_refused, g_X11_answered, g_X14_denied, g_X14_granted, g_X14_refused, g_X14_done, bi_eq0, bi_01, rf01_0, rf01_1, rf_i_c, rf_i_l, pu, h1, h2, h3, h4, JT, JAng, t1, t2, c1, c3, c4, c5, k1]
          exact ⟨⟨c2, c6⟩, jnet⟩
        · by_cases h5 : y 1 = y 3
          · simp [wp_b, wp_bv, wp_g, wp_ite, wp_some, wp_vi, wp_vl, X11_isCell, X11_isWithin, X11_isDay, X11_isHour, X11_isTime, X5_isMark, X5_isPair, X3_isParty, X3_isAngle, X3_isReading, X6_isBase, X7_isTriangle, X14_isCell, X14_in, X14_isMark, X14_isDay, X14_isHour, X14_isParty, X14_isAngle, X14_isReading, X14_isBase, X14_isTriangle, g_X11_denied, g_X11_granted, g_X11_refused, g_X11_answered, g_X14_denied, g_X14_granted, g_X14_refused, g_X14_done, bi_eq0, bi_01, rf01_0, rf01_1, rf_i_c, rf_i_l, pu, h1, h2, h3, h4, h5, JT, JAng, t1, t2, c1, c3, c4, c5, k1]
            exact ⟨⟨c2, c6⟩, jnet⟩
          · by_cases h6 : y 2 = y 3
            · simp [wp_b, wp_bv, wp_g, wp_ite, wp_some, wp_vi, wp_vl, X11_isCell, X11_isWithin, X11_isDay, X11_isHour, X11_isTime, X5_isMark, X5_isPair, X3_isParty, X3_isAngle, X3_isReading, X6_isBase, X7_isTriangle, X14_isCell, X14_in, X14_isMark, X14_isDay, X14_isHour, X14_isParty, X14_isAngle, X14_isReading, X14_isBase, X14_isTriangle, g_X11_denied, g_X11_granted, g_X11_refused, g_X11_answered, g_X14_denied, g_X14_granted, g_X14_refused, g_X14_done, bi_eq0, bi_01, rf01_0, rf01_1, rf_i_c, rf_i_l, pu, h1, h2, h3, h4, h5, h6, JT, JAng, t1, t2, c1, c3, c4, c5, k1]
              exact ⟨⟨c2, c6⟩, jnet⟩
            · by_cases h7 : m.1 206 16 = 80
              · have hx : ¬ m.1 206 16 < 80 := by grind [iv, ib]
                simp [wp_b, wp_bv, wp_g, wp_ite, wp_some, wp_vi, wp_vl, X11_isCell, X11_isWithin, X11_isDay, X11_isHour, X11_isTime, X5_isMark, X5_isPair, X3_isParty, X3_isAngle, X3_isReading, X6_isBase, X7_isTriangle, X14_isCell, X14_in, X14_isMark, X14_isDay, X14_isHour, X14_isParty, X14_isAngle, X14_isReading, X14_isBase, X14_isTriangle, g_X11_denied, g_X11_granted, g_X11_refused, g_X11_answered, g_X14_denied, g_X14_granted, g_X14_refused, g_X14_done, bi_eq0, bi_01, rf01_0, rf01_1, rf_i_c, rf_i_l, pu, h1, h2, h3, h4, h5, h6, eq_true h7, hx, JT, JAng, t1, t2, c1, c3, c4, c5, k1]
                exact fun _ => ⟨⟨c2, c6⟩, jnet⟩
              · have g : rf_in (m.1 206 16) 80 = true := gin c2.1 (by grind [iv, ib]) (by decide)
                have h8 : ¬ 80 ≤ m.1 206 16 := by grind [iv, ib]
                have h9 : m.1 206 16 < 80 := by grind [iv, ib]
                simp [wp_b, wp_bv, wp_g, wp_ite, wp_some, wp_vi, wp_vl, X11_isCell, X11_isWithin, X11_isDay, X11_isHour, X11_isTime, X5_isMark, X5_isPair, X3_isParty, X3_isAngle, X3_isReading, X6_isBase, X7_isTriangle, X14_isCell, X14_in, X14_isMark, X14_isDay, X14_isHour, X14_isParty, X14_isAngle, X14_isReading, X14_isBase, X14_isTriangle, g_X11_denied, g_X11_granted, g_X11_refused, g_X11_answered, g_X14_denied, g_X14_granted, g_X14_refused, g_X14_done, bi_eq0, bi_01, rf01_0, rf01_1, rf_i_c, rf_i_l, pu, h1, h2, h3, h4, h5, h6, h7, h8, h9, g, JT, JAng, t1, t2, c1, c3, c4, c5, k1]
                refine ⟨⟨by grind [iv, ib], all_succ c2.1 (by grind [iv, ib]) (fun i hi => ?_) ?_⟩, Net_up (x := y 1) (y := y 2) (z := y 3) jnet c2 rfl rfl rfl rfl rfl rfl rfl rfl rfl rfl rfl rfl rfl rfl (by simp [rf_i_c]) (by simp [rf_i_c]) (by simp [rf_i_c])⟩
                · have := c6 i hi
                  have e : i ≠ (m.1 206 16).toNatClampNeg := by omega
                  simpa [e] using this
                · unfold ib at h1 h2 h3; simp [h4, h5, h6, h1, h2, h3]
      · simp [wp_b, wp_bv, wp_g, wp_ite, wp_some, wp_vi, wp_vl, X11_isCell, X11_isWithin, X11_isDay, X11_isHour, X11_isTime, X5_isMark, X5_isPair, X3_isParty, X3_isAngle, X3_isReading, X6_isBase, X7_isTriangle, X14_isCell, X14_in, X14_isMark, X14_isDay, X14_isHour, X14_isParty, X14_isAngle, X14_isReading, X14_isBase, X14_isTriangle, g_X11_denied, g_X11_granted, g_X11_refused, g_X11_answered, g_X14_denied, g_X14_granted, g_X14_refused, g_X14_done, bi_eq0, bi_01, rf01_0, rf01_1, rf_i_c, rf_i_l, pu, h1, h2, h3, JT, JAng, t1, t2, c1, c3, c4, c5, k1]
        exact ⟨⟨c2, c6⟩, jnet⟩
    · simp [wp_b, wp_bv, wp_g, wp_ite, wp_some, wp_vi, wp_vl, X11_isCell, X11_isWithin, X11_isDay, X11_isHour, X11_isTime, X5_isMark, X5_isPair, X3_isParty, X3_isAngle, X3_isReading, X6_isBase, X7_isTriangle, X14_isCell, X14_in, X14_isMark, X14_isDay, X14_isHour, X14_isParty, X14_isAngle, X14_isReading, X14_isBase, X14_isTriangle, g_X11_denied, g_X11_granted, g_X11_refused, g_X11_answered, g_X14_denied, g_X14_granted, g_X14_refused, g_X14_done, bi_eq0, bi_01, rf01_0, rf01_1, rf_i_c, rf_i_l, pu, h1, h2, JT, JAng, t1, t2, c1, c3, c4, c5, k1]
      exact ⟨⟨c2, c6⟩, jnet⟩
  · simp [wp_b, wp_bv, wp_g, wp_ite, wp_some, wp_vi, wp_vl, X11_isCell, X11_isWithin, X11_isDay, X11_isHour, X11_isTime, X5_isMark, X5_isPair, X3_isParty, X3_isAngle, X3_isReading, X6_isBase, X7_isTriangle, X14_isCell, X14_in, X14_isMark, X14_isDay, X14_isHour, X14_isParty, X14_isAngle, X14_isReading, X14_isBase, X14_isTriangle, g_X11_denied, g_X11_granted, g_X11_refused, g_X11_answered, g_X14_denied, g_X14_granted, g_X14_refused, g_X14_done, bi_eq0, bi_01, rf01_0, rf01_1, rf_i_c, rf_i_l, pu, h1, JT, JAng, t1, t2, c1, c3, c4, c5, k1]
    exact ⟨⟨c2, c6⟩, jnet⟩
theorem k50 {w : rf_w} {m : rf_m} {y : Nat → Int32} (jt : JT m) (jmass : JMass m) : wp (g_lc_50 w m y) (fun r => r.1 = w ∧ JT r.2 ∧ JMass r.2) := by
  unfold g_lc_50 g_X11_mass g_X5_addMass g_X14_mass
  obtain ⟨t1, t2, t3⟩ := jt
  obtain ⟨c1, c2, c3, c4, c5, c6⟩ := jmass
  by_cases h1 : ib (y 1) 1024
  · by_cases h2 : iv 1 1000000 (y 2)
    · by_cases h3 : m.1 206 137 = 12
      · have hx : ¬ m.1 206 137 < 12 := by grind [iv, ib]
        simp [wp_b, wp_bv, wp_g, wp_ite, wp_some, wp_vi, wp_vl, X11_isCell, X11_isWithin, X11_isDay, X11_isHour, X11_isTime, X5_isMark, X5_isPair, X3_isParty, X3_isAngle, X3_isReading, X6_isBase, X7_isTriangle, X14_isCell, X14_in, X14_isMark, X14_isDay, X14_isHour, X14_isParty, X14_isAngle, X14_isReading, X14_isBase, X14_isTriangle, g_X11_denied, g_X11_granted, g_X11_refused, g_X11_answered, g_X14_denied, g_X14_granted, g_X14_refused, g_X14_done, bi_eq0, bi_01, rf01_0, rf01_1, rf_i_c, rf_i_l, pu, h1, h2, eq_true h3, hx, JT, JMass, t1, t2, c1, c3, c5]
        exact fun _ => ⟨c2, c4, c6⟩
      · have g : rf_in (m.1 206 137) 12 = true := gin c2.1 (by grind [iv, ib]) (by decide)
        have h8 : ¬ 12 ≤ m.1 206 137 := by grind [iv, ib]
        have h9 : m.1 206 137 < 12 := by grind [iv, ib]
        simp [wp_b, wp_bv, wp_g, wp_ite, wp_some, wp_vi, wp_vl, X11_isCell, X11_isWithin, X11_isDay, X11_isHour, X11_isTime, X5_isMark, X5_isPair, X3_isParty, X3_isAngle, X3_isReading, X6_isBase, X7_isTriangle, X14_isCell, X14_in, X14_isMark, X14_isDay, X14_isHour, X14_isParty, X14_isAngle, X14_isReading, X14_isBase, X14_isTriangle, g_X11_denied, g_X11_granted, g_X11_refused, g_X11_answered, g_X14_denied, g_X14_granted, g_X14_refused, g_X14_done, bi_eq0, bi_01, rf01_0, rf01_1, rf_i_c, rf_i_l, pu, h1, h2, h3, h8, h9, g, JT, JMass, t1, t2, c1, c3, c5]
        grind [iv, ib]
    · simp [wp_b, wp_bv, wp_g, wp_ite, wp_some, wp_vi, wp_vl, X11_isCell, X11_isWithin, X11_isDay, X11_isHour, X11_isTime, X5_isMark, X5_isPair, X3_isParty, X3_isAngle, X3_isReading, X6_isBase, X7_isTriangle, X14_isCell, X14_in, X14_isMark, X14_isDay, X14_isHour, X14_isParty, X14_isAngle, X14_isReading, X14_isBase, X14_isTriangle, g_X11_denied, g_X11_granted, g_X11_refused, g_X11_answered, g_X14_denied, g_X14_granted, g_X14_refused, g_X14_done, bi_eq0, bi_01, rf01_0, rf01_1, rf_i_c, rf_i_l, pu, h1, h2, JT, JMass, t1, t2, c1, c3, c5]
      exact ⟨c2, c4, c6⟩
  · simp [wp_b, wp_bv, wp_g, wp_ite, wp_some, wp_vi, wp_vl, X11_isCell, X11_isWithin, X11_isDay, X11_isHour, X11_isTime, X5_isMark, X5_isPair, X3_isParty, X3_isAngle, X3_isReading, X6_isBase, X7_isTriangle, X14_isCell, X14_in, X14_isMark, X14_isDay, X14_isHour, X14_isParty, X14_isAngle, X14_isReading, X14_isBase, X14_isTriangle, g_X11_denied, g_X11_granted, g_X11_refused, g_X11_answered, g_X14_denied, g_X14_granted, g_X14_refused, g_X14_done, bi_eq0, bi_01, rf01_0, rf01_1, rf_i_c, rf_i_l, pu, h1, JT, JMass, t1, t2, c1, c3, c5]
    exact ⟨c2, c4, c6⟩
theorem k52 {w : rf_w} {m : rf_m} {y : Nat → Int32} (jt : JT m) (jarc : JArc m) : wp (g_lc_52 w m y) (fun r => r.1 = w ∧ JT r.2 ∧ JArc r.2) := by
  unfold g_lc_52 g_X11_arc g_X6_addArc g_X14_arc
  obtain ⟨t1, t2, t3⟩ := jt
  obtain ⟨c1, c2, c3, c4, c5, c6⟩ := jarc
  by_cases h1 : iv 0 90 (y 1)
  · by_cases h2 : iv 1 1000000 (y 2)
    · by_cases h3 : m.1 206 138 = 30
      · have hx : ¬ m.1 206 138 < 30 := by grind [iv, ib]
        simp [wp_b, wp_bv, wp_g, wp_ite, wp_some, wp_vi, wp_vl, X11_isCell, X11_isWithin, X11_isDay, X11_isHour, X11_isTime, X5_isMark, X5_isPair, X3_isParty, X3_isAngle, X3_isReading, X6_isBase, X7_isTriangle, X14_isCell, X14_in, X14_isMark, X14_isDay, X14_isHour, X14_isParty, X14_isAngle, X14_isReading, X14_isBase, X14_isTriangle, g_X11_denied, g_X11_granted, g_X11_refused, g_X11_answered, g_X14_denied, g_X14_granted, g_X14_refused, g_X14_done, bi_eq0, bi_01, rf01_0, rf01_1, rf_i_c, rf_i_l, pu, h1, h2, eq_true h3, hx, JT, JArc, t1, t2, c1, c3, c5]
        exact fun _ => ⟨c2, c4, c6⟩
      · have g : rf_in (m.1 206 138) 30 = true := gin c2.1 (by grind [iv, ib]) (by decide)
        have h8 : ¬ 30 ≤ m.1 206 138 := by grind [iv, ib]
        have h9 : m.1 206 138 < 30 := by grind [iv, ib]
        simp [wp_b, wp_bv, wp_g, wp_ite, wp_some, wp_vi, wp_vl, X11_isCell, X11_isWithin, X11_isDay, X11_isHour, X11_isTime, X5_isMark, X5_isPair, X3_isParty, X3_isAngle, X3_isReading, X6_isBase, X7_isTriangle, X14_isCell, X14_in, X14_isMark, X14_isDay, X14_isHour, X14_isParty, X14_isAngle, X14_isReading, X14_isBase, X14_isTriangle, g_X11_denied, g_X11_granted, g_X11_refused, g_X11_answered, g_X14_denied, g_X14_granted, g_X14_refused, g_X14_done, bi_eq0, bi_01, rf01_0, rf01_1, rf_i_c, rf_i_l, pu, h1, h2, h3, h8, h9, g, JT, JArc, t1, t2, c1, c3, c5]
        grind [iv, ib]
    · simp [wp_b, wp_bv, wp_g, wp_ite, wp_some, wp_vi, wp_vl, X11_isCell, X11_isWithin, X11_isDay, X11_isHour, X11_isTime, X5_isMark, X5_isPair, X3_isParty, X3_isAngle, X3_isReading, X6_isBase, X7_isTriangle, X14_isCell, X14_in, X14_isMark, X14_isDay, X14_isHour, X14_isParty, X14_isAngle, X14_isReading, X14_isBase, X14_isTriangle, g_X11_denied, g_X11_granted, g_X11_refused, g_X11_answered, g_X14_denied, g_X14_granted, g_X14_refused, g_X14_done, bi_eq0, bi_01, rf01_0, rf01_1, rf_i_c, rf_i_l, pu, h1, h2, JT, JArc, t1, t2, c1, c3, c5]
      exact ⟨c2, c4, c6⟩
  · simp [wp_b, wp_bv, wp_g, wp_ite, wp_some, wp_vi, wp_vl, X11_isCell, X11_isWithin, X11_isDay, X11_isHour, X11_isTime, X5_isMark, X5_isPair, X3_isParty, X3_isAngle, X3_isReading, X6_isBase, X7_isTriangle, X14_isCell, X14_in, X14_isMark, X14_isDay, X14_isHour, X14_isParty, X14_isAngle, X14_isReading, X14_isBase, X14_isTriangle, g_X11_denied, g_X11_granted, g_X11_refused, g_X11_answered, g_X14_denied, g_X14_granted, g_X14_refused, g_X14_done, bi_eq0, bi_01, rf01_0, rf01_1, rf_i_c, rf_i_l, pu, h1, JT, JArc, t1, t2, c1, c3, c5]
    exact ⟨c2, c4, c6⟩
theorem k47 {w : rf_w} {m : rf_m} {y : Nat → Int32} (jmark : JMark m) (jt : JT m) (jlevel : JLevel m) : wp (g_lc_47 w m y) (fun r => r.1 = w ∧ JT r.2 ∧ JLevel r.2) := by
  unfold g_lc_47 g_X11_level g_X10_addLevel g_X14_level
  obtain ⟨t1, t2, t3⟩ := jt
  obtain ⟨c1, c2, c3, c4, c5, c6⟩ := jlevel
  have k1 := jmark.1
  by_cases h1 : ib (y 1) (m.1 206 4)
  · by_cases h2 : ib (y 2) (m.1 206 4)
    · by_cases h4 : y 1 = y 2
      · simp [wp_b, wp_bv, wp_g, wp_ite, wp_some, wp_vi, wp_vl, X11_isCell, X11_isWithin, X11_isDay, X11_isHour, X11_isTime, X5_isMark, X5_isPair, X3_isParty, X3_isAngle, X3_isReading, X6_isBase, X7_isTriangle, X14_isCell, X14_in, X14_isMark, X14_isDay, X14_isHour, X14_isParty, X14_isAngle, X14_isReading, X14_isBase, X14_isTriangle, g_X11_denied, g_X11_granted, g_X11_refused, g_X11_answered, g_X14_denied, g_X14_granted, g_X14_refused, g_X14_done, bi_eq0, bi_01, rf01_0, rf01_1, rf_i_c, rf_i_l, pu, h1, h2, h4, JT, JLevel, t1, t2, c1, c3, c4, c5, k1]
        exact ⟨c2, c6⟩
      · by_cases h5 : iv (-1000000) 1000000 (y 3)
        · by_cases h6 : ib (y 4) 24
          · by_cases h3 : m.1 206 136 = 60
            · have hx : ¬ m.1 206 136 < 60 := by grind [iv, ib]
              simp [wp_b, wp_bv, wp_g, wp_ite, wp_some, wp_vi, wp_vl, X11_isCell, X11_isWithin, X11_isDay, X11_isHour, X11_isTime, X5_isMark, X5_isPair, X3_isParty, X3_isAngle, X3_isReading, X6_isBase, X7_isTriangle, X14_isCell, X14_in, X14_isMark, X14_isDay, X14_isHour, X14_isParty, X14_isAngle, X14_isReading, X14_isBase, X14_isTriangle, g_X11_denied, g_X11_granted, g_X11_refused, g_X11_answered, g_X14_denied, g_X14_granted, g_X14_refused, g_X14_done, bi_eq0, bi_01, rf01_0, rf01_1, rf_i_c, rf_i_l, pu, h1, h2, h4, h5, h6, eq_true h3, hx, JT, JLevel, t1, t2, c1, c3, c4, c5, k1]
              exact fun _ => ⟨c2, c6⟩
            · have g : rf_in (m.1 206 136) 60 = true := gin c2.1 (by grind [iv, ib]) (by decide)
              have h8 : ¬ 60 ≤ m.1 206 136 := by grind [iv, ib]
              have h9 : m.1 206 136 < 60 := by grind [iv, ib]
              simp [wp_b, wp_bv, wp_g, wp_ite, wp_some, wp_vi, wp_vl, X11_isCell, X11_isWithin, X11_isDay, X11_isHour, X11_isTime, X5_isMark, X5_isPair, X3_isParty, X3_isAngle, X3_isReading, X6_isBase, X7_isTriangle, X14_isCell, X14_in, X14_isMark, X14_isDay, X14_isHour, X14_isParty, X14_isAngle, X14_isReading, X14_isBase, X14_isTriangle, g_X11_denied, g_X11_granted, g_X11_refused, g_X11_answered, g_X14_denied, g_X14_granted, g_X14_refused, g_X14_done, bi_eq0, bi_01, rf01_0, rf01_1, rf_i_c, rf_i_l, pu, h1, h2, h4, h5, h6, h3, h8, h9, g, JT, JLevel, t1, t2, c1, c3, c4, c5, k1]
              grind [iv, ib]
          · simp [wp_b, wp_bv, wp_g, wp_ite, wp_some, wp_vi, wp_vl, X11_isCell, X11_isWithin, X11_isDay, X11_isHour, X11_isTime, X5_isMark, X5_isPair, X3_isParty, X3_isAngle, X3_isReading, X6_isBase, X7_isTriangle, X14_isCell, X14_in, X14_isMark, X14_isDay, X14_isHour, X14_isParty, X14_isAngle, X14_isReading, X14_isBase, X14_isTriangle, g_X11_denied, g_X11_granted, g_X11_refused, g_X11_answered, g_X14_denied, g_X14_granted, g_X14_refused, g_X14_done, bi_eq0, bi_01, rf01_0, rf01_1, rf_i_c, rf_i_l, pu, h1, h2, h4, h5, h6, JT, JLevel, t1, t2, c1, c3, c4, c5, k1]
            exact ⟨c2, c6⟩
        · simp [wp_b, wp_bv, wp_g, wp_ite, wp_some, wp_vi, wp_vl, X11_isCell, X11_isWithin, X11_isDay, X11_isHour, X11_isTime, X5_isMark, X5_isPair, X3_isParty, X3_isAngle, X3_isReading, X6_isBase, X7_isTriangle, X14_isCell, X14_in, X14_isMark, X14_isDay, X14_isHour, X14_isParty, X14_isAngle, X14_isReading, X14_isBase, X14_isTriangle, g_X11_denied, g_X11_granted, g_X11_refused, g_X11_answered, g_X14_denied, g_X14_granted, g_X14_refused, g_X14_done, bi_eq0, bi_01, rf01_0, rf01_1, rf_i_c, rf_i_l, pu, h1, h2, h4, h5, JT, JLevel, t1, t2, c1, c3, c4, c5, k1]
          exact ⟨c2, c6⟩
    · simp [wp_b, wp_bv, wp_g, wp_ite, wp_some, wp_vi, wp_vl, X11_isCell, X11_isWithin, X11_isDay, X11_isHour, X11_isTime, X5_isMark, X5_isPair, X3_isParty, X3_isAngle, X3_isReading, X6_isBase, X7_isTriangle, X14_isCell, X14_in, X14_isMark, X14_isDay, X14_isHour, X14_isParty, X14_isAngle, X14_isReading, X14_isBase, X14_isTriangle, g_X11_denied, g_X11_granted, g_X11_refused, g_X11_answered, g_X14_denied, g_X14_granted, g_X14_refused, g_X14_done, bi_eq0, bi_01, rf01_0, rf01_1, rf_i_c, rf_i_l, pu, h1, h2, JT, JLevel, t1, t2, c1, c3, c4, c5, k1]
      exact ⟨c2, c6⟩
  · simp [wp_b, wp_bv, wp_g, wp_ite, wp_some, wp_vi, wp_vl, X11_isCell, X11_isWithin, X11_isDay, X11_isHour, X11_isTime, X5_isMark, X5_isPair, X3_isParty, X3_isAngle, X3_isReading, X6_isBase, X7_isTriangle, X14_isCell, X14_in, X14_isMark, X14_isDay, X14_isHour, X14_isParty, X14_isAngle, X14_isReading, X14_isBase, X14_isTriangle, g_X11_denied, g_X11_granted, g_X11_refused, g_X11_answered, g_X14_denied, g_X14_granted, g_X14_refused, g_X14_done, bi_eq0, bi_01, rf01_0, rf01_1, rf_i_c, rf_i_l, pu, h1, JT, JLevel, t1, t2, c1, c3, c4, c5, k1]
    exact ⟨c2, c6⟩
theorem k44 {w : rf_w} {m : rf_m} {y : Nat → Int32} (jmark : JMark m) (jt : JT m) (jsight : JSight m) : wp (g_lc_44 w m y) (fun r => r.1 = w ∧ JT r.2 ∧ JSight r.2) := by
  unfold g_lc_44 g_X11_star g_X10_addStar g_X14_star
  obtain ⟨t1, t2, t3⟩ := jt
  obtain ⟨c1, c2, c3, c4, c5, c6, c7⟩ := jsight
  have k1 := jmark.1
  by_cases h1 : ib (y 1) (m.1 206 4)
  · by_cases h2 : ib (y 2) (m.1 206 4)
    · by_cases h4 : y 1 = y 2
      · simp [wp_b, wp_bv, wp_g, wp_ite, wp_some, wp_vi, wp_vl, X11_isCell, X11_isWithin, X11_isDay, X11_isHour, X11_isTime, X5_isMark, X5_isPair, X3_isParty, X3_isAngle, X3_isReading, X6_isBase, X7_isTriangle, X14_isCell, X14_in, X14_isMark, X14_isDay, X14_isHour, X14_isParty, X14_isAngle, X14_isReading, X14_isBase, X14_isTriangle, g_X11_denied, g_X11_granted, g_X11_refused, g_X11_answered, g_X14_denied, g_X14_granted, g_X14_refused, g_X14_done, bi_eq0, bi_01, rf01_0, rf01_1, rf_i_c, rf_i_l, pu, h1, h2, h4, JT, JSight, t1, t2, c1, c3, c4, c5, k1]
        exact ⟨c2, c6, c7⟩
      · by_cases h5 : iv 0 12959999 (y 3)
        · by_cases h6 : ib (y 4) 24
          · by_cases h3 : m.1 206 126 = 20
            · have hx : ¬ m.1 206 126 < 20 := by grind [iv, ib]
              simp [wp_b, wp_bv, wp_g, wp_ite, wp_some, wp_vi, wp_vl, X11_isCell, X11_isWithin, X11_isDay, X11_isHour, X11_isTime, X5_isMark, X5_isPair, X3_isParty, X3_isAngle, X3_isReading, X6_isBase, X7_isTriangle, X14_isCell, X14_in, X14_isMark, X14_isDay, X14_isHour, X14_isParty, X14_isAngle, X14_isReading, X14_isBase, X14_isTriangle, g_X11_denied, g_X11_granted, g_X11_refused, g_X11_answered, g_X14_denied, g_X14_granted, g_X14_refused, g_X14_done, bi_eq0, bi_01, rf01_0, rf01_1, rf_i_c, rf_i_l, pu, h1, h2, h4, h5, h6, eq_true h3, hx, JT, JSight, t1, t2, c1, c3, c4, c5, k1]
              exact fun _ => ⟨c2, c6, c7⟩
            · have g : rf_in (m.1 206 126) 20 = true := gin c2.1 (by grind [iv, ib]) (by decide)
              have h8 : ¬ 20 ≤ m.1 206 126 := by grind [iv, ib]
              have h9 : m.1 206 126 < 20 := by grind [iv, ib]
              simp [wp_b, wp_bv, wp_g, wp_ite, wp_some, wp_vi, wp_vl, X11_isCell, X11_isWithin, X11_isDay, X11_isHour, X11_isTime, X5_isMark, X5_isPair, X3_isParty, X3_isAngle, X3_isReading, X6_isBase, X7_isTriangle, X14_isCell, X14_in, X14_isMark, X14_isDay, X14_isHour, X14_isParty, X14_isAngle, X14_isReading, X14_isBase, X14_isTriangle, g_X11_denied, g_X11_granted, g_X11_refused, g_X11_answered, g_X14_denied, g_X14_granted, g_X14_refused, g_X14_done, bi_eq0, bi_01, rf01_0, rf01_1, rf_i_c, rf_i_l, pu, h1, h2, h4, h5, h6, h3, h8, h9, g, JT, JSight, t1, t2, c1, c3, c4, c5, k1]
              refine ⟨by grind [iv, ib], by grind [iv, ib], all_succ c2.1 (by grind [iv, ib]) (fun i hi => ?_) ?_⟩
              · have := c7 i hi
                have e : i ≠ (m.1 206 126).toNatClampNeg := by omega
                simpa [e] using this
              · unfold ib at h1 h2; simp [h1, h2, h4]
          · simp [wp_b, wp_bv, wp_g, wp_ite, wp_some, wp_vi, wp_vl, X11_isCell, X11_isWithin, X11_isDay, X11_isHour, X11_isTime, X5_isMark, X5_isPair, X3_isParty, X3_isAngle, X3_isReading, X6_isBase, X7_isTriangle, X14_isCell, X14_in, X14_isMark, X14_isDay, X14_isHour, X14_isParty, X14_isAngle, X14_isReading, X14_isBase, X14_isTriangle, g_X11_denied, g_X11_granted, g_X11_refused, g_X11_answered, g_X14_denied, g_X14_granted, g_X14_refused, g_X14_done, bi_eq0, bi_01, rf01_0, rf01_1, rf_i_c, rf_i_l, pu, h1, h2, h4, h5, h6, JT, JSight, t1, t2, c1, c3, c4, c5, k1]
            exact ⟨c2, c6, c7⟩
        · simp [wp_b, wp_bv, wp_g, wp_ite, wp_some, wp_vi, wp_vl, X11_isCell, X11_isWithin, X11_isDay, X11_isHour, X11_isTime, X5_isMark, X5_isPair, X3_isParty, X3_isAngle, X3_isReading, X6_isBase, X7_isTriangle, X14_isCell, X14_in, X14_isMark, X14_isDay, X14_isHour, X14_isParty, X14_isAngle, X14_isReading, X14_isBase, X14_isTriangle, g_X11_denied, g_X11_granted, g_X11_refused, g_X11_answered, g_X14_denied, g_X14_granted, g_X14_refused, g_X14_done, bi_eq0, bi_01, rf01_0, rf01_1, rf_i_c, rf_i_l, pu, h1, h2, h4, h5, JT, JSight, t1, t2, c1, c3, c4, c5, k1]
          exact ⟨c2, c6, c7⟩
    · simp [wp_b, wp_bv, wp_g, wp_ite, wp_some, wp_vi, wp_vl, X11_isCell, X11_isWithin, X11_isDay, X11_isHour, X11_isTime, X5_isMark, X5_isPair, X3_isParty, X3_isAngle, X3_isReading, X6_isBase, X7_isTriangle, X14_isCell, X14_in, X14_isMark, X14_isDay, X14_isHour, X14_isParty, X14_isAngle, X14_isReading, X14_isBase, X14_isTriangle, g_X11_denied, g_X11_granted, g_X11_refused, g_X11_answered, g_X14_denied, g_X14_granted, g_X14_refused, g_X14_done, bi_eq0, bi_01, rf01_0, rf01_1, rf_i_c, rf_i_l, pu, h1, h2, JT, JSight, t1, t2, c1, c3, c4, c5, k1]
      exact ⟨c2, c6, c7⟩
  · simp [wp_b, wp_bv, wp_g, wp_ite, wp_some, wp_vi, wp_vl, X11_isCell, X11_isWithin, X11_isDay, X11_isHour, X11_isTime, X5_isMark, X5_isPair, X3_isParty, X3_isAngle, X3_isReading, X6_isBase, X7_isTriangle, X14_isCell, X14_in, X14_isMark, X14_isDay, X14_isHour, X14_isParty, X14_isAngle, X14_isReading, X14_isBase, X14_isTriangle, g_X11_denied, g_X11_granted, g_X11_refused, g_X11_answered, g_X14_denied, g_X14_granted, g_X14_refused, g_X14_done, bi_eq0, bi_01, rf01_0, rf01_1, rf_i_c, rf_i_l, pu, h1, JT, JSight, t1, t2, c1, c3, c4, c5, k1]
    exact ⟨c2, c6, c7⟩
theorem k54 {w : rf_w} {m : rf_m} {y : Nat → Int32} (jt : JT m) (jd : JD m) : wp (g_lc_54 w m y) (fun r => r.1 = w ∧ JT r.2 ∧ JD r.2) := by
  unfold g_lc_54 g_X11_pass g_X14_pass
  obtain ⟨t1, t2, t3⟩ := jt
  obtain ⟨c1, c2⟩ := jd
  by_cases h1 : iv 1 1000 (y 1)
  · by_cases h2 : m.1 206 5 + y 1 ≤ 9999
    · have h3 : ¬ 9999 < m.1 206 5 + y 1 := by grind [iv, ib]
      have h4 : ¬ 10000 ≤ m.1 206 5 + y 1 := by grind [iv, ib]
      have h5 : m.1 206 5 + y 1 < 10000 := by grind [iv, ib]
      simp [wp_b, wp_bv, wp_g, wp_ite, wp_some, wp_vi, wp_vl, X11_isCell, X11_isWithin, X11_isDay, X11_isHour, X11_isTime, X5_isMark, X5_isPair, X3_isParty, X3_isAngle, X3_isReading, X6_isBase, X7_isTriangle, X14_isCell, X14_in, X14_isMark, X14_isDay, X14_isHour, X14_isParty, X14_isAngle, X14_isReading, X14_isBase, X14_isTriangle, g_X11_denied, g_X11_granted, g_X11_refused, g_X11_answered, g_X14_denied, g_X14_granted, g_X14_refused, g_X14_done, bi_eq0, bi_01, rf01_0, rf01_1, rf_i_c, rf_i_l, pu, h1, h2, h3, h4, h5, JT, JD, t1, t2, c1]
      grind [iv, ib]
    · have h3 : 9999 < m.1 206 5 + y 1 := by grind [iv, ib]
      have h4 : 10000 ≤ m.1 206 5 + y 1 := by grind [iv, ib]
      have h5 : ¬ m.1 206 5 + y 1 < 10000 := by grind [iv, ib]
      simp [wp_b, wp_bv, wp_g, wp_ite, wp_some, wp_vi, wp_vl, X11_isCell, X11_isWithin, X11_isDay, X11_isHour, X11_isTime, X5_isMark, X5_isPair, X3_isParty, X3_isAngle, X3_isReading, X6_isBase, X7_isTriangle, X14_isCell, X14_in, X14_isMark, X14_isDay, X14_isHour, X14_isParty, X14_isAngle, X14_isReading, X14_isBase, X14_isTriangle, g_X11_denied, g_X11_granted, g_X11_refused, g_X11_answered, g_X14_denied, g_X14_granted, g_X14_refused, g_X14_done, bi_eq0, bi_01, rf01_0, rf01_1, rf_i_c, rf_i_l, pu, h1, h2, h3, h4, h5, JT, JD, t1, t2, c1]
      exact c2
  · simp [wp_b, wp_bv, wp_g, wp_ite, wp_some, wp_vi, wp_vl, X11_isCell, X11_isWithin, X11_isDay, X11_isHour, X11_isTime, X5_isMark, X5_isPair, X3_isParty, X3_isAngle, X3_isReading, X6_isBase, X7_isTriangle, X14_isCell, X14_in, X14_isMark, X14_isDay, X14_isHour, X14_isParty, X14_isAngle, X14_isReading, X14_isBase, X14_isTriangle, g_X11_denied, g_X11_granted, g_X11_refused, g_X11_answered, g_X14_denied, g_X14_granted, g_X14_refused, g_X14_done, bi_eq0, bi_01, rf01_0, rf01_1, rf_i_c, rf_i_l, pu, h1, JT, JD, t1, t2, c1]
    exact c2
theorem k56 {w : rf_w} {m : rf_m} {y : Nat → Int32} (jt : JT m) : wp (g_lc_56 w m y) (fun r => r.1 = w ∧ JT r.2) := by
  unfold g_lc_56 g_X11_trouble g_X14_trouble
  obtain ⟨t1, t2, t3⟩ := jt
  simp [wp_b, wp_bv, wp_g, wp_ite, wp_some, wp_vi, wp_vl, X11_isCell, X11_isWithin, X11_isDay, X11_isHour, X11_isTime, X5_isMark, X5_isPair, X3_isParty, X3_isAngle, X3_isReading, X6_isBase, X7_isTriangle, X14_isCell, X14_in, X14_isMark, X14_isDay, X14_isHour, X14_isParty, X14_isAngle, X14_isReading, X14_isBase, X14_isTriangle, g_X11_denied, g_X11_granted, g_X11_refused, g_X11_answered, g_X14_denied, g_X14_granted, g_X14_refused, g_X14_done, bi_eq0, bi_01, rf01_0, rf01_1, rf_i_c, rf_i_l, pu, JT, t1, t2, t3]
theorem k16 {w : rf_w} {m : rf_m} {y : Nat → Int32} (jt : JT m) : wp (g_lc_16 w m y) (fun r => r.1 = w ∧ JT r.2) := by
  unfold g_lc_16 g_X11_fault g_X14_fault
  obtain ⟨t1, t2, t3⟩ := jt
  simp [wp_b, wp_bv, wp_g, wp_ite, wp_some, wp_vi, wp_vl, X11_isCell, X11_isWithin, X11_isDay, X11_isHour, X11_isTime, X5_isMark, X5_isPair, X3_isParty, X3_isAngle, X3_isReading, X6_isBase, X7_isTriangle, X14_isCell, X14_in, X14_isMark, X14_isDay, X14_isHour, X14_isParty, X14_isAngle, X14_isReading, X14_isBase, X14_isTriangle, g_X11_denied, g_X11_granted, g_X11_refused, g_X11_answered, g_X14_denied, g_X14_granted, g_X14_refused, g_X14_done, bi_eq0, bi_01, rf01_0, rf01_1, rf_i_c, rf_i_l, pu, JT, t1, t2, t3]
theorem k17 {w : rf_w} {m : rf_m} {y : Nat → Int32} (jt : JT m) : wp (g_lc_17 w m y) (fun r => r.1 = w ∧ JT r.2) := by
  unfold g_lc_17 g_X11_where g_X14_where
  obtain ⟨t1, t2, t3⟩ := jt
  simp [wp_b, wp_bv, wp_g, wp_ite, wp_some, wp_vi, wp_vl, X11_isCell, X11_isWithin, X11_isDay, X11_isHour, X11_isTime, X5_isMark, X5_isPair, X3_isParty, X3_isAngle, X3_isReading, X6_isBase, X7_isTriangle, X14_isCell, X14_in, X14_isMark, X14_isDay, X14_isHour, X14_isParty, X14_isAngle, X14_isReading, X14_isBase, X14_isTriangle, g_X11_denied, g_X11_granted, g_X11_refused, g_X11_answered, g_X14_denied, g_X14_granted, g_X14_refused, g_X14_done, bi_eq0, bi_01, rf01_0, rf01_1, rf_i_c, rf_i_l, pu, JT, t1, t2, t3]
  grind
theorem k22 {w : rf_w} {m : rf_m} {y : Nat → Int32} (jt : JT m) (jbase : JBase m) : wp (g_lc_22 w m y) (fun r => r.1 = w ∧ JT r.2 ∧ JBase r.2) := by
  unfold g_lc_22 g_X11_growth g_X14_growth
  obtain ⟨t1, t2, t3⟩ := jt
  obtain ⟨c1, c2, c3, c4, c5, c6, c7, c8, c9, d⟩ := jbase
  by_cases h1 : iv 0 50 (y 1)
  · simp [wp_b, wp_bv, wp_g, wp_ite, wp_some, wp_vi, wp_vl, X11_isCell, X11_isWithin, X11_isDay, X11_isHour, X11_isTime, X5_isMark, X5_isPair, X3_isParty, X3_isAngle, X3_isReading, X6_isBase, X7_isTriangle, X14_isCell, X14_in, X14_isMark, X14_isDay, X14_isHour, X14_isParty, X14_isAngle, X14_isReading, X14_isBase, X14_isTriangle, g_X11_denied, g_X11_granted, g_X11_refused, g_X11_answered, g_X14_denied, g_X14_granted, g_X14_refused, g_X14_done, bi_eq0, bi_01, rf01_0, rf01_1, rf_i_c, rf_i_l, pu, h1, JT, JBase, t1, t2, c1, c3, c5, c6, c7, c8, c9]
    exact ⟨c2, d⟩
  · simp [wp_b, wp_bv, wp_g, wp_ite, wp_some, wp_vi, wp_vl, X11_isCell, X11_isWithin, X11_isDay, X11_isHour, X11_isTime, X5_isMark, X5_isPair, X3_isParty, X3_isAngle, X3_isReading, X6_isBase, X7_isTriangle, X14_isCell, X14_in, X14_isMark, X14_isDay, X14_isHour, X14_isParty, X14_isAngle, X14_isReading, X14_isBase, X14_isTriangle, g_X11_denied, g_X11_granted, g_X11_refused, g_X11_answered, g_X14_denied, g_X14_granted, g_X14_refused, g_X14_done, bi_eq0, bi_01, rf01_0, rf01_1, rf_i_c, rf_i_l, pu, h1, JT, JBase, t1, t2, c1, c3, c5, c6, c7, c8, c9]
    exact ⟨c2, c4, d⟩
end PBP
