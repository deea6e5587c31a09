/-! haze, towers -/
section PBLand3
theorem of_ne_m1 {j : Nat} (h : j < 2147483648) : ¬ Int32.ofNat j = -1 := by
  have := of_nn h
  intro e
  rw [e] at this
  exact absurd this (by decide)
theorem k4 {w : rf_w} {m : rf_m} {y : Nat → Int32} (jt : JT m) (jhaze : JHaze m) : wp (g_lc_4 w m y) (fun r => r.1 = w ∧ JT r.2 ∧ JHaze r.2) := by
  unfold g_lc_4 g_X11_haze g_X14_haze
  obtain ⟨t1, t2, t3⟩ := jt
  obtain ⟨c1, c2, c3, c4, c5, c6, c7⟩ := jhaze
  have b1 : iv 0 200 (m.1 1 12) := by rw [c1]; exact c2
  by_cases h1 : ib (y 1) 10000
  · by_cases h2 : ib (y 2) 24
    · by_cases h3 : iv 0 32 (y 3)
      · have hP : ∀ j, (m.1 9 j = y 1 * 24 + y 2) ↔ (m.1 211 j = y 1 ∧ m.1 212 j = y 2) := by
          intro j
          have q1 := c5 j
          have q2 := c6 j
          rw [c7 j]
          unfold iv ib at *
          constructor
          · intro h; constructor <;> grind
          · intro h; rw [h.1, h.2]
        rcases first_or (fun j => m.1 211 j = y 1 ∧ m.1 212 j = y 2) (m.1 206 6).toNatClampNeg with hn | ⟨j, hj, hp, hn⟩
        · have e1 : g_X5_hazeAt w m (y 1 * 24 + y 2) = some (-1, m) := X5_hazeAt_no b1 (by rw [c1]; exact fun j hj h => hn j hj ((hP j).mp h))
          by_cases h4 : m.1 206 6 = 200
          · have hx : ¬ m.1 206 6 < 200 := by rw [h4]; decide
            have e2 : ∀ M : rf_m, M.1 206 6 = m.1 206 6 → M.1 211 = m.1 211 → M.1 212 = m.1 212 → g_X14_haze_38 w rf_fuel (y 1) (y 2) (y 3) 0 M = some (0, rf_i (rf_i M 206 1 3) 206 2 (-1)) := by
              intro M q1 q2 q3
              rw [X14_haze38_no (by rw [q1]; exact c2) (by rw [q1, q2, q3]; exact hn)]
              unfold g_X14_haze_75
              rw [if_pos (by rw [q1, h4])]
              rfl
            simp [wp_b, wp_bv, wp_g, wp_ite, wp_some, wp_vi, wp_vl, X11_isCell, X11_isWithin, X11_isDay, X11_isHour, X11_isTime, X5_isMark, X5_isPair, X3_isParty, X3_isAngle, X3_isReading, X6_isBase, X7_isTriangle, X14_isCell, X14_in, X14_isMark, X14_isDay, X14_isHour, X14_isParty, X14_isAngle, X14_isReading, X14_isBase, X14_isTriangle, g_X11_denied, g_X11_granted, g_X11_refused, g_X11_answered, g_X14_denied, g_X14_granted, g_X14_refused, g_X14_done, bi_eq0, bi_01, rf01_0, rf01_1, rf_i_c, rf_i_l, pu, h1, h2, h3, e1, e2, hx, g_X5_setReach, JT, JHaze, t1, t2, c1, c3]
            exact fun _ => ⟨c2, c4, c5, c6, c7⟩
          · have hx : m.1 206 6 < 200 := by grind [iv]
            have g : rf_in (m.1 206 6) 200 = true := gin c2.1 hx (by decide)
            have e2 : ∀ M : rf_m, M.1 206 6 = m.1 206 6 → M.1 211 = m.1 211 → M.1 212 = m.1 212 → g_X14_haze_38 w rf_fuel (y 1) (y 2) (y 3) 0 M = some (1, rf_i (rf_i (rf_i (rf_i (rf_i (rf_i M 206 6 (m.1 206 6 + 1)) 211 (m.1 206 6).toNatClampNeg (y 1)) 212 (m.1 206 6).toNatClampNeg (y 2)) 213 (m.1 206 6).toNatClampNeg (y 3)) 206 1 0) 206 2 (-1)) := by
              intro M q1 q2 q3
              rw [X14_haze38_no (by rw [q1]; exact c2) (by rw [q1, q2, q3]; exact hn)]
              unfold g_X14_haze_75
              have q4 : m.1 206 6 < m.1 206 6 + 1 := by grind [iv]
              rw [if_neg (by rw [q1]; exact h4)]
              simp [rf_b, g_max, q1, q4, g, g_t, g_X14_granted, rf01_1]
            simp [wp_b, wp_bv, wp_g, wp_ite, wp_some, wp_vi, wp_vl, X11_isCell, X11_isWithin, X11_isDay, X11_isHour, X11_isTime, X5_isMark, X5_isPair, X3_isParty, X3_isAngle, X3_isReading, X6_isBase, X7_isTriangle, X14_isCell, X14_in, X14_isMark, X14_isDay, X14_isHour, X14_isParty, X14_isAngle, X14_isReading, X14_isBase, X14_isTriangle, g_X11_denied, g_X11_granted, g_X11_refused, g_X11_answered, g_X14_denied, g_X14_granted, g_X14_refused, g_X14_done, bi_eq0, bi_01, rf01_0, rf01_1, rf_i_c, rf_i_l, pu, h1, h2, h3, e1, e2, hx, g, g_X5_setReach, JT, JHaze, t1, t2, c1, c3]
            refine ⟨by grind [iv], fun i => ?_, fun i => ?_, fun i => ?_, fun i => ?_⟩
            · split
              · exact h3
              · exact c4 i
            · split
              · exact ib_iv2.mpr h1
              · exact c5 i
            · split
              · exact ib_iv3.mpr h2
              · exact c6 i
            · split
              · rfl
              · exact c7 i
        · have hb : (m.1 206 6).toNatClampNeg ≤ 200 := tn_le c2.1 c2.2 (by decide)
          have e1 : g_X5_hazeAt w m (y 1 * 24 + y 2) = some (Int32.ofNat j, m) := X5_hazeAt_yes b1 (by rw [c1]; exact hj) ((hP j).mpr hp) (fun k hk h => hn k hk ((hP k).mp h))
          have g : rf_in (Int32.ofNat j) 200 = true := gof (by omega) (by decide)
          have t : (Int32.ofNat j).toNatClampNeg = j := tn_of (by omega)
          have d1 : ¬ Int32.ofNat j = -1 := of_ne_m1 (by omega)
          have d2 : ¬ Int32.ofNat j = 200 := fun e => by have := (of_inj (a := j) (b := 200) (by omega) (by omega)).mp e; omega
          have d3 : ¬ m.1 206 6 < Int32.ofNat j + 1 := by
            rw [← of_tn c2.1, of_succ, of_lt (by omega) (by omega)]; omega
          have e2 : ∀ M : rf_m, M.1 206 6 = m.1 206 6 → M.1 211 = m.1 211 → M.1 212 = m.1 212 → g_X14_haze_38 w rf_fuel (y 1) (y 2) (y 3) 0 M = some (1, rf_i (rf_i (rf_i (rf_i (rf_i (rf_i M 206 6 (m.1 206 6)) 211 j (y 1)) 212 j (y 2)) 213 j (y 3)) 206 1 0) 206 2 (-1)) := by
            intro M q1 q2 q3
            rw [X14_haze38_yes (j := j) (by rw [q1]; exact c2) (by rw [q1]; exact hj) (by rw [q2, q3]; exact hp) (by rw [q2, q3]; exact hn)]
            unfold g_X14_haze_75
            rw [if_neg d2]
            simp [rf_b, g_max, q1, d3, g, t, g_t, g_X14_granted, rf01_1]
          simp [wp_b, wp_bv, wp_g, wp_ite, wp_some, wp_vi, wp_vl, X11_isCell, X11_isWithin, X11_isDay, X11_isHour, X11_isTime, X5_isMark, X5_isPair, X3_isParty, X3_isAngle, X3_isReading, X6_isBase, X7_isTriangle, X14_isCell, X14_in, X14_isMark, X14_isDay, X14_isHour, X14_isParty, X14_isAngle, X14_isReading, X14_isBase, X14_isTriangle, g_X11_denied, g_X11_granted, g_X11_refused, g_X11_answered, g_X14_denied, g_X14_granted, g_X14_refused, g_X14_done, bi_eq0, bi_01, rf01_0, rf01_1, rf_i_c, rf_i_l, pu, h1, h2, h3, e1, e2, g, t, d1, g_X5_setReach, JT, JHaze, t1, t2, c1, c3]
          refine ⟨c2, fun i => ?_, fun i => ?_, fun i => ?_, fun i => ?_⟩
          · split
            · exact h3
            · exact c4 i
          · split
            · exact ib_iv2.mpr h1
            · exact c5 i
          · split
            · exact ib_iv3.mpr h2
            · exact c6 i
          · split
            · rfl
            · exact c7 i
      · simp [wp_b, wp_bv, wp_g, wp_ite, wp_some, wp_vi, wp_vl, X11_isCell, X11_isWithin, X11_isDay, X11_isHour, X11_isTime, X5_isMark, X5_isPair, X3_isParty, X3_isAngle, X3_isReading, X6_isBase, X7_isTriangle, X14_isCell, X14_in, X14_isMark, X14_isDay, X14_isHour, X14_isParty, X14_isAngle, X14_isReading, X14_isBase, X14_isTriangle, g_X11_denied, g_X11_granted, g_X11_refused, g_X11_answered, g_X14_denied, g_X14_granted, g_X14_refused, g_X14_done, bi_eq0, bi_01, rf01_0, rf01_1, rf_i_c, rf_i_l, pu, h1, h2, h3, JT, JHaze, t1, t2, c1, c3]
        exact ⟨c2, c4, c5, c6, c7⟩
    · simp [wp_b, wp_bv, wp_g, wp_ite, wp_some, wp_vi, wp_vl, X11_isCell, X11_isWithin, X11_isDay, X11_isHour, X11_isTime, X5_isMark, X5_isPair, X3_isParty, X3_isAngle, X3_isReading, X6_isBase, X7_isTriangle, X14_isCell, X14_in, X14_isMark, X14_isDay, X14_isHour, X14_isParty, X14_isAngle, X14_isReading, X14_isBase, X14_isTriangle, g_X11_denied, g_X11_granted, g_X11_refused, g_X11_answered, g_X14_denied, g_X14_granted, g_X14_refused, g_X14_done, bi_eq0, bi_01, rf01_0, rf01_1, rf_i_c, rf_i_l, pu, h1, h2, JT, JHaze, t1, t2, c1, c3]
      exact ⟨c2, c4, c5, c6, c7⟩
  · simp [wp_b, wp_bv, wp_g, wp_ite, wp_some, wp_vi, wp_vl, X11_isCell, X11_isWithin, X11_isDay, X11_isHour, X11_isTime, X5_isMark, X5_isPair, X3_isParty, X3_isAngle, X3_isReading, X6_isBase, X7_isTriangle, X14_isCell, X14_in, X14_isMark, X14_isDay, X14_isHour, X14_isParty, X14_isAngle, X14_isReading, X14_isBase, X14_isTriangle, g_X11_denied, g_X11_granted, g_X11_refused, g_X11_answered, g_X14_denied, g_X14_granted, g_X14_refused, g_X14_done, bi_eq0, bi_01, rf01_0, rf01_1, rf_i_c, rf_i_l, pu, h1, JT, JHaze, t1, t2, c1, c3]
    exact ⟨c2, c4, c5, c6, c7⟩
theorem lastT_congr {f g h f' g' h' : Nat → Int32} {k d : Int32} : ∀ t : Nat, (∀ i, i < t → f' i = f i ∧ g' i = g i ∧ h' i = h i) → lastT f' g' h' t k d = lastT f g h t k d := by
  intro t
  induction t with
  | zero => intro _; rfl
  | succ t ih =>
    intro H
    unfold lastT
    rw [(H t (by omega)).1, (H t (by omega)).2.1, (H t (by omega)).2.2, ih (fun i hi => H i (by omega))]
def fillT (f : Nat → Int32) (mk d : Nat) (h : Int32) : Nat → Int32 := fun k => if 10000 * mk + d ≤ k ∧ k < 10000 * mk + 10000 then h else f k
theorem X14_tower40 {w : rf_w} {mk : Nat} {h : Int32} (hmk : mk < 30) : ∀ n d (m : rf_m), d ≤ 10000 → 10000 - d < n → g_X14_tower_40 w n (Int32.ofNat mk) h (Int32.ofNat d) m = some (1, rf_i (rf_i (stc m 210 (fillT (m.1 210) mk d h)) 206 1 0) 206 2 (-1)) := by
  intro n
  induction n with
  | zero => intro d m _ h; omega
  | succ n ih =>
    intro d m hd hn
    show g_X14_tower_40_b w (g_X14_tower_40 w n) _ _ _ m = _
    unfold g_X14_tower_40_b
    by_cases e : d = 10000
    · subst e
      have : fillT (m.1 210) mk 10000 h = m.1 210 := by
        funext k
        unfold fillT
        rw [if_neg (by omega)]
      rw [if_pos (by decide), this, stc_self]
      rfl
    · have h1 : ¬ (10000 : Int32) ≤ Int32.ofNat d := nle (R := 10000) (by omega) (by decide)
      have h2 : (10000 : Int32) * Int32.ofNat mk + Int32.ofNat d = Int32.ofNat (10000 * mk + d) := by rw [Int32.ofNat_add, Int32.ofNat_mul]; rfl
      rw [if_neg h1, h2, gof (by omega) (by decide), g_t, tn_of (by omega), of_succ, ih (d + 1) _ (by omega) (by omega), show rf_i m 210 (10000 * mk + d) h = stc m 210 (pu (m.1 210) (10000 * mk + d) h) from stc_i, stc_stc, stc_c, if_pos rfl]
      have : fillT (pu (m.1 210) (10000 * mk + d) h) mk (d + 1) h = fillT (m.1 210) mk d h := by
        funext k
        unfold fillT pu
        by_cases q : k = 10000 * mk + d
        · rw [if_neg (by omega), if_pos q, if_pos (by omega)]
        · by_cases q2 : 10000 * mk + (d + 1) ≤ k ∧ k < 10000 * mk + 10000
          · rw [if_pos q2, if_pos (by omega)]
          · rw [if_neg q2, if_neg q, if_neg (by omega)]
      rw [this]
theorem k2 {w : rf_w} {m : rf_m} {y : Nat → Int32} {c : Nat} (hc : c < 512) (jmark : JMark m) (jd : JD m) (jt : JT m) (jtow : JTow c m) : wp (g_lc_2 w m y) (fun r => r.1 = w ∧ JT r.2 ∧ JTow (c + 1) r.2) := by
  unfold g_lc_2 g_X11_tower g_X14_tower
  obtain ⟨t1, t2, t3⟩ := jt
  have c1 := jmark.1
  have c2 := jmark.2.1
  obtain ⟨d1, d2, d3, d4⟩ := jtow
  obtain ⟨z1, z2⟩ := jd
  by_cases h1 : ib (y 1) (m.1 206 4)
  · by_cases h2 : iv 0 99 (y 2)
    · have hk : (y 1).toNatClampNeg < 30 := tn_lt h1.1 (by grind [iv, ib]) (by decide)
      have hd : (m.1 206 5).toNatClampNeg ≤ 9999 := tn_le z2.1 z2.2 (by decide)
      have ht : m.1 1 9 < 512 := by
        rw [← of_tn d1]
        exact (of_lt (b := 512) (by omega) (by omega)).mpr (by omega)
      have ht2 : ¬ 512 ≤ m.1 1 9 := by grind
      have g : rf_in (m.1 1 9) 512 = true := gin d1 ht (by decide)
      have e2 : ∀ M : rf_m, g_X14_tower_40 w rf_fuel (y 1) (y 2) (m.1 206 5) M = some (1, rf_i (rf_i (stc M 210 (fillT (M.1 210) (y 1).toNatClampNeg (m.1 206 5).toNatClampNeg (y 2))) 206 1 0) 206 2 (-1)) := by
        intro M
        have := X14_tower40 (w := w) (h := y 2) hk rf_fuel (m.1 206 5).toNatClampNeg M (by omega) (by unfold rf_fuel; omega)
        rw [of_tn h1.1, of_tn z2.1] at this
        exact this
      simp [wp_b, wp_bv, wp_g, wp_ite, wp_some, wp_vi, wp_vl, X11_isCell, X11_isWithin, X11_isDay, X11_isHour, X11_isTime, X5_isMark, X5_isPair, X3_isParty, X3_isAngle, X3_isReading, X6_isBase, X7_isTriangle, X14_isCell, X14_in, X14_isMark, X14_isDay, X14_isHour, X14_isParty, X14_isAngle, X14_isReading, X14_isBase, X14_isTriangle, g_X11_denied, g_X11_granted, g_X11_refused, g_X11_answered, g_X14_denied, g_X14_granted, g_X14_refused, g_X14_done, bi_eq0, bi_01, rf01_0, rf01_1, rf_i_c, rf_i_l, pu, h1, h2, e2, ht, ht2, g, g_X5_raise, z1, JT, JTow, t1, t2, c1, stc_c, stc_l]
      have hs : (m.1 1 9 + 1).toNatClampNeg = (m.1 1 9).toNatClampNeg + 1 := tn_succ d1 (by grind)
      have hs2 : (0 : Int32) ≤ m.1 1 9 + 1 := by clear e2 d4 d3; grind
      refine ⟨hs2, by omega, fun i => ?_, fun k d hk2 hd2 => ?_⟩
      · split
        · exact h2
        · exact d3 i
      · rw [hs]
        unfold lastT
        rw [pu_at, pu_at, pu_at]
        have hl := lastT_congr (f := m.1 6) (g := m.1 7) (h := m.1 8) (f' := pu (m.1 6) (m.1 1 9).toNatClampNeg (y 1)) (g' := pu (m.1 7) (m.1 1 9).toNatClampNeg (m.1 206 5)) (h' := pu (m.1 8) (m.1 1 9).toNatClampNeg (y 2)) (k := Int32.ofNat k) (d := Int32.ofNat d) (m.1 1 9).toNatClampNeg (fun i hi => by
          have : i ≠ (m.1 1 9).toNatClampNeg := by omega
          rw [pu_ne this, pu_ne this, pu_ne this]; exact ⟨rfl, rfl, rfl⟩)
        unfold fillT
        by_cases q1 : (y 1).toNatClampNeg = k ∧ (m.1 206 5).toNatClampNeg ≤ d
        · rw [if_pos (by omega), if_pos]
          refine ⟨by rw [← q1.1, of_tn h1.1], ?_⟩
          rw [← of_tn z2.1, of_le (by omega) (by omega)]
          exact q1.2
        · rw [if_neg (by omega), if_neg, hl, d4 k d hk2 hd2]
          rintro ⟨q2, q3⟩
          refine q1 ⟨by rw [q2, tn_of (by omega)], ?_⟩
          rw [← of_tn z2.1, of_le (by omega) (by omega)] at q3
          exact q3
    · simp [wp_b, wp_bv, wp_g, wp_ite, wp_some, wp_vi, wp_vl, X11_isCell, X11_isWithin, X11_isDay, X11_isHour, X11_isTime, X5_isMark, X5_isPair, X3_isParty, X3_isAngle, X3_isReading, X6_isBase, X7_isTriangle, X14_isCell, X14_in, X14_isMark, X14_isDay, X14_isHour, X14_isParty, X14_isAngle, X14_isReading, X14_isBase, X14_isTriangle, g_X11_denied, g_X11_granted, g_X11_refused, g_X11_answered, g_X14_denied, g_X14_granted, g_X14_refused, g_X14_done, bi_eq0, bi_01, rf01_0, rf01_1, rf_i_c, rf_i_l, pu, h1, h2, JT, JTow, t1, t2, c1, stc_c, stc_l]
      exact ⟨d1, by omega, d3, d4⟩
  · simp [wp_b, wp_bv, wp_g, wp_ite, wp_some, wp_vi, wp_vl, X11_isCell, X11_isWithin, X11_isDay, X11_isHour, X11_isTime, X5_isMark, X5_isPair, X3_isParty, X3_isAngle, X3_isReading, X6_isBase, X7_isTriangle, X14_isCell, X14_in, X14_isMark, X14_isDay, X14_isHour, X14_isParty, X14_isAngle, X14_isReading, X14_isBase, X14_isTriangle, g_X11_denied, g_X11_granted, g_X11_refused, g_X11_answered, g_X14_denied, g_X14_granted, g_X14_refused, g_X14_done, bi_eq0, bi_01, rf01_0, rf01_1, rf_i_c, rf_i_l, pu, h1, JT, JTow, t1, t2, c1, stc_c, stc_l]
    exact ⟨d1, by omega, d3, d4⟩
end PBLand3
