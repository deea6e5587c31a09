/-! marks, towers, haze -/
section PBLand2

/-- a whole cell anew -/
def stc (m : rf_m) (c : Nat) (f : Nat → Int32) : rf_m := (fun a => if a = c then f else m.1 a, m.2)
theorem stc_c {m : rf_m} {c a : Nat} {f : Nat → Int32} : (stc m c f).1 a = if a = c then f else m.1 a := rfl
theorem stc_l {m : rf_m} {c : Nat} {f : Nat → Int32} : (stc m c f).2 = m.2 := rfl
theorem stc_eq {m m' : rf_m} {c : Nat} {f : Nat → Int32} (h1 : m'.1 c = f) (h2 : ∀ a, a ≠ c → m'.1 a = m.1 a) (h3 : m'.2 = m.2) : m' = stc m c f := by
  refine Prod.ext ?_ h3
  funext a
  rw [stc_c]
  by_cases e : a = c
  · rw [if_pos e, e, h1]
  · rw [if_neg e, h2 a e]
theorem stc_self {m : rf_m} {c : Nat} : stc m c (m.1 c) = m := (stc_eq rfl (fun _ _ => rfl) rfl).symm
theorem stc_i {m : rf_m} {c k : Nat} {x : Int32} : rf_i m c k x = stc m c (pu (m.1 c) k x) := by
  refine stc_eq ?_ (fun a ha => ?_) rfl
  · rw [rf_i_c, if_pos rfl]
  · rw [rf_i_c, if_neg ha]
theorem stc_stc {m : rf_m} {c : Nat} {f g : Nat → Int32} : stc (stc m c f) c g = stc m c g := by
  refine stc_eq ?_ (fun a ha => ?_) rfl
  · rw [stc_c, if_pos rfl]
  · rw [stc_c, if_neg ha, stc_c, if_neg ha]
theorem Ang_up {m m' : rf_m} (h : JAng m) (e1 : m'.1 26 6 = m.1 26 6) (e2 : m'.1 206 16 = m.1 206 16) (e3 : m'.1 28 = m.1 28) (e4 : m'.1 29 = m.1 29) (e5 : m'.1 30 = m.1 30) (e6 : m'.1 217 = m.1 217) (e7 : m'.1 218 = m.1 218) (e8 : m'.1 219 = m.1 219) (hl : m.1 206 4 ≤ m'.1 206 4) : JAng m' := by
  obtain ⟨c1, c2, c3, c4, c5, c6⟩ := h
  unfold JAng
  rw [e1, e2, e3, e4, e5, e6, e7, e8]
  refine ⟨c1, c2, c3, c4, c5, fun i hi => ?_⟩
  have := c6 i hi
  grind
theorem Sight_up {m m' : rf_m} (h : JSight m) (e1 : m'.1 193 0 = m.1 193 0) (e2 : m'.1 206 126 = m.1 206 126) (e3 : m'.1 194 = m.1 194) (e4 : m'.1 195 = m.1 195) (e5 : m'.1 196 = m.1 196) (e6 : m'.1 289 = m.1 289) (e7 : m'.1 290 = m.1 290) (e8 : m'.1 291 = m.1 291) (hl : m.1 206 4 ≤ m'.1 206 4) : JSight m' := by
  obtain ⟨c1, c2, c3, c4, c5, c6, c7⟩ := h
  unfold JSight
  rw [e1, e2, e3, e4, e5, e6, e7, e8]
  refine ⟨c1, c2, c3, c4, c5, c6, fun i hi => ?_⟩
  have := c7 i hi
  grind
theorem Base_up {m m' : rf_m} (h : JBase m) (e0 : m'.1 41 1 = m.1 41 1) (e1 : m'.1 41 2 = m.1 41 2) (e2 : m'.1 206 55 = m.1 206 55) (e3 : m'.1 206 56 = m.1 206 56) (e4 : m'.1 42 = m.1 42) (e5 : m'.1 43 = m.1 43) (e6 : m'.1 44 = m.1 44) (e7 : m'.1 45 = m.1 45) (e8 : m'.1 46 = m.1 46) (e9 : m'.1 47 = m.1 47) (d1 : m'.1 236 = m.1 236) (d2 : m'.1 237 = m.1 237) (d3 : m'.1 238 = m.1 238) (d4 : m'.1 239 = m.1 239) (d5 : m'.1 240 = m.1 240) (d6 : m'.1 241 = m.1 241) (d7 : m'.1 242 = m.1 242) (hl : m.1 206 4 ≤ m'.1 206 4) : JBase m' := by
  obtain ⟨c1, c2, c3, c4, c5, c6, c7, c8, c9, ca, cb, cc⟩ := h
  unfold JBase
  rw [e0, e1, e2, e3, e4, e5, e6, e7, e8, e9, d1, d2, d3, d4, d5, d6, d7]
  refine ⟨c1, c2, c3, c4, c5, c6, c7, c8, c9, ca, fun i hi => ?_, cc⟩
  have := cb i hi
  grind
theorem k1 {w : rf_w} {m : rf_m} {y : Nat → Int32} (jt : JT m) (jmark : JMark m) (jang : JAng m) (jsight : JSight m) (jbase : JBase m) : wp (g_lc_1 w m y) (fun r => r.1 = w ∧ JT r.2 ∧ JMark r.2 ∧ JAng r.2 ∧ JSight r.2 ∧ JBase r.2) := by
  unfold g_lc_1 g_X11_mark g_X14_mark
  obtain ⟨t1, t2, t3⟩ := jt
  obtain ⟨c1, c2, c3, c4, c5⟩ := jmark
  have b1 : iv 0 30 (m.1 1 4) := by rw [c1]; exact c2
  by_cases h1 : ib (y 1) 1024
  · rcases first_or (fun j => m.1 209 j = y 1) (m.1 206 4).toNatClampNeg with hn | ⟨j, hj, hp, hn⟩
    · have e1 : g_X5_isTaken w m (y 1) = some (0, m) := X5_isTaken_no b1 (by rw [c1, c3]; exact hn)
      by_cases h2 : m.1 206 4 = 30
      · have hx : ¬ m.1 206 4 < 30 := by rw [h2]; decide
        have e2 : ∀ M : rf_m, M.1 206 4 = m.1 206 4 → M.1 209 = m.1 209 → g_X14_mark_20 w rf_fuel (y 1) 0 M = some (-1, rf_i (rf_i M 206 1 3) 206 2 (-1)) := by
          intro M q1 q2
          rw [X14_mark20_no (by rw [q1]; exact c2) (by rw [q1, q2]; exact hn), if_pos (by rw [q1, h2])]
          rfl
        simp [wp_b, wp_bv, wp_g, wp_ite, wp_some, wp_vi, wp_vl, X11_isCell, X11_isWithin, X11_isDay, X11_isHour, X11_isTime, X5_isMark, X5_isPair, X3_isParty, X3_isAngle, X3_isReading, X6_isBase, X7_isTriangle, X14_isCell, X14_in, X14_isMark, X14_isDay, X14_isHour, X14_isParty, X14_isAngle, X14_isReading, X14_isBase, X14_isTriangle, g_X11_denied, g_X11_granted, g_X11_refused, g_X11_answered, g_X14_denied, g_X14_granted, g_X14_refused, g_X14_done, bi_eq0, bi_01, rf01_0, rf01_1, rf_i_c, rf_i_l, pu, h1, e1, e2, hx, JT, JMark, t1, t2, c1, c3, c5]
        exact fun _ => ⟨⟨c2, c4⟩, Ang_up jang rfl rfl rfl rfl rfl rfl rfl rfl (Int32.le_refl _), Sight_up jsight rfl rfl rfl rfl rfl rfl rfl rfl (Int32.le_refl _), Base_up jbase rfl rfl rfl rfl rfl rfl rfl rfl rfl rfl rfl rfl rfl rfl rfl rfl rfl (Int32.le_refl _)⟩
      · have hx : m.1 206 4 < 30 := by grind [iv]
        have g : rf_in (m.1 206 4) 30 = true := gin c2.1 hx (by decide)
        have e2 : ∀ M : rf_m, M.1 206 4 = m.1 206 4 → M.1 209 = m.1 209 → g_X14_mark_20 w rf_fuel (y 1) 0 M = some (m.1 206 4 + 1 - 1, rf_i (rf_i (rf_i (rf_i M 209 (Int32.toNatClampNeg (m.1 206 4)) (y 1)) 206 4 (m.1 206 4 + 1)) 206 1 0) 206 2 (-1)) := by
          intro M q1 q2
          rw [X14_mark20_no (by rw [q1]; exact c2) (by rw [q1, q2]; exact hn), if_neg (by rw [q1]; exact h2)]
          simp only [q1, g, g_t]
          simp [rf_b, g_X14_done, rf_i_c, pu, q1]
        have hl : m.1 206 4 ≤ m.1 206 4 + 1 := by grind [iv]
        simp [wp_b, wp_bv, wp_g, wp_ite, wp_some, wp_vi, wp_vl, X11_isCell, X11_isWithin, X11_isDay, X11_isHour, X11_isTime, X5_isMark, X5_isPair, X3_isParty, X3_isAngle, X3_isReading, X6_isBase, X7_isTriangle, X14_isCell, X14_in, X14_isMark, X14_isDay, X14_isHour, X14_isParty, X14_isAngle, X14_isReading, X14_isBase, X14_isTriangle, g_X11_denied, g_X11_granted, g_X11_refused, g_X11_answered, g_X14_denied, g_X14_granted, g_X14_refused, g_X14_done, bi_eq0, bi_01, rf01_0, rf01_1, rf_i_c, rf_i_l, pu, h1, e1, e2, hx, g, g_X5_addMark, JT, JMark, t1, t2, c1, c3, c5]
        refine ⟨⟨by grind [iv], ?_⟩, Ang_up jang rfl rfl rfl rfl rfl rfl rfl rfl hl, Sight_up jsight rfl rfl rfl rfl rfl rfl rfl rfl hl, Base_up jbase rfl rfl rfl rfl rfl rfl rfl rfl rfl rfl rfl rfl rfl rfl rfl rfl rfl hl⟩
        intro i
        split
        · unfold ib at h1; unfold iv; grind
        · exact c4 i
    · have e1 : g_X5_isTaken w m (y 1) = some (1, m) := X5_isTaken_yes (j := j) b1 (by rw [c1]; exact hj) (by rw [c3]; exact hp) (by rw [c3]; exact hn)
      have e2 : ∀ M : rf_m, M.1 206 4 = m.1 206 4 → M.1 209 = m.1 209 → g_X14_mark_20 w rf_fuel (y 1) 0 M = some (-1, rf_i (rf_i M 206 1 5) 206 2 (-1)) := by
        intro M q1 q2
        rw [X14_mark20_yes (j := j) (by rw [q1]; exact c2) (by rw [q1]; exact hj) (by rw [q2]; exact hp) (by rw [q2]; exact hn)]
        rfl
      simp [wp_b, wp_bv, wp_g, wp_ite, wp_some, wp_vi, wp_vl, X11_isCell, X11_isWithin, X11_isDay, X11_isHour, X11_isTime, X5_isMark, X5_isPair, X3_isParty, X3_isAngle, X3_isReading, X6_isBase, X7_isTriangle, X14_isCell, X14_in, X14_isMark, X14_isDay, X14_isHour, X14_isParty, X14_isAngle, X14_isReading, X14_isBase, X14_isTriangle, g_X11_denied, g_X11_granted, g_X11_refused, g_X11_answered, g_X14_denied, g_X14_granted, g_X14_refused, g_X14_done, bi_eq0, bi_01, rf01_0, rf01_1, rf_i_c, rf_i_l, pu, h1, e1, e2, JT, JMark, t1, t2, c1, c3, c5]
      exact ⟨⟨c2, c4⟩, Ang_up jang rfl rfl rfl rfl rfl rfl rfl rfl (Int32.le_refl _), Sight_up jsight rfl rfl rfl rfl rfl rfl rfl rfl (Int32.le_refl _), Base_up jbase rfl rfl rfl rfl rfl rfl rfl rfl rfl rfl rfl rfl rfl rfl rfl rfl rfl (Int32.le_refl _)⟩
  · simp [wp_b, wp_bv, wp_g, wp_ite, wp_some, wp_vi, wp_vl, X11_isCell, X11_isWithin, X11_isDay, X11_isHour, X11_isTime, X5_isMark, X5_isPair, X3_isParty, X3_isAngle, X3_isReading, X6_isBase, X7_isTriangle, X14_isCell, X14_in, X14_isMark, X14_isDay, X14_isHour, X14_isParty, X14_isAngle, X14_isReading, X14_isBase, X14_isTriangle, g_X11_denied, g_X11_granted, g_X11_refused, g_X11_answered, g_X14_denied, g_X14_granted, g_X14_refused, g_X14_done, bi_eq0, bi_01, rf01_0, rf01_1, rf_i_c, rf_i_l, pu, h1, JT, JMark, t1, t2, c1, c3, c5]
    exact ⟨⟨c2, c4⟩, Ang_up jang rfl rfl rfl rfl rfl rfl rfl rfl (Int32.le_refl _), Sight_up jsight rfl rfl rfl rfl rfl rfl rfl rfl (Int32.le_refl _), Base_up jbase rfl rfl rfl rfl rfl rfl rfl rfl rfl rfl rfl rfl rfl rfl rfl rfl rfl (Int32.le_refl _)⟩
end PBLand2
