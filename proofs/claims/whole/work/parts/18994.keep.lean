/-! what stays true when only what is kept of counting has changed -/
section PBKeep
def keep (m m' : rf_m) : Prop := (∀ c, c = 1 ∨ c = 4 ∨ c = 5 ∨ c = 13 ∨ (19 ≤ c ∧ c ≤ 24) ∨ (28 ≤ c ∧ c ≤ 30) ∨ c = 33 ∨ (36 ≤ c ∧ c ≤ 39) ∨ c = 209 ∨ c = 214 ∨ (216 ≤ c ∧ c ≤ 225) ∨ (230 ≤ c ∧ c ≤ 232) ∨ 306 ≤ c → m'.1 c = m.1 c) ∧ (∀ k, k ≠ 19 → m'.1 26 k = m.1 26 k) ∧ (∀ k, k = 4 ∨ k = 5 ∨ k = 16 ∨ k = 17 ∨ k = 18 ∨ k = 39 → m'.1 206 k = m.1 206 k) ∧ (∀ r, r < 1200 → ∀ k, k < 5 → m'.1 32 (9 * r + k) = m.1 32 (9 * r + k)) ∧ (∀ a, a < 80 → m'.1 34 (9 * a + 6) = m.1 34 (9 * a + 6))
theorem keep_B {m m' : rf_m} (h : keep m m') : eqB m m' := ⟨fun c hc => h.1 c (by omega), h.2.2.1 17 (by omega), h.2.2.1 18 (by omega), h.2.2.1 39 (by omega)⟩
theorem keep_read {m m' : rf_m} (h : keep m m') (j : JRead m) : JRead m' := by
  obtain ⟨k0, k1, k2, k3, k4⟩ := h
  have hB : eqB m m' := keep_B ⟨k0, k1, k2, k3, k4⟩
  obtain ⟨c1, c2, c3, c4⟩ := j
  have hn : (m.1 206 17).toNatClampNeg ≤ 1200 := tn_le c2.1 c2.2 (by decide)
  unfold JRead
  rw [k1 7 (by decide), k2 17 (by omega), k2 16 (by omega), k0 220 (by omega), k0 221 (by omega), k0 222 (by omega), k0 223 (by omega), k0 224 (by omega), k0 33 (by omega)]
  refine ⟨c1, c2, fun r hr => ?_, fun a ha => ?_⟩
  · have e : ∀ k, k < 5 → m'.1 32 (9 * r + k) = m.1 32 (9 * r + k) := k3 r (by omega)
    have e0 : m'.1 32 (9 * r) = m.1 32 (9 * r) := e 0 (by omega)
    rw [e0, e 1 (by omega), e 2 (by omega), e 3 (by omega), e 4 (by omega)]
    exact c3 r hr
  · rw [k4 a ha]
    simp only [B_rdl hB]
    exact c4 a ha
theorem keep_str {c : Nat} {w : rf_w} {m m' : rf_m} (h : keep m m') (j : JStr c w m) : JStr c w m' := by
  obtain ⟨k0, k1, k2, k3, k4⟩ := h
  obtain ⟨l, len, j1, j2, j3, j4, j⟩ := j
  have el : m'.1 l = m.1 l := k0 l (by omega)
  have r1 : lgR m' l = lgR m l := by unfold lgR; rw [el]
  have r2 : lgD m' l = lgD m l := by unfold lgD; rw [el]
  have r3 : lgI m' l = lgI m l := by unfold lgI; rw [el]
  refine ⟨l, len, j1, j2, j3, j4, ?_⟩
  rw [k1 17 (by decide), k2 18 (by omega), k2 17 (by omega), k2 5 (by omega), k0 36 (by omega), k0 37 (by omega), k0 38 (by omega), k0 39 (by omega), k0 216 (by omega), r1, r2, r3]
  exact j
theorem keep_rule {w : rf_w} {m m' : rf_m} (h : keep m m') (j : JRule w m) : JRule w m' := by
  obtain ⟨k0, k1, k2, k3, k4⟩ := h
  obtain ⟨c1, c2, c3⟩ := j
  refine ⟨by rw [k0 13 (by omega), k2 39 (by omega)]; exact c1, by rw [k2 39 (by omega)]; exact c2, fun r hr => ?_⟩
  rw [k2 39 (by omega)] at hr
  obtain ⟨c, q1, q2, kk⟩ := c3 r hr
  have r6 := q2.2.2.2.2.2
  refine ⟨c, q1, q2, ?_⟩
  rw [k0 19 (by omega), k0 20 (by omega), k0 21 (by omega), k0 22 (by omega), k0 23 (by omega), k0 24 (by omega), k0 c (by omega), k0 (c + 1) (by omega), k0 (c + 2) (by omega)]
  exact kk
theorem keep_ang {m m' : rf_m} (h : keep m m') (j : JAng m) : JAng m' := by
  obtain ⟨k0, k1, k2, k3, k4⟩ := h
  unfold JAng at *
  rw [k1 6 (by decide), k2 16 (by omega), k2 4 (by omega), k0 28 (by omega), k0 29 (by omega), k0 30 (by omega), k0 217 (by omega), k0 218 (by omega), k0 219 (by omega)]
  exact j
theorem keep_mark {m m' : rf_m} (h : keep m m') (j : JMark m) : JMark m' := by
  obtain ⟨k0, k1, k2, k3, k4⟩ := h
  unfold JMark at *
  rw [k0 1 (by omega), k2 4 (by omega), k0 4 (by omega), k0 5 (by omega), k0 209 (by omega), k0 214 (by omega)]
  exact j
theorem keep_cnt {c : Nat} {w : rf_w} {m m' : rf_m} (h : keep m m') (J : JCnt c w m) : JCnt c w m' := by
  obtain ⟨hc, j, js, ju, ja, jm, jd⟩ := J
  refine ⟨hc, keep_read h j, keep_str h js, keep_rule h ju, keep_ang h ja, keep_mark h jm, ?_⟩
  unfold JDay at *
  rw [h.1 224 (by omega), h.2.2.1 5 (by omega)]
  exact jd
theorem keep_cache {c : Nat} {w : rf_w} {m m' : rf_m} (h : keep m m') (J : JCnt c w m) (h1 : ∀ a, a < (m.1 206 16).toNatClampNeg → m'.1 40 a = 0 → fre w m m' a) (h2 : m'.1 26 19 = 0 → ∀ a, a < (m.1 206 16).toNatClampNeg → m'.1 40 a = 0) : JCache w m' := by
  have hl := JStr_l J.2.2.1
  have hB := keep_B h
  unfold JCache
  rw [h.2.2.1 16 (by omega)]
  refine ⟨fun a ha hz => ?_, h2⟩
  obtain ⟨t, f⟩ := h1 a ha hz
  refine ⟨?_, fun r hr => ?_⟩
  · rw [B_tal hl hB]; exact t
  · rw [B_f4 hl hB]
    rw [B_rdl hB] at hr
    exact f r hr
theorem fre_of {w : rf_w} {m m1 m2 : rf_m} {a : Nat} (h : fre w m m1 a) (e1 : m2.1 31 = m1.1 31) (e2 : m2.1 32 = m1.1 32) (e3 : m2.1 34 = m1.1 34) : fre w m m2 a := by
  obtain ⟨t, f⟩ := h
  refine ⟨?_, fun r hr => ?_⟩
  · unfold tal at t ⊢; rw [e1, e3]; exact t
  · have := f r hr
    unfold fact4 at this ⊢; rw [e2]; exact this
/-- the class's part, then the reference's: M from the first's m2 -/
theorem keep_fr {m m2 M : rf_m} {w : rf_w} (h : frB w m m2) (hM : goF (rf_i m2 206 0 0) M) : keep m M := by
  obtain ⟨⟨b0, b1, b2⟩, _⟩ := h
  obtain ⟨g0, g1, g2⟩ := hM
  have e : ∀ c, c ≠ 206 → c ≠ 226 → c ≠ 227 → c ≠ 228 → c ≠ 235 → M.1 c = m2.1 c := fun c h1 h2 h3 h4 h5 => by rw [g0 c h1 h2 h3 h4 h5, rf_i_c, if_neg h1]
  refine ⟨fun c hc => ?_, fun k hk => ?_, fun k hk => ?_, fun r hr k hk => ?_, fun a ha => ?_⟩
  · rw [e c (by omega) (by omega) (by omega) (by omega) (by omega)]
    exact b0 c (by omega) (by omega) (by omega) (by omega) (by omega) (by omega) (by omega)
  · rw [e 26 (by decide) (by decide) (by decide) (by decide) (by decide), b0 26 (by decide) (by decide) (by decide) (by decide) (by decide) (by decide) (by decide)]
  · rw [g1 k (by omega), rf_i_c, if_pos rfl, pu_ne (by omega), b0 206 (by decide) (by decide) (by decide) (by decide) (by decide) (by decide) (by decide)]
  · rw [e 32 (by decide) (by decide) (by decide) (by decide) (by decide)]; exact b1 r hr k hk
  · rw [e 34 (by decide) (by decide) (by decide) (by decide) (by decide)]; exact b2 a ha
theorem mA_fr {m m2 : rf_m} {w : rf_w} (h : frB w m m2) : mA m (rf_i m2 206 0 0) := by
  obtain ⟨⟨b0, b1, b2⟩, _⟩ := h
  have e206 : m2.1 206 = m.1 206 := b0 206 (by decide) (by decide) (by decide) (by decide) (by decide) (by decide) (by decide)
  refine ⟨fun c hc => ?_, ?_, ?_, ?_, ?_, ?_⟩
  · rw [rf_i_c, if_neg (by omega)]
    exact b0 c (by omega) (by omega) (by omega) (by omega) (by omega) (by omega) (by omega)
  all_goals rw [rf_i_c, if_pos rfl, pu_ne (by decide), e206]
theorem keep_i0 {m : rf_m} : keep m (rf_i m 206 0 0) := ⟨fun c hc => by rw [rf_i_c, if_neg (by omega)], fun k _ => by rw [rf_i_c, if_neg (by decide)], fun k hk => by rw [rf_i_c, if_pos rfl, pu_ne (by omega)], fun _ _ _ _ => by rw [rf_i_c, if_neg (by decide)], fun _ _ => by rw [rf_i_c, if_neg (by decide)]⟩
theorem cache_i0 {c : Nat} {w : rf_w} {m : rf_m} (J : JCnt c w m) (jc : JCache w m) : JCnt c w (rf_i m 206 0 0) ∧ JCache w (rf_i m 206 0 0) := by
  refine ⟨keep_cnt keep_i0 J, keep_cache keep_i0 J (fun a ha hz => ?_) (fun hz a ha => ?_)⟩
  · rw [rf_i_c, if_neg (by decide)] at hz
    exact fre_of (jc.1 a ha hz) (by rw [rf_i_c, if_neg (by decide)]) (by rw [rf_i_c, if_neg (by decide)]) (by rw [rf_i_c, if_neg (by decide)])
  · rw [rf_i_c, if_neg (by decide)] at hz ⊢
    exact jc.2 hz a ha
/-- known -/
theorem k12 {c : Nat} {w : rf_w} {m : rf_m} {y : Nat → Int32} (J : JCnt c w m) (jc : JCache w m) (jD : JD m) : wp (g_lc_12 w m y) (fun r => r.1 = w ∧ JCnt c w r.2 ∧ JCache w r.2) := by
  have J' := J
  obtain ⟨hc, j, js, ju, ja, jm, jd⟩ := J
  have h80 := ang80 ja
  have a1 := ja.1
  have d1 := jD.1
  have q16 : (rf_i m 206 0 0).1 206 16 = m.1 206 16 := rfl
  have q5 : (rf_i m 206 0 0).1 206 5 = m.1 206 5 := rfl
  unfold g_lc_12 g_X11_known g_X14_known
  by_cases h1 : ib (y 1) (m.1 206 16)
  · by_cases h2 : iv 0 (m.1 206 5) (y 2)
    · have hA : (y 1).toNatClampNeg < (m.1 206 16).toNatClampNeg := tn_lt2 h1.1 h1.2
      have ey : Int32.ofNat (y 1).toNatClampNeg = y 1 := of_tn h1.1
      obtain ⟨m2, e1, e2⟩ := recount_c (w := w) (m1 := m) (d := y 2) hc j js ju ja jm hA (bas_refl m)
      rw [ey] at e1
      have g80 : rf_in (y 1) 80 = true := by rw [← ey]; exact gof (by omega) (by decide)
      obtain ⟨r0, r1, r2, r3, r4, r5, r6, r7⟩ := e2
      generalize hm3 : rf_i (rf_i m2 40 (y 1).toNatClampNeg (vp_nar .boolean 1)) 26 19 1 = m3
      have ef : g_X3_forget w m2 (y 1) = some m3 := by unfold g_X3_forget; rw [g80, g_t, hm3]
      have nb : vp_nar .boolean 1 = 1 := by decide
      have c3 : ∀ x, x ≠ 26 → x ≠ 40 → m3.1 x = m2.1 x := fun x q1 q2 => by rw [← hm3, rf_i_c, if_neg q1, rf_i_c, if_neg q2]
      have c26 : m3.1 26 = pu (m2.1 26) 19 1 := by rw [← hm3, rf_i_c, if_pos rfl, rf_i_c, if_neg (by decide)]
      have c40 : m3.1 40 = pu (m2.1 40) (y 1).toNatClampNeg 1 := by rw [← hm3, rf_i_c, if_neg (by decide), rf_i_c, if_pos rfl, nb]
      have m26 : m2.1 26 = m.1 26 := r0 26 (by decide) (by decide) (by decide) (by decide) (by decide) (by decide) (by decide)
      have m206 : m2.1 206 = m.1 206 := r0 206 (by decide) (by decide) (by decide) (by decide) (by decide) (by decide) (by decide)
      have hmA : mA m (rf_i m3 206 0 0) := by
        refine ⟨fun x hx => ?_, ?_, ?_, ?_, ?_, ?_⟩
        · rw [rf_i_c, if_neg (by omega), c3 x (by omega) (by omega)]
          exact r0 x (by omega) (by omega) (by omega) (by omega) (by omega) (by omega) (by omega)
        all_goals rw [rf_i_c, if_pos rfl, pu_ne (by decide), c3 206 (by decide) (by decide), m206]
      obtain ⟨M', g1, g2, g3⟩ := goes_r (w := w) (d := y 2) hc j js ju ja jm hA hmA
      rw [ey] at g1
      have q16' : (rf_i m3 206 0 0).1 206 16 = m.1 206 16 := hmA.2.2.1
      have q5' : (rf_i m3 206 0 0).1 206 5 = m.1 206 5 := hmA.2.1
      have emean : m2.1 31 (y 1).toNatClampNeg = M'.1 206 36 := by rw [r5.1, g3.2.2.2.1]
      have ew : ∀ x, x ≠ 206 → x ≠ 226 → x ≠ 227 → x ≠ 228 → x ≠ 235 → M'.1 x = m3.1 x := fun x q1 q2 q3 q4 q5 => by rw [g2.1 x q1 q2 q3 q4 q5, rf_i_c, if_neg q1]
      have hk : keep m M' := by
        refine ⟨fun x hx => ?_, fun k hk => ?_, fun k hk => ?_, fun r hr k hk => ?_, fun a ha => ?_⟩
        · rw [ew x (by omega) (by omega) (by omega) (by omega) (by omega), c3 x (by omega) (by omega)]
          exact r0 x (by omega) (by omega) (by omega) (by omega) (by omega) (by omega) (by omega)
        · rw [ew 26 (by decide) (by decide) (by decide) (by decide) (by decide), c26, pu_ne hk, m26]
        · rw [g2.2.1 k (by omega), rf_i_c, if_pos rfl, pu_ne (by omega), c3 206 (by decide) (by decide), m206]
        · rw [ew 32 (by decide) (by decide) (by decide) (by decide) (by decide), c3 32 (by decide) (by decide)]; exact r1 r hr k hk
        · rw [ew 34 (by decide) (by decide) (by decide) (by decide) (by decide), c3 34 (by decide) (by decide)]
          by_cases e : a = (y 1).toNatClampNeg
          · rw [e]; exact r3
          · exact (r2 a e).2.2 6 (by omega)
      have fin : JCnt c w M' ∧ JCache w M' := by
        refine ⟨keep_cnt hk J', keep_cache hk J' (fun a ha hz => ?_) (fun hz a ha => ?_)⟩
        · rw [ew 40 (by decide) (by decide) (by decide) (by decide) (by decide), c40] at hz
          by_cases e : a = (y 1).toNatClampNeg
          · rw [e, pu_at] at hz; exact absurd hz (by decide)
          · rw [pu_ne e, (r2 a e).2.1] at hz
            obtain ⟨t, f⟩ := jc.1 a ha hz
            have q := (r2 a e).2.2
            have f1 : fre w m m2 a := by
              refine ⟨?_, fun r hr => ?_⟩
              · unfold tal at t ⊢
                rw [(r2 a e).1, q 1 (by omega), q 2 (by omega), q 3 (by omega), q 4 (by omega), q 5 (by omega), q 7 (by omega), q 8 (by omega)]
                exact t
              · have hh := f r hr
                have hrl := rds_lt _ _ hr
                have hn : (m.1 206 17).toNatClampNeg ≤ 1200 := tn_le j.2.1.1 j.2.1.2 (by decide)
                have hna : r ∉ rdl m (y 1).toNatClampNeg := fun z => by
                  have := (rds_lt _ _ z).2
                  rw [hrl.2] at this
                  exact e ((of_inj (by omega) (by omega)).mp this)
                unfold fact4 at hh ⊢
                rw [r7 r (by omega) hna 5 (by omega), r7 r (by omega) hna 6 (by omega), r7 r (by omega) hna 7 (by omega), r7 r (by omega) hna 8 (by omega)]
                exact hh
            exact fre_of f1 (by rw [ew 31 (by decide) (by decide) (by decide) (by decide) (by decide), c3 31 (by decide) (by decide)]) (by rw [ew 32 (by decide) (by decide) (by decide) (by decide) (by decide), c3 32 (by decide) (by decide)]) (by rw [ew 34 (by decide) (by decide) (by decide) (by decide) (by decide), c3 34 (by decide) (by decide)])
        · rw [ew 26 (by decide) (by decide) (by decide) (by decide) (by decide), c26, pu_at] at hz
          exact absurd hz (by decide)
      simp only [wp_b, wp_bv, wp_g, wp_ite, wp_some, wp_vi, X3_isAngle, X11_isWithin, X14_isAngle, X14_in, bi_eq0, a1, d1, h1, h2, e1, ef, g80, q16', q5', g1, emean, not_true, false_implies, not_false_eq_true, true_implies, true_and, decide_true]
      exact fin
    · simp only [wp_b, wp_bv, wp_g, wp_ite, wp_some, wp_vi, X3_isAngle, X11_isWithin, X14_isAngle, X14_in, bi_eq0, a1, d1, h1, h2, q16, q5, not_true, false_implies, not_false_eq_true, true_implies, true_and, and_true, decide_true]
      exact cache_i0 J' jc
  · simp only [wp_b, wp_bv, wp_g, wp_ite, wp_some, wp_vi, X3_isAngle, X11_isWithin, X14_isAngle, X14_in, bi_eq0, a1, h1, q16, not_true, false_implies, not_false_eq_true, true_implies, true_and, and_true, decide_true]
    exact cache_i0 J' jc
end PBKeep
