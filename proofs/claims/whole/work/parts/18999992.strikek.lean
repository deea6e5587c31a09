/-! strike: the call -/
section PBStrikeK
theorem JStr_up {c : Nat} {w : rf_w} {m : rf_m} (j : JStr c w m) : JStr (c + 1) w m := by
  obtain ⟨l, len, a, b, c1, d, e, f, g, h⟩ := j
  exact ⟨l, len, a, b, c1, d, e, f, by omega, h⟩
theorem JCnt_up {c : Nat} {w : rf_w} {m : rf_m} (hc : c < 512) (J : JCnt c w m) : JCnt (c + 1) w m := ⟨by omega, J.2.1, JStr_up J.2.2.1, J.2.2.2⟩
theorem JW_up {c : Nat} {w : rf_w} {m : rf_m} (J : JW c w m) : JW (c + 1) w m := ⟨J.1, by have := J.2.1; omega, J.2.2⟩
theorem JW_e {c : Nat} {w : rf_w} {m M : rf_m} (J : JW c w m) (h : M.1 206 39 = m.1 206 39) : JW c w M := by
  unfold JW at *
  rw [h]
  exact J
/-- what a strike may touch -/
def fr10 (m M : rf_m) : Prop := (∀ z, z < 306 → z ≠ 0 → z ≠ 26 → (z < 36 ∨ 40 < z) → z ≠ 206 → z ≠ 216 → z ≠ 225 → M.1 z = m.1 z) ∧ (∀ k, k ≠ 11 → M.1 0 k = m.1 0 k) ∧ (∀ k, k ≠ 17 → k ≠ 19 → M.1 26 k = m.1 26 k) ∧ (∀ k, k ≠ 0 → k ≠ 1 → k ≠ 2 → k ≠ 18 → M.1 206 k = m.1 206 k) ∧ ∀ z, z < 306 → M.2 z = m.2 z
theorem dn_10 {m : rf_m} {v : Int32} : fr10 m (dnM m v) := by
  refine ⟨fun z _ h1 _ _ h2 _ _ => dn_0 z h1 h2, fun k hk => ?_, fun k _ _ => ?_, fun k h0 h1 h2 _ => dn_206 k h0 h1 h2, fun z _ => rfl⟩
  · unfold dnM
    rw [rf_i_c, if_neg (by decide), rf_i_c, if_neg (by decide), rf_i_c, if_neg (by decide), rf_i_c, if_pos rfl, pu_ne hk]
  · rw [dn_0 26 (by decide) (by decide)]
/-- a refused strike -/
def no10 (w : rf_w) (m : rf_m) (a p v e : Int32) : Prop := g_X11_strike w m a p v = some (0, rf_i m 0 11 e) ∧ g_X14_strike_0 w a p v (rf_i m 0 11 e) = some (0, w, dnM m e)
theorem strike_no {c : Nat} {w : rf_w} {m : rf_m} {a p v : Int32} (J : JCnt c w m) (jp : JParty m) (jD : JD m) (h : ¬ (ib a (m.1 206 17) ∧ ib p (m.1 206 15) ∧ m.1 215 p.toNatClampNeg ≠ 0 ∧ m.1 221 a.toNatClampNeg ≠ -2 ∧ m.1 216 a.toNatClampNeg ≠ v)) : ∃ e, e ≠ 4 ∧ no10 w m a p v e := by
  obtain ⟨hc, j, js, ju, ja, jm, jd⟩ := J
  have o1 : ¬ (1 : Int32) = 0 := by decide
  have z01 : rf_01 0 = true := by decide
  have hn : (m.1 206 17).toNatClampNeg ≤ 1200 := tn_le j.2.1.1 j.2.1.2 (by decide)
  have i1 : ∀ e : Int32, (rf_i (rf_i m 0 11 e) 206 0 0).1 206 17 = m.1 206 17 := fun _ => rfl
  have i2 : ∀ e : Int32, (rf_i (rf_i m 0 11 e) 206 0 0).1 206 15 = m.1 206 15 := fun _ => rfl
  have i3 : ∀ e : Int32, (rf_i (rf_i m 0 11 e) 206 0 0).1 215 = m.1 215 := fun _ => rfl
  have i4 : ∀ e : Int32, (rf_i (rf_i m 0 11 e) 206 0 0).1 221 = m.1 221 := fun _ => rfl
  have i5 : ∀ e : Int32, (rf_i (rf_i m 0 11 e) 206 0 0).1 216 = m.1 216 := fun _ => rfl
  have dn : ∀ e : Int32, g_X14_denied w (rf_i (rf_i m 0 11 e) 206 0 0) e = some (0, dnM m e) := fun _ => rfl
  have dc : ∀ e : Int32, g_X11_denied w m e = some (0, rf_i m 0 11 e) := fun _ => rfl
  by_cases h1 : ib a (m.1 206 17)
  · have er : Int32.ofNat a.toNatClampNeg = a := of_tn h1.1
    have hr := tn_lt2 h1.1 h1.2
    by_cases h2 : ib p (m.1 206 15)
    · have g8 : rf_in p 8 = true := gin h2.1 (Int32.lt_of_lt_of_le h2.2 jp.2.1.2) (by decide)
      by_cases h3 : m.1 215 p.toNatClampNeg = 0
      · refine ⟨5, by decide, ?_, ?_⟩
        · unfold g_X11_strike
          rw [X3_isReading, j.1, b_sm, bi_t h1, if_neg o1, X3_isParty, jp.1, b_sm, bi_t h2, if_neg o1, g8, g_t, jp.2.2, if_pos h3, dc, b_sm, z01, g_t]
        · unfold g_X14_strike_0
          rw [X14_isReading, i1, b_sm, bi_t h1, if_neg o1, X14_isParty, i2, b_sm, bi_t h2, if_neg o1, g8, g_t, i3, if_pos h3, dn, b_sm, z01, g_t]
      · have ga : rf_in a 1200 = true := gin h1.1 (Int32.lt_of_lt_of_le h1.2 j.2.1.2) (by decide)
        generalize hrv : a.toNatClampNeg = r at *
        have se : g_X3_isSeen w m a = some (bi (m.1 221 r ≠ -2), m) := by
          unfold g_X3_isSeen
          rw [← er, show (1 : Int32) = Int32.ofNat 1 from rfl, X3_factOf (by omega) (by omega), b_sm, (j.2.2.1 r hr).2.1]
          by_cases q : m.1 221 r = -2
          · rw [if_pos q, bi_f (fun z => z q)]
          · rw [if_neg q, bi_t q]; rfl
        by_cases h4 : m.1 221 r = -2
        · refine ⟨5, by decide, ?_, ?_⟩
          · unfold g_X11_strike
            rw [X3_isReading, j.1, b_sm, bi_t h1, if_neg o1, X3_isParty, jp.1, b_sm, bi_t h2, if_neg o1, g8, g_t, jp.2.2, if_neg h3, se, b_sm, bi_f (fun z => z h4), if_pos rfl, dc, b_sm, z01, g_t]
          · unfold g_X14_strike_0
            rw [X14_isReading, i1, b_sm, bi_t h1, if_neg o1, X14_isParty, i2, b_sm, bi_t h2, if_neg o1, g8, g_t, i3, if_neg h3, ga, g_t, hrv, i4, if_pos h4, dn, b_sm, z01, g_t]
        · have h5 : m.1 216 r = v := Classical.byContradiction fun q => h ⟨h1, h2, h3, h4, q⟩
          obtain ⟨s1, _, _⟩ := struck_r (w := w) (m := m) (M := m) (d := m.1 0 10) hc js hr (by omega) rfl rfl rfl rfl (fun _ _ => rfl)
          rw [er] at s1
          have s2 : svV w m r (m.1 0 10) = v := by
            obtain ⟨l, len, j1, j2, j3, j4, j5, j6, j7, j8, j9, jb⟩ := js
            rw [← h5, (jb r hr).2, jD.1]
            unfold svV
            rw [j1]
            rfl
          refine ⟨5, by decide, ?_, ?_⟩
          · unfold g_X11_strike
            rw [X3_isReading, j.1, b_sm, bi_t h1, if_neg o1, X3_isParty, jp.1, b_sm, bi_t h2, if_neg o1, g8, g_t, jp.2.2, if_neg h3, se, b_sm, bi_t h4, if_neg o1, s1, b_sm, s2, if_pos rfl, dc, b_sm, z01, g_t]
          · unfold g_X14_strike_0
            rw [X14_isReading, i1, b_sm, bi_t h1, if_neg o1, X14_isParty, i2, b_sm, bi_t h2, if_neg o1, g8, g_t, i3, if_neg h3, ga, g_t, hrv, i4, if_neg h4, g_t, i5, if_pos h5, dn, b_sm, z01, g_t]
    · refine ⟨1, by decide, ?_, ?_⟩
      · unfold g_X11_strike
        rw [X3_isReading, j.1, b_sm, bi_t h1, if_neg o1, X3_isParty, jp.1, b_sm, bi_f h2, if_pos rfl, dc, b_sm, z01, g_t]
      · unfold g_X14_strike_0
        rw [X14_isReading, i1, b_sm, bi_t h1, if_neg o1, X14_isParty, i2, b_sm, bi_f h2, if_pos rfl, dn, b_sm, z01, g_t]
  · refine ⟨1, by decide, ?_, ?_⟩
    · unfold g_X11_strike
      rw [X3_isReading, j.1, b_sm, bi_f h1, if_pos rfl, dc, b_sm, z01, g_t]
    · unfold g_X14_strike_0
      rw [X14_isReading, i1, b_sm, bi_f h1, if_pos rfl, dn, b_sm, z01, g_t]
theorem stM_f {m : rf_m} {s r a : Nat} {v : Int32} : (∀ z, z ≠ 26 → (z < 36 ∨ 40 < z) → (stM m s r a v).1 z = m.1 z) ∧ (stM m s r a v).1 37 = pu (m.1 37) s (m.1 0 10) ∧ (stM m s r a v).1 39 = pu (m.1 39) s v ∧ (stM m s r a v).1 38 = pu (m.1 38) s (m.1 36 r) ∧ (stM m s r a v).1 36 = pu (m.1 36) r (Int32.ofNat s) ∧ (stM m s r a v).1 40 = pu (m.1 40) a 1 ∧ (∀ k, k ≠ 17 → k ≠ 19 → (stM m s r a v).1 26 k = m.1 26 k) ∧ (stM m s r a v).1 26 17 = Int32.ofNat s + 1 ∧ (stM m s r a v).1 26 19 = 1 ∧ (stM m s r a v).2 = m.2 := by
  have e26 : (stM m s r a v).1 26 = pu (pu (m.1 26) 17 (Int32.ofNat s + 1)) 19 1 := by
    unfold stM
    rw [rf_i_c, if_pos rfl, rf_i_c, if_neg (by decide), rf_i_c, if_pos rfl, rf_i_c, if_neg (by decide), rf_i_c, if_neg (by decide), rf_i_c, if_neg (by decide), rf_i_c, if_neg (by decide)]
  rw [e26]
  refine ⟨fun z h1 h2 => ?_, ?_, ?_, ?_, ?_, ?_, fun k h1 h2 => ?_, ?_, ?_, rfl⟩
  · unfold stM
    rw [rf_i_c, if_neg h1, rf_i_c, if_neg (by omega), rf_i_c, if_neg h1, rf_i_c, if_neg (by omega), rf_i_c, if_neg (by omega), rf_i_c, if_neg (by omega), rf_i_c, if_neg (by omega)]
  · unfold stM
    rw [rf_i_c, if_neg (by decide), rf_i_c, if_neg (by decide), rf_i_c, if_neg (by decide), rf_i_c, if_neg (by decide), rf_i_c, if_neg (by decide), rf_i_c, if_neg (by decide), rf_i_c, if_pos rfl]
  · unfold stM
    rw [rf_i_c, if_neg (by decide), rf_i_c, if_neg (by decide), rf_i_c, if_neg (by decide), rf_i_c, if_neg (by decide), rf_i_c, if_neg (by decide), rf_i_c, if_pos rfl, rf_i_c, if_neg (by decide)]
  · unfold stM
    rw [rf_i_c, if_neg (by decide), rf_i_c, if_neg (by decide), rf_i_c, if_neg (by decide), rf_i_c, if_neg (by decide), rf_i_c, if_pos rfl, rf_i_c, if_neg (by decide), rf_i_c, if_neg (by decide)]
  · unfold stM
    rw [rf_i_c, if_neg (by decide), rf_i_c, if_neg (by decide), rf_i_c, if_neg (by decide), rf_i_c, if_pos rfl, rf_i_c, if_neg (by decide), rf_i_c, if_neg (by decide), rf_i_c, if_neg (by decide)]
  · unfold stM
    rw [rf_i_c, if_neg (by decide), rf_i_c, if_pos rfl, rf_i_c, if_neg (by decide), rf_i_c, if_neg (by decide), rf_i_c, if_neg (by decide), rf_i_c, if_neg (by decide), rf_i_c, if_neg (by decide)]
  · rw [pu_ne h2, pu_ne h1]
  · rw [pu_ne (by decide), pu_at]
  · rw [pu_at]
theorem strike_yes {c : Nat} {w : rf_w} {m : rf_m} {a p v : Int32} (hc : c < 512) (J : JCnt c w m) (jc : JCache w m) (jw : JW c w m) (jl : JLg w m) (jt : JT m) (jp : JParty m) (jD : JD m) (hv : v = 0 ∨ v = 1) (h1 : ib a (m.1 206 17)) (h2 : ib p (m.1 206 15)) (h3 : m.1 215 p.toNatClampNeg ≠ 0) (h4 : m.1 221 a.toNatClampNeg ≠ -2) (h5 : m.1 216 a.toNatClampNeg ≠ v) : ∃ X w' M, g_X11_strike w m a p v = some (1, X) ∧ g_X14_strike_0 w a p v X = some (1, w', M) ∧ JCnt (c + 1) w' M ∧ JCache w' M ∧ JW (c + 1) w' M ∧ JT M ∧ fr10 m M ∧ JLg w' M := by
  have J' := J
  obtain ⟨_, j, js, ju, ja, jm, jd⟩ := J
  have js' := js
  obtain ⟨l, len, j1, j2, j3, j4, j5, j6, j7, j8, j9, jb⟩ := js
  have o1 : ¬ (1 : Int32) = 0 := by decide
  have z11 : rf_01 1 = true := by decide
  have hn : (m.1 206 17).toNatClampNeg ≤ 1200 := tn_le j.2.1.1 j.2.1.2 (by decide)
  have er : Int32.ofNat a.toNatClampNeg = a := of_tn h1.1
  have hr := tn_lt2 h1.1 h1.2
  have g8 : rf_in p 8 = true := gin h2.1 (Int32.lt_of_lt_of_le h2.2 jp.2.1.2) (by decide)
  have ga : rf_in a 1200 = true := gin h1.1 (Int32.lt_of_lt_of_le h1.2 j.2.1.2) (by decide)
  generalize hrv : a.toNatClampNeg = r at *
  have se : g_X3_isSeen w m a = some (1, m) := by
    unfold g_X3_isSeen
    rw [← er, show (1 : Int32) = Int32.ofNat 1 from rfl, X3_factOf (by omega) (by omega), b_sm, (j.2.2.1 r hr).2.1, if_neg h4]
  obtain ⟨s1, _, _⟩ := struck_r (w := w) (m := m) (M := m) (d := m.1 0 10) J'.1 js' hr (by omega) rfl rfl rfl rfl (fun _ _ => rfl)
  rw [er] at s1
  have s2 : svV w m r (m.1 0 10) ≠ v := by
    intro q
    apply h5
    rw [← q, (jb r hr).2, jD.1]
    unfold svV
    rw [j1]
    rfl
  have hs := of_tn j6
  generalize hsv : (m.1 206 18).toNatClampNeg = s at *
  have ia := (j.2.2.1 r hr).2.2.2.2.2.1
  have ha := of_tn ia.1
  have h80 := ang80 ja
  have ha8 := tn_lt2 ia.1 ia.2
  generalize hav : (m.1 220 r).toNatClampNeg = A at *
  have ad := add_c (w := w) (m := m) (s := s) (r := r) (a := A) (v := v) (by rw [j5, hs]) (by omega) (by omega) (by rw [(j.2.2.1 r hr).1, ha]) (by omega) hv
  rw [er] at ad
  generalize hX : stM m s r A v = X at ad
  have ff := stM_f (m := m) (s := s) (r := r) (a := A) (v := v)
  rw [hX] at ff
  obtain ⟨x0, x37, x39, x38, x36, x40, x26, x17, x19, xl⟩ := ff
  -- the reference begins here
  have y206 : (rf_i (rf_i X 0 11 0) 206 0 0).1 206 = pu (m.1 206) 0 0 := by rw [rf_i_c, if_pos rfl, rf_i_c, if_neg (by decide), x0 206 (by decide) (by decide)]
  have yc : ∀ z, z ≠ 0 → z ≠ 206 → (rf_i (rf_i X 0 11 0) 206 0 0).1 z = X.1 z := fun z q1 q2 => by rw [rf_i_c, if_neg q2, rf_i_c, if_neg q1]
  have i1 : (rf_i (rf_i X 0 11 0) 206 0 0).1 206 17 = m.1 206 17 := by rw [y206, pu_ne (by decide)]
  have i2 : (rf_i (rf_i X 0 11 0) 206 0 0).1 206 15 = m.1 206 15 := by rw [y206, pu_ne (by decide)]
  have i3 : (rf_i (rf_i X 0 11 0) 206 0 0).1 215 = m.1 215 := by rw [yc 215 (by decide) (by decide), x0 215 (by decide) (by decide)]
  have i4 : (rf_i (rf_i X 0 11 0) 206 0 0).1 221 = m.1 221 := by rw [yc 221 (by decide) (by decide), x0 221 (by decide) (by decide)]
  have i5 : (rf_i (rf_i X 0 11 0) 206 0 0).1 216 = m.1 216 := by rw [yc 216 (by decide) (by decide), x0 216 (by decide) (by decide)]
  generalize hY : rf_i (rf_i X 0 11 0) 206 0 0 = Y at *
  have y0 : Y.1 0 = pu (m.1 0) 11 0 := by rw [← hY, rf_i_c, if_neg (by decide), rf_i_c, if_pos rfl, x0 0 (by decide) (by decide)]
  have yl : Y.2 = m.2 := by rw [← hY, rf_i_l, rf_i_l, xl]
  have m1c : ∀ z, z ≠ 216 → (rf_i Y 216 r v).1 z = Y.1 z := fun z q => by rw [rf_i_c, if_neg q]
  have m1d : (rf_i Y 216 r v).1 216 = pu (m.1 216) r v := by rw [rf_i_c, if_pos rfl, i5]
  have m1l : (rf_i Y 216 r v).2 = m.2 := by rw [rf_i_l, yl]
  generalize hM1 : rf_i Y 216 r v = M1 at *
  obtain ⟨jwa, jwb, jwc, _⟩ := jw
  obtain ⟨lw, lm⟩ := jwc l j1
  obtain ⟨lm3, l3⟩ := lm len j2
  obtain ⟨w', l', len', M, t1, t2, t3, t4, t5, t6, t7, t8, t9, t10, t11, t12, t13⟩ := tell_r (w := w) (M1 := M1) (r := r) (s := s) (v := v) j1 j2 lw j3 j4 j8 lm3 l3 (by omega) jwa (by omega) (by rw [m1c 206 (by decide), y206, pu_ne (by decide), hs]) hv
  rw [er] at t1
  have l6 : l' = l ∨ l' = w.1 := by
    rcases t2.1 with ⟨_, q⟩ | ⟨_, _, q⟩
    · exact Or.inl q
    · exact Or.inr q
  have k6 : ∀ k, k ≠ 0 → k ≠ 1 → k ≠ 2 → k ≠ 18 → M.1 206 k = m.1 206 k := fun k q0 q1 q2 q3 => by rw [t5 k q1 q2 q3, m1c 206 (by decide), y206, pu_ne q0]
  have g0 : ∀ z, z ≠ 0 → z ≠ 206 → z ≠ 216 → z ≠ l' → z < w.1 → M.1 z = X.1 z := fun z q1 q2 q3 q4 q5 => by rw [t4 z q4 q2 q5, m1c z q3, yc z q1 q2]
  have sF : strF w m M l l' s r A v := by
    refine ⟨fun z q1 q2 q3 q4 q5 q6 q7 => ?_, fun k hk => ?_, t10, ?_, t12, ?_, ?_, ?_, ?_, ?_, ?_, fun k q1 q2 => ?_, ?_, ?_, k6, ?_⟩
    · rw [g0 z q1 q4 q5 q6 q7, x0 z q2 q3]
    · rw [t9 k hk, m1c l (by omega), yc l (by omega) (by omega), x0 l (by omega) (by omega)]
    · rw [t11, m1c 206 (by decide), y206, pu_ne (by decide)]
    · rw [g0 37 (by decide) (by decide) (by decide) (by omega) (by omega), x37, jD.1]
    · rw [g0 39 (by decide) (by decide) (by decide) (by omega) (by omega), x39]
    · rw [g0 38 (by decide) (by decide) (by decide) (by omega) (by omega), x38]
    · rw [g0 36 (by decide) (by decide) (by decide) (by omega) (by omega), x36]
    · rw [g0 40 (by decide) (by decide) (by decide) (by omega) (by omega), x40]
    · rw [t4 216 (by omega) (by decide) (by omega), m1d]
    · rw [g0 26 (by decide) (by decide) (by decide) (by omega) (by omega), x26 k q1 q2]
    · rw [g0 26 (by decide) (by decide) (by decide) (by omega) (by omega), x17, of_succ]
    · rw [g0 26 (by decide) (by decide) (by decide) (by omega) (by omega), x19]
    · rw [t8, of_succ]
  have fin := str_cnt hc J' jc ⟨jwa, jwb, jwc, by assumption⟩ t2 t3 j1 hsv.symm hr ha.symm (by omega) hv sF
  have z0 : M.1 0 = pu (m.1 0) 11 0 := by rw [t4 0 (by omega) (by decide) (by omega), m1c 0 (by decide), y0]
  have lg := str_lg jl t2 j1 hsv.symm (by omega) (by rw [er]; exact h1) sF
  refine ⟨rf_i X 0 11 0, w', M, ?_, ?_, fin.1, fin.2.1, fin.2.2, ?_, ?_, lg⟩
  · unfold g_X11_strike g_X11_granted
    rw [X3_isReading, j.1, b_sm, bi_t h1, if_neg o1, X3_isParty, jp.1, b_sm, bi_t h2, if_neg o1, g8, g_t, jp.2.2, if_neg h3, se, b_sm, if_neg o1, s1, b_sm, if_neg s2, ad, b_sm, if_neg o1, b_sm, z11, g_t]
  · unfold g_X14_strike_0
    rw [hY, X14_isReading, i1, b_sm, bi_t h1, if_neg o1, X14_isParty, i2, b_sm, bi_t h2, if_neg o1, g8, g_t, i3, if_neg h3, ga, g_t, hrv, i4, if_neg h4, g_t, i5, if_neg h5, g_t, nar01 hv, hM1]
    exact t1
  · unfold JT
    rw [z0, t6, t7, k6 3 (by decide) (by decide) (by decide) (by decide)]
    refine ⟨rfl, jt.2.1, ?_⟩
    have : ¬ (0 : Int32) = 4 := by decide
    exact (if_neg this).symm
  · refine ⟨fun z q0 q1 q2 q3 q4 q5 q6 => ?_, fun k hk => ?_, fun k q1 q2 => ?_, k6, fun z hz => ?_⟩
    · rw [g0 z q1 q4 q5 (by omega) (by omega), x0 z q2 q3]
    · rw [z0, pu_ne hk]
    · rw [g0 26 (by decide) (by decide) (by decide) (by omega) (by omega), x26 k q1 q2]
    · rw [t13 z (by omega), m1l]
theorem k10 {c : Nat} {w : rf_w} {m : rf_m} {y : Nat → Int32} (hc : c < 512) (J : JCnt c w m) (jc : JCache w m) (jw : JW c w m) (jl : JLg w m) (jt : JT m) (jp : JParty m) (jD : JD m) : wp (g_lc_10 w m y) (fun r => JCnt (c + 1) r.1 r.2 ∧ JCache r.1 r.2 ∧ JW (c + 1) r.1 r.2 ∧ JT r.2 ∧ fr10 m r.2 ∧ JLg r.1 r.2) := by
  have bz : rf_bz (y 3) = 0 ∨ rf_bz (y 3) = 1 := by
    unfold rf_bz
    by_cases z : y 3 = 0
    · rw [if_pos z]; exact Or.inl rfl
    · rw [if_neg z]; exact Or.inr rfl
  unfold g_lc_10
  by_cases h : ib (y 1) (m.1 206 17) ∧ ib (y 2) (m.1 206 15) ∧ m.1 215 (y 2).toNatClampNeg ≠ 0 ∧ m.1 221 (y 1).toNatClampNeg ≠ -2 ∧ m.1 216 (y 1).toNatClampNeg ≠ rf_bz (y 3)
  · obtain ⟨h1, h2, h3, h4, h5⟩ := h
    obtain ⟨X, w', M, e1, e2, q⟩ := strike_yes hc J jc jw jl jt jp jD bz h1 h2 h3 h4 h5
    rw [e1, b_sm, e2]
    show wp (rf_g (decide ((1 : Int32) = 1)) (some (w', M))) _
    rw [decide_eq_true rfl, g_t, wp_some]
    exact q
  · obtain ⟨e, he, e1, e2⟩ := strike_no J jp jD h
    obtain ⟨q1, q2, q3⟩ := dn_fin (v := e) J jc jt he
    rw [e1, b_sm, e2]
    show wp (rf_g (decide ((0 : Int32) = 0)) (some (w, dnM m e))) _
    rw [decide_eq_true rfl, g_t, wp_some]
    refine ⟨JCnt_up hc q1, q2, JW_e (JW_up jw) (dn_206 39 (by decide) (by decide) (by decide)), q3, dn_10, ?_⟩
    intro l hl i hi
    rw [dn_206 18 (by decide) (by decide) (by decide)] at hi
    obtain ⟨l0, _, j1, _, j3, _⟩ := J.2.2.1
    have e0 : l0 = l := by rw [hl] at j1; exact (Option.some.inj j1).symm
    show ib ((dnM m e).1 l (3 * i)) ((dnM m e).1 206 17)
    rw [dn_0 l (by omega) (by omega), dn_206 17 (by decide) (by decide) (by decide)]
    exact jl l hl i hi
end PBStrikeK
