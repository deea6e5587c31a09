/-! check: k38 -/
section PBCheck38
theorem row55 {w : rf_w} {m : rf_m} {a1 a2 a3 : Int32} {n : Nat} (hn : n ≤ 6) : g_X11_check_55 w rf_fuel a1 a2 a3 (Int32.ofNat n) 0 m = @ite _ (∀ i, i < n → ib (m.1 205 i) (m.1 50 0)) (Classical.propDecidable _) (g_X11_check_55 w 1 a1 a2 a3 (Int32.ofNat n) (Int32.ofNat n) m) (rf_b (g_X11_refused w m 1) fun y9 m9 => some (y9, m9)) := by
  have o1 : ¬ (1 : Int32) = 0 := by decide
  have key : ∀ k F i, i + k = n → k < F → (∀ j, j < i → ib (m.1 205 j) (m.1 50 0)) → g_X11_check_55 w F a1 a2 a3 (Int32.ofNat n) (Int32.ofNat i) m = @ite _ (∀ i, i < n → ib (m.1 205 i) (m.1 50 0)) (Classical.propDecidable _) (g_X11_check_55 w 1 a1 a2 a3 (Int32.ofNat n) (Int32.ofNat n) m) (rf_b (g_X11_refused w m 1) fun y9 m9 => some (y9, m9)) := by
    intro k
    induction k with
    | zero =>
      intro F i hi hF hj
      obtain ⟨F, rfl⟩ : ∃ g, F = g + 1 := ⟨F - 1, by omega⟩
      have e : i = n := by omega
      subst e
      rw [if_pos hj]
      show g_X11_check_55_b w _ _ _ _ _ _ m = g_X11_check_55_b w _ _ _ _ _ _ m
      unfold g_X11_check_55_b
      rw [if_pos (Int32.le_refl _), if_pos (Int32.le_refl _)]
    | succ k ih =>
      intro F i hi hF hj
      obtain ⟨F, rfl⟩ : ∃ g, F = g + 1 := ⟨F - 1, by omega⟩
      have h1 : ¬ Int32.ofNat n ≤ Int32.ofNat i := nle (by omega) (by omega)
      show g_X11_check_55_b w (g_X11_check_55 w F) _ _ _ _ _ m = _
      rw [show g_X11_check_55_b w (g_X11_check_55 w F) a1 a2 a3 (Int32.ofNat n) (Int32.ofNat i) m = if Int32.ofNat n ≤ Int32.ofNat i then _ else rf_g (rf_in (Int32.ofNat i) 6) (rf_b (g_X7_isTriangle w m (m.1 205 (Int32.ofNat i).toNatClampNeg)) fun y8 m8 => (if y8 = 0 then rf_b (g_X11_refused w m8 1) fun y9 m9 => some (y9, m9) else g_X11_check_55 w F a1 a2 a3 (Int32.ofNat n) (Int32.ofNat i + 1) m8)) from rfl]
      rw [if_neg h1, gof (by omega) (by decide), g_t, tn_of (by omega), X7_isTriangle, b_sm]
      by_cases q : ib (m.1 205 i) (m.1 50 0)
      · rw [bi_t q, if_neg o1, of_succ]
        refine ih F (i + 1) (by omega) (by omega) (fun j h => ?_)
        by_cases p : j = i
        · rw [p]; exact q
        · exact hj j (by omega)
      · have nq : ¬ ∀ i, i < n → ib (m.1 205 i) (m.1 50 0) := fun h => q (h i (by omega))
        rw [bi_f q, if_pos rfl, if_neg nq]
  exact key n rf_fuel 0 (by omega) (by unfold rf_fuel; omega) (fun j h => absurd h (Nat.not_lt_zero j))
theorem row91 {w : rf_w} {M : rf_m} {a1 a2 a3 : Int32} : g_X14_check_91 w rf_fuel a1 a2 a3 0 M = @ite _ (∀ i, i < rowN (M.1 279) 6 0 → ib (M.1 279 i) (M.1 206 64)) (Classical.propDecidable _) (g_X14_check_135 w a1 a2 a3 (Int32.ofNat (rowN (M.1 279) 6 0)) M) (rf_b (g_X14_refused w M 1) fun y3 m3 => some (y3, m3)) := by
  have o1 : ¬ (1 : Int32) = 0 := by decide
  have key : ∀ k F i, i + k = 6 → k < F → (∀ j, j < i → ib (M.1 279 j) (M.1 206 64)) → g_X14_check_91 w F a1 a2 a3 (Int32.ofNat i) M = @ite _ (∀ j, j < rowN (M.1 279) k i → ib (M.1 279 j) (M.1 206 64)) (Classical.propDecidable _) (g_X14_check_135 w a1 a2 a3 (Int32.ofNat (rowN (M.1 279) k i)) M) (rf_b (g_X14_refused w M 1) fun y3 m3 => some (y3, m3)) := by
    intro k
    induction k with
    | zero =>
      intro F i hi hF hj
      obtain ⟨F, rfl⟩ : ∃ g, F = g + 1 := ⟨F - 1, by omega⟩
      have e : i = 6 := by omega
      subst e
      have r0 : rowN (M.1 279) 0 6 = 6 := rfl
      rw [r0, if_pos hj]
      show g_X14_check_91_b w _ _ _ _ _ M = _
      unfold g_X14_check_91_b
      have p : (6 : Int32) ≤ Int32.ofNat 6 := by decide
      rw [if_pos p]
    | succ k ih =>
      intro F i hi hF hj
      obtain ⟨F, rfl⟩ : ∃ g, F = g + 1 := ⟨F - 1, by omega⟩
      have h1 : ¬ (6 : Int32) ≤ Int32.ofNat i := nle (R := 6) (by omega) (by decide)
      have r0 : rowN (M.1 279) (k + 1) i = if M.1 279 i = -1 then i else rowN (M.1 279) k (i + 1) := rfl
      show g_X14_check_91_b w (g_X14_check_91 w F) _ _ _ _ M = _
      unfold g_X14_check_91_b
      rw [if_neg h1, gof (by omega) (by decide), g_t, g_t, tn_of (by omega), r0, X14_isTriangle, b_sm]
      by_cases z : M.1 279 i = -1
      · rw [if_pos z, if_pos z, if_pos hj]
      · rw [if_neg z, if_neg z]
        by_cases q : ib (M.1 279 i) (M.1 206 64)
        · rw [bi_t q, if_neg o1, of_succ]
          refine ih F (i + 1) (by omega) (by omega) (fun j h => ?_)
          by_cases p : j = i
          · rw [p]; exact q
          · exact hj j (by omega)
        · have nq : ¬ ∀ j, j < rowN (M.1 279) k (i + 1) → ib (M.1 279 j) (M.1 206 64) := fun h => q (h i (by have := (rowN_le (f := M.1 279) k (i + 1)).1; omega))
          rw [bi_f q, if_pos rfl, if_neg nq]
  exact key 6 rf_fuel 0 (by omega) (by unfold rf_fuel; omega) (fun j h => absurd h (Nat.not_lt_zero j))
theorem base_sd {m : rf_m} {i : Nat} (jb : JBase m) (jm : JMark m) (hi : i < (m.1 206 55).toNatClampNeg) : m.1 43 i = sd (m.1 236 i) (m.1 237 i) ∧ ib (m.1 236 i) 30 ∧ ib (m.1 237 i) 30 := by
  obtain ⟨_, _, _, _, _, _, _, _, _, _, h, _⟩ := jb
  obtain ⟨⟨a1, a2⟩, ⟨a3, a4⟩, _, a6⟩ := h i hi
  have h4 := jm.2.1.2
  exact ⟨by rw [sd_le]; exact a6, ⟨a1, by clear h; grind⟩, ⟨a3, by clear h; grind⟩⟩
theorem allow_nn {m : rf_m} {d : Int32} : 0 ≤ allowV m d := by
  unfold allowV
  split
  · exact Int32.le_of_lt ‹_›
  · exact Int32.le_refl _
/-- sound calls -/
def okC (m : rf_m) (R : Nat → Int32) (N : Nat) (a b c : Int32) : Prop := ib a (m.1 206 55) ∧ ib b (m.1 206 4) ∧ ib c (m.1 206 4) ∧ b ≠ c ∧ N ≠ 0 ∧ ∀ i, i < N → ib (R i) (m.1 206 64)
theorem k38 {c : Nat} {w : rf_w} {m : rf_m} {y : Nat → Int32} (J : JCnt c w m) (jc : JCache w m) (jn : JNet m) (jb : JBase m) (jD : JD m) (jt : JT m) : wp (g_lc_38 w m y) (fun r => r.1 = w ∧ JCnt c w r.2 ∧ JCache w r.2 ∧ JT r.2) := by
  have o1 : ¬ (1 : Int32) = 0 := by decide
  -- the row
  obtain ⟨m1, hm1, hm1'⟩ : ∃ m1 : rf_m, m1 = stc m 205 (row6 (m.1 205) (fun i => y (i + 3))) ∧ g_X11_fillRow w m (y 4) (y 5) (y 6) (y 7) (y 8) (y 9) = g_X11_fillRow_48 w rf_fuel 0 m1 := by
    refine ⟨_, rfl, ?_⟩
    unfold g_X11_fillRow
    rw [show rf_i m 205 (Int32.toNatClampNeg 0) (y 4) = stc m 205 (pu (m.1 205) 0 (y 4)) from stc_i, stc_i2, stc_i2, stc_i2, stc_i2, stc_i2]
    rfl
  have f205 : m1.1 205 = row6 (m.1 205) (fun i => y (i + 3)) := by rw [hm1]; rfl
  have fz : ∀ z, z ≠ 205 → m1.1 z = m.1 z := fun z hz => by rw [hm1, stc_c, if_neg hz]
  have f2 : m1.2 = m.2 := by rw [hm1]; rfl
  have F1 : fr [(205, 205, none)] m m1 := fun z k hz => by
    have : z ≠ 205 := fun e => by subst e; exact absurd hz (by rw [fr_c_in (by decide)]; decide)
    rw [fz z this, f2]
    exact ⟨rfl, rfl⟩
  obtain ⟨J1, jc1⟩ := fin_s (M := m1) J jc (fun z _ hz => fz z (by omega)) (fun k _ => by rw [fz 206 (by decide)])
  have jn1 := JNet_fr F1 (by decide) jn
  have jb1 := JBase_fr F1 (by decide) jb
  have jD1 : JD m1 := by unfold JD; rw [fz 0 (by decide), fz 206 (by decide)]; exact jD
  have ja1 := J1.2.2.2.2.1
  have jm1 := J1.2.2.2.2.2.1
  have ju1 := J1.2.2.2.1
  have jt1 : JT m1 := by unfold JT; rw [fz 0 (by decide), fz 206 (by decide)]; exact jt
  have hn6 : rowN (m1.1 205) 6 0 ≤ 6 := by have := (rowN_le (f := m1.1 205) 6 0).2; omega
  have fin : ∀ M : rf_m, JCnt c w M ∧ JCache w M ∧ JT M → JCnt c w M ∧ JCache w M ∧ JT M := fun _ h => h
  unfold g_lc_38 g_X11_check
  rw [hm1', fill_c, b_sm]
  have hrow : ∀ M : rf_m, (∃ g, M.1 279 = row6 g (fun i => y (i + 3))) → (∀ j, j < 6 → M.1 279 j = m1.1 205 j) ∧ rowN (M.1 279) 6 0 = rowN (m1.1 205) 6 0 := by
    intro M ⟨g, hg⟩
    have h : ∀ j, j < 6 → M.1 279 j = m1.1 205 j := fun j hj => by rw [hg, f205]; exact row6_eq j hj
    exact ⟨h, rowN_congr h 6 0 (by omega)⟩
  generalize hN : rowN (m1.1 205) 6 0 = N at *
  clear hm1' f205
  -- the reference's start
  have refE : ∀ X : rf_m, (X.1 206 55 = m1.1 206 55 ∧ X.1 206 4 = m1.1 206 4) → (ib (y 1) (m1.1 206 55) ∧ ib (y 2) (m1.1 206 4) ∧ ib (y 3) (m1.1 206 4) ∧ y 2 ≠ y 3 → g_X14_check w X (y 1) (y 2) (y 3) (y 4) (y 5) (y 6) (y 7) (y 8) (y 9) = g_X14_check_91 w rf_fuel (y 1) (y 2) (y 3) 0 (stc (rf_i X 206 0 0) 279 (row6 (X.1 279) (fun i => y (i + 3))))) ∧ (¬ (ib (y 1) (m1.1 206 55) ∧ ib (y 2) (m1.1 206 4) ∧ ib (y 3) (m1.1 206 4) ∧ y 2 ≠ y 3) → g_X14_check w X (y 1) (y 2) (y 3) (y 4) (y 5) (y 6) (y 7) (y 8) (y 9) = some (-1, rf_i (rf_i (rf_i X 206 0 0) 206 1 1) 206 2 (-1))) := by
    intro X ⟨x1, x2⟩
    have i1 : (rf_i X 206 0 0).1 206 55 = m1.1 206 55 := x1
    have i2 : (rf_i X 206 0 0).1 206 4 = m1.1 206 4 := x2
    have rr : (rf_b (g_X14_refused w (rf_i X 206 0 0) 1) fun y1 m1 => some (y1, m1)) = some (-1, rf_i (rf_i (rf_i X 206 0 0) 206 1 1) 206 2 (-1)) := rfl
    unfold g_X14_check
    rw [X14_isBase, i1, b_sm, X14_isMark, i2, b_sm, X14_isMark, i2, b_sm]
    constructor
    · rintro ⟨q1, q2, q3, q4⟩
      rw [bi_t q1, if_neg o1, bi_t q2, if_neg o1, bi_t q3, if_neg o1, if_neg q4, show rf_i (rf_i X 206 0 0) 279 (Int32.toNatClampNeg 0) (y 4) = stc (rf_i X 206 0 0) 279 (pu (X.1 279) 0 (y 4)) from stc_i, stc_i2, stc_i2, stc_i2, stc_i2, stc_i2]
      rfl
    · intro h
      by_cases q1 : ib (y 1) (m1.1 206 55)
      · rw [bi_t q1, if_neg o1]
        by_cases q2 : ib (y 2) (m1.1 206 4)
        · rw [bi_t q2, if_neg o1]
          by_cases q3 : ib (y 3) (m1.1 206 4)
          · rw [bi_t q3, if_neg o1]
            by_cases q4 : y 2 = y 3
            · rw [if_pos q4, rr]
            · exact absurd ⟨q1, q2, q3, q4⟩ h
          · rw [bi_f q3, if_pos rfl, rr]
        · rw [bi_f q2, if_pos rfl, rr]
      · rw [bi_f q1, if_pos rfl, rr]
  have rc : (rf_b (g_X11_refused w m1 1) fun y2 m2 => some (y2, m2)) = some (-1, rf_i m1 0 11 1) := rfl
  have e41 : m1.1 41 1 = m1.1 206 55 := jb1.1
  have e14 : m1.1 1 4 = m1.1 206 4 := jm1.1
  have e50 : m1.1 50 0 = m1.1 206 64 := jn1.1
  rw [X6_isBase, e41, b_sm, X5_isPair, e14, b_sm]
  by_cases C : okC m1 (m1.1 205) N (y 1) (y 2) (y 3)
  · obtain ⟨q1, q2, q3, q4, q5, q6⟩ := C
    have z0 : ¬ Int32.ofNat N = 0 := fun q => q5 ((of_inj (b := 0) (by omega) (by omega)).mp q)
    rw [bi_t q1, if_neg o1, bi_t ⟨q2, q3, q4⟩, if_neg o1, if_neg z0, row55 hn6, if_pos (by rw [e50]; exact q6)]
    show wp (rf_b (g_X11_check_55_b w _ _ _ _ _ _ m1) _) _
    unfold g_X11_check_55_b
    rw [if_pos (Int32.le_refl _)]
    obtain ⟨m2, e1, e2⟩ := freshenAll_c J1 jc1
    have d10 : m2.1 0 10 = m1.1 206 5 := by rw [all_c e2 0 (by omega)]; exact jD1.1
    obtain ⟨F, f, hF⟩ := allow_c (w := w) (m := m2) (day := m1.1 206 5) (keep_rule (all_keep e2) ju1)
    generalize hm3 : stl (stc m2 18 f) 25 F = m3 at hF
    have e3 : allF w m1 m3 := all_18 e2 (fun c hc => by rw [← hm3]; show (stc m2 18 f).1 c = _; rw [stc_c, if_neg hc])
    have d10' : m3.1 0 10 = m1.1 206 5 := by rw [all_c e3 0 (by omega)]; exact jD1.1
    have lv : allowV m2 (m1.1 206 5) = allowV m1 (m1.1 206 5) := by unfold allowV; rw [lat_m (all_keep e2)]
    rw [lv] at hF
    obtain ⟨F', f', hF'⟩ := least_c (w := w) (m := m3) (day := m1.1 206 5) (keep_rule (all_keep e3) ju1)
    generalize hm4 : stl (stc m3 18 f') 25 F' = m4 at hF'
    have e4 : allF w m1 m4 := all_18 e3 (fun c hc => by rw [← hm4]; show (stc m3 18 f').1 c = _; rw [stc_c, if_neg hc])
    rw [show leastV m3 (m1.1 206 5) = leastV m1 (m1.1 206 5) from lat_m (all_keep e3)] at hF'
    have h6 : ib (y 1) 6 := ⟨q1.1, by have a := q1.2; have b := jb1.2.1.2; clear jb1 jn1; grind⟩
    have hb1 : (y 1).toNatClampNeg < (m1.1 206 55).toNatClampNeg := tn_lt2 q1.1 q1.2
    obtain ⟨s43, p1, p2⟩ := base_sd jb1 jm1 hb1
    have p3 : ib (y 2) 30 := ⟨q2.1, by have a := q2.2; have b := jm1.2.1.2; clear jb1 jn1; grind⟩
    have p4 : ib (y 3) 30 := ⟨q3.1, by have a := q3.2; have b := jm1.2.1.2; clear jb1 jn1; grind⟩
    have sa : g_X6_sideAt w m4 (y 1) = some (sd (m1.1 236 (y 1).toNatClampNeg) (m1.1 237 (y 1).toNatClampNeg), m4) := by
      unfold g_X6_sideAt
      rw [gin (N := 6) h6.1 h6.2 (by decide), g_t, all_c e4 43 (by omega), s43]
    generalize hs0 : sd (m1.1 236 (y 1).toNatClampNeg) (m1.1 237 (y 1).toNatClampNeg) = s0 at sa
    generalize hX : rf_i m4 183 0 s0 = X
    have xz : ∀ z, z ≠ 183 → X.1 z = m4.1 z := fun z hz => by rw [← hX, rf_i_c, if_neg hz]
    have hXA : clA w m1 X := clA_e (clA_of jn1 ja1 e4) (fun z hz => xz z (by omega))
    obtain ⟨FX, hcl⟩ := chk_cl (w := w) (R := m1.1 205) (A := allowV m1 (m1.1 206 5)) (L := leastV m1 (m1.1 206 5)) (goal := sd (y 2) (y 3)) J1 jn1 hn6 q6 N rf_fuel 0 1 X (by omega) (by unfold rf_fuel; omega) (by decide) hXA (fun j _ => by rw [xz 205 (by decide), all_c e4 205 (by omega)])
    have S0 : (fun s => ∃ q, q < 1 ∧ X.1 183 q = s) = (fun s => s = s0) := funext fun s => propext (by
      have : X.1 183 0 = s0 := by rw [← hX, rf_i_c, if_pos rfl, pu_at]
      exact ⟨fun ⟨q, a, b⟩ => by rw [← b, show q = 0 by omega, this], fun e => ⟨0, by decide, by rw [e, this]⟩⟩)
    rw [S0] at hcl
    have fb : g_X4_firstBad__205 w m4 s0 (sd (y 2) (y 3)) (Int32.ofNat N) (allowV m1 (m1.1 206 5)) (leastV m1 (m1.1 206 5)) = some (chk w m1 (m1.1 205) (allowV m1 (m1.1 206 5)) (leastV m1 (m1.1 206 5)) (sd (y 2) (y 3)) N 0 (fun s => s = s0), stc X 183 FX) := by
      unfold g_X4_firstBad__205
      rw [show rf_i m4 183 (Int32.toNatClampNeg 0) s0 = X from hX]
      exact hcl
    rw [e1, bv_sm, d10, hF, b_sm, d10', hF', b_sm, sa, b_sm, X11_sideOf, b_sm, fb, b_sm]
    -- the class is through
    generalize hv : chk w m1 (m1.1 205) (allowV m1 (m1.1 206 5)) (leastV m1 (m1.1 206 5)) (sd (y 2) (y 3)) N 0 (fun s => s = s0) = v
    have an : ∀ Z : rf_m, (rf_b (g_X11_answered w Z v) fun y6 m6 => some (y6, m6)) = some (v, rf_i Z 0 11 0) := fun _ => rfl
    rw [an, b_sm]
    generalize hZ : rf_i (stc X 183 FX) 0 11 0 = Z
    have zz : ∀ z, z ≠ 0 → z ≠ 183 → Z.1 z = m4.1 z := fun z h0 h1 => by rw [← hZ, rf_i_c, if_neg h0, stc_ne h1, xz z h1]
    have z206 : Z.1 206 = m1.1 206 := by rw [zz 206 (by decide) (by decide), all_c e4 206 (by omega)]
    rw [(refE Z ⟨by rw [z206], by rw [z206]⟩).1 ⟨q1, q2, q3, q4⟩]
    generalize hMa : stc (rf_i Z 206 0 0) 279 (row6 (Z.1 279) (fun i => y (i + 3))) = Ma
    have az : ∀ z, z ≠ 0 → z ≠ 183 → z ≠ 206 → z ≠ 279 → Ma.1 z = m4.1 z := fun z h0 h1 h2 h3 => by rw [← hMa, stc_ne h3, rf_i_c, if_neg h2, zz z h0 h1]
    have a206 : Ma.1 206 = pu (m1.1 206) 0 0 := by rw [← hMa, stc_ne (by decide), rf_i_c, if_pos rfl, z206]
    obtain ⟨r1, r2⟩ := hrow Ma ⟨Z.1 279, by rw [← hMa, stc_at]⟩
    have a64 : Ma.1 206 64 = m1.1 206 64 := by rw [a206, pu_ne (by decide)]
    rw [row91, r2, if_pos (fun i hi => by rw [r1 i (by omega), a64]; exact q6 i hi)]
    unfold g_X14_check_135
    rw [if_neg z0]
    have mAa : mA m1 Ma := mA_x (mA_all e4) (fun z hz => by rw [az z (by omega) (by omega) (by omega) (by omega), rf_i_c, if_neg (by omega)]) (fun k hk => by rw [a206, rf_i_c, if_pos rfl, pu_ne (by omega), pu_ne (by omega), all_c e4 206 (by omega)])
    obtain ⟨M1, g1, g2, g3⟩ := allMeans_r J1 mAa
    have mA1 := meF_mA mAa g2
    obtain ⟨M2, g4, g5, g6⟩ := allSines_r J1 mA1
    have mA2 := siF_mA mA1 g5
    obtain ⟨G, g, hG⟩ := allow_r (w := w) (m := m1) (M := M2) ju1 (mA_ag ju1 mA2)
    rw [mA2.2.1] at hG
    rw [g1, bv_sm, g4, bv_sm, hG, b_sm]
    generalize hM3 : stc (stc M2 228 g) 235 G = M3
    -- what stands in M3
    have t3z : ∀ z, z ≠ 0 → z ≠ 183 → z ≠ 206 → z ≠ 226 → z ≠ 227 → z ≠ 228 → z ≠ 235 → z ≠ 248 → z ≠ 268 → z ≠ 269 → z ≠ 270 → z ≠ 279 → M3.1 z = m4.1 z := fun z h0 h1 h2 h3 h4 h5 h6 h7 h8 h9 h10 h11 => by rw [← hM3, stc_ne h6, stc_ne h5, g5.1 z h2 h3 h4 h5 h6 h8 h9 h10, g2.1 z h2 h3 h4 h5 h6 h7, az z h0 h1 h2 h11]
    have t206 : ∀ k, k < 33 ∨ 38 < k → k ≠ 0 → M3.1 206 k = m1.1 206 k := fun k hk h0 => by rw [← hM3, stc_ne (by decide), stc_ne (by decide), g5.2.1 k hk, g2.2.1 k hk, a206, pu_ne h0]
    have t279 : ∀ j, j < 6 → M3.1 279 j = m1.1 205 j := fun j hj => by rw [← hM3, stc_ne (by decide), stc_ne (by decide), g5.1 279 (by decide) (by decide) (by decide) (by decide) (by decide) (by decide) (by decide) (by decide), g2.1 279 (by decide) (by decide) (by decide) (by decide) (by decide) (by decide)]; exact r1 j hj
    have m0a : M0A w m1 M3 := by
      refine ⟨?_, ⟨fun z hz => ?_, t206 64 (by omega) (by decide), t206 65 (by omega) (by decide), fun a ha => ?_⟩, fun a ha => ?_⟩
      · rw [← hM3]
        exact mA_x mA2 (fun z hz => by rw [stc_ne (by omega), stc_ne (by omega)]) (fun k _ => by rw [stc_ne (by decide), stc_ne (by decide)])
      · rw [t3z z (by omega) (by omega) (by omega) (by omega) (by omega) (by omega) (by omega) (by omega) (by omega) (by omega) (by omega) (by omega)]
        exact all_c e4 z (by omega)
      · rw [← hM3, stc_ne (by decide), stc_ne (by decide), g5.1 248 (by decide) (by decide) (by decide) (by decide) (by decide) (by decide) (by decide) (by decide)]
        exact g3 a ha
      · have := g6 a ha
        unfold siP at this ⊢
        rw [← hM3, stc_ne (by decide), stc_ne (by decide), stc_ne (by decide), stc_ne (by decide), stc_ne (by decide), stc_ne (by decide)]
        exact this
    have b36 : M3.1 236 = m1.1 236 := by rw [t3z 236 (by decide) (by decide) (by decide) (by decide) (by decide) (by decide) (by decide) (by decide) (by decide) (by decide) (by decide) (by decide)]; exact all_c e4 236 (by omega)
    have b37 : M3.1 237 = m1.1 237 := by rw [t3z 237 (by decide) (by decide) (by decide) (by decide) (by decide) (by decide) (by decide) (by decide) (by decide) (by decide) (by decide) (by decide)]; exact all_c e4 237 (by omega)
    obtain ⟨G0, u1, u2⟩ := r163 (w := w) (M := M3) (a1 := y 1) (a2 := y 2) (a3 := y 3) (a10 := Int32.ofNat N) (a11 := allowV m1 (m1.1 206 5)) h6 (by rw [b36]; exact p1) (by rw [b37]; exact p2)
    rw [b36, b37, hs0] at u1
    obtain ⟨M', v1, v2⟩ := chk_rf (w := w) (M0 := M3) (R := m1.1 205) (A := allowV m1 (m1.1 206 5)) J1 jn1 hn6 q6 allow_nn m0a t279 p3 p4 N rf_fuel 0 (stc M3 280 G0) (fun s => s = s0) (by omega) (by unfold rf_fuel; omega) (chF_st ⟨fun _ _ _ _ _ => rfl, rfl⟩ (by omega)) (by rw [stc_at]; exact u1)
    have v1 : g_X14_check_208 w rf_fuel (y 2) (y 3) (Int32.ofNat N) (allowV m1 (m1.1 206 5)) 0 (stc M3 280 G0) = _ := v1
    rw [u2, v1, hv, b_sm, decide_eq_true rfl, g_t, wp_some]
    refine ⟨rfl, ?_⟩
    have fx := fin_x (w := w) (m := m1) (m2 := m4) (M := M') J1 e4 (fun z h0 h18 h25 hz => by rw [v2.1 z (by omega) (by omega) (by omega) (by omega) (by omega), t3z z (by omega) (by omega) (by omega) (by omega) (by omega) (by omega) (by omega) (by omega) (by omega) (by omega) (by omega) (by omega)]) (fun k hk => by rw [v2.2.1 k (by omega) (by omega), t206 k (by omega) (by omega), all_c e4 206 (by omega)])
    refine ⟨fx.1, fx.2, fin_JT (m2 := m1) (v := 0) jt1 (by decide) ?_ v2.2.2.1 v2.2.2.2.1 ?_⟩
    · rw [v2.1 0 (by decide) (by decide) (by decide) (by decide) (by decide), ← hM3, stc_ne (by decide), stc_ne (by decide), g5.1 0 (by decide) (by decide) (by decide) (by decide) (by decide) (by decide) (by decide) (by decide), g2.1 0 (by decide) (by decide) (by decide) (by decide) (by decide) (by decide), ← hMa, stc_ne (by decide), rf_i_c, if_neg (by decide), ← hZ, rf_i_c, if_pos rfl, stc_ne (by decide), xz 0 (by decide), all_c e4 0 (by omega)]
    · rw [v2.2.1 3 (by decide) (by decide), t206 3 (by omega) (by decide)]
  · -- refused
    have fn : ∀ M : rf_m, (∀ z, z ≠ 0 → z ≠ 206 → z ≠ 279 → M.1 z = m1.1 z) → (∀ k, k ≠ 0 → k ≠ 1 → k ≠ 2 → M.1 206 k = m1.1 206 k) → M.1 0 = pu (m1.1 0) 11 1 → M.1 206 1 = 1 → M.1 206 2 = -1 → JCnt c w M ∧ JCache w M ∧ JT M := fun M h1 h2 h3 h4 h5 => by
      have q := fin_s (M := M) J1 jc1 (fun z h0 hz => h1 z h0 (by omega) (by omega)) (fun k hk => h2 k (by omega) (by omega) (by omega))
      exact ⟨q.1, q.2, fin_JT (m2 := m1) (v := 1) jt1 (by decide) h3 h4 h5 (h2 3 (by decide) (by decide) (by decide))⟩
    have cls : (if bi (ib (y 1) (m1.1 206 55)) = 0 then rf_b (g_X11_refused w m1 1) fun y2 m2 => some (y2, m2) else (if bi (ib (y 2) (m1.1 206 4) ∧ ib (y 3) (m1.1 206 4) ∧ y 2 ≠ y 3) = 0 then rf_b (g_X11_refused w m1 1) fun y2 m2 => some (y2, m2) else (if Int32.ofNat N = 0 then rf_b (g_X11_refused w m1 1) fun y2 m2 => some (y2, m2) else g_X11_check_55 w rf_fuel (y 1) (y 2) (y 3) (Int32.ofNat N) 0 m1))) = some (-1, rf_i m1 0 11 1) := by
      by_cases q1 : ib (y 1) (m1.1 206 55)
      · rw [bi_t q1, if_neg o1]
        by_cases q2 : ib (y 2) (m1.1 206 4) ∧ ib (y 3) (m1.1 206 4) ∧ y 2 ≠ y 3
        · rw [bi_t q2, if_neg o1]
          by_cases q5 : N = 0
          · rw [if_pos (by rw [q5]; rfl), rc]
          · have z0 : ¬ Int32.ofNat N = 0 := fun q => q5 ((of_inj (b := 0) (by omega) (by omega)).mp q)
            have nq : ¬ ∀ i, i < N → ib (m1.1 205 i) (m1.1 50 0) := fun q => C ⟨q1, q2.1, q2.2.1, q2.2.2, q5, by rw [← e50]; exact q⟩
            rw [if_neg z0, row55 hn6, if_neg nq, rc]
        · rw [bi_f q2, if_pos rfl, rc]
      · rw [bi_f q1, if_pos rfl, rc]
    rw [cls, b_sm]
    have x206 : (rf_i m1 0 11 1).1 206 = m1.1 206 := by rw [rf_i_c, if_neg (by decide)]
    obtain ⟨ra, rb⟩ := refE (rf_i m1 0 11 1) ⟨by rw [x206], by rw [x206]⟩
    by_cases q : ib (y 1) (m1.1 206 55) ∧ ib (y 2) (m1.1 206 4) ∧ ib (y 3) (m1.1 206 4) ∧ y 2 ≠ y 3
    · rw [ra q]
      generalize hMa : stc (rf_i (rf_i m1 0 11 1) 206 0 0) 279 (row6 ((rf_i m1 0 11 1).1 279) (fun i => y (i + 3))) = Ma
      obtain ⟨r1, r2⟩ := hrow Ma ⟨(rf_i m1 0 11 1).1 279, by rw [← hMa, stc_at]⟩
      have a206 : Ma.1 206 = pu (m1.1 206) 0 0 := by rw [← hMa, stc_ne (by decide), rf_i_c, if_pos rfl, x206]
      have a64 : Ma.1 206 64 = m1.1 206 64 := by rw [a206, pu_ne (by decide)]
      have rr : (rf_b (g_X14_refused w Ma 1) fun y3 m3 => some (y3, m3)) = some (-1, rf_i (rf_i Ma 206 1 1) 206 2 (-1)) := rfl
      have all : g_X14_check_91 w rf_fuel (y 1) (y 2) (y 3) 0 Ma = some (-1, rf_i (rf_i Ma 206 1 1) 206 2 (-1)) := by
        rw [row91, r2]
        by_cases t : ∀ i, i < N → ib (Ma.1 279 i) (Ma.1 206 64)
        · rw [if_pos t]
          have q5 : N = 0 := Classical.byContradiction fun h => C ⟨q.1, q.2.1, q.2.2.1, q.2.2.2, h, fun i hi => by have := t i hi; rw [r1 i (by omega), a64] at this; exact this⟩
          unfold g_X14_check_135
          rw [if_pos (by rw [q5]; rfl), rr]
        · rw [if_neg t, rr]
      rw [all, b_sm, decide_eq_true rfl, g_t, wp_some]
      refine ⟨rfl, fn _ (fun z h0 h1 h2 => ?_) (fun k h0 h1 h2 => ?_) ?_ ?_ ?_⟩
      · rw [rf_i_c, if_neg h1, rf_i_c, if_neg h1, ← hMa, stc_ne h2, rf_i_c, if_neg h1, rf_i_c, if_neg h0]
      · rw [rf_i_c, if_pos rfl, pu_ne h2, rf_i_c, if_pos rfl, pu_ne h1, a206, pu_ne h0]
      · rw [rf_i_c, if_neg (by decide), rf_i_c, if_neg (by decide), ← hMa, stc_ne (by decide), rf_i_c, if_neg (by decide), rf_i_c, if_pos rfl]
      · rw [rf_i_c, if_pos rfl, pu_ne (by decide), rf_i_c, if_pos rfl, pu_at]
      · rw [rf_i_c, if_pos rfl, pu_at]
    · rw [rb q, b_sm, decide_eq_true rfl, g_t, wp_some]
      refine ⟨rfl, fn _ (fun z h0 h1 h2 => ?_) (fun k h0 h1 h2 => ?_) ?_ ?_ ?_⟩
      · rw [rf_i_c, if_neg h1, rf_i_c, if_neg h1, rf_i_c, if_neg h1, rf_i_c, if_neg h0]
      · rw [rf_i_c, if_pos rfl, pu_ne h2, rf_i_c, if_pos rfl, pu_ne h1, rf_i_c, if_pos rfl, pu_ne h0, x206]
      · rw [rf_i_c, if_neg (by decide), rf_i_c, if_neg (by decide), rf_i_c, if_neg (by decide), rf_i_c, if_pos rfl]
      · rw [rf_i_c, if_pos rfl, pu_ne (by decide), rf_i_c, if_pos rfl, pu_at]
      · rw [rf_i_c, if_pos rfl, pu_at]
end PBCheck38
