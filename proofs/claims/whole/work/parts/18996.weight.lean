/-! weight and again, by the rules -/
section PBWeight
noncomputable def fstV (P : Nat → Prop) (V : Nat → Int32) (d : Int32) : Nat → Nat → Int32
  | 0, _ => d
  | n + 1, i => @ite Int32 (P i) (Classical.propDecidable _) (V i) (fstV P V d n (i + 1))
theorem fstV_t {P : Nat → Prop} {V : Nat → Int32} {d : Int32} {n i : Nat} (h : P i) : fstV P V d (n + 1) i = V i := if_pos h
theorem fstV_f {P : Nat → Prop} {V : Nat → Int32} {d : Int32} {n i : Nat} (h : ¬ P i) : fstV P V d (n + 1) i = fstV P V d n (i + 1) := if_neg h
theorem fstV_congr {P P' : Nat → Prop} {V V' : Nat → Int32} {d : Int32} (h : P = P') (k : V = V') (n i : Nat) : fstV P V d n i = fstV P' V' d n i := by rw [h, k]
def w19 (x : Int32) : Int32 := if 1 < (if x < 9 then x else 9) then (if x < 9 then x else 9) else 1
noncomputable def wgtV (m : rf_m) (N : Nat → Int32) (d : Int32) : Int32 := fstV (fun r => dueP m r 2 d ∧ tstP m N r) (fun r => w19 (tv m N r)) 1 (m.1 206 39).toNatClampNeg 0
noncomputable def agnV (m : rf_m) (N : Nat → Int32) (d : Int32) : Int32 := fstV (fun r => dueP m r 3 d ∧ tstP m N r) (fun _ => 1) 0 (m.1 206 39).toNatClampNeg 0
theorem wgtV_N {m : rf_m} {N N' : Nat → Int32} {d : Int32} (h : ∀ i, i < 7 → N i = N' i) : wgtV m N d = wgtV m N' d := by
  unfold wgtV
  exact fstV_congr (funext fun r => by rw [tstP_N h]) (funext fun r => by unfold tv; rw [totV_N h]) _ _
theorem agnV_N {m : rf_m} {N N' : Nat → Int32} {d : Int32} (h : ∀ i, i < 7 → N i = N' i) : agnV m N d = agnV m N' d := by
  unfold agnV
  exact fstV_congr (funext fun r => by rw [tstP_N h]) rfl _ _
theorem tv_stl {m : rf_m} {N : Nat → Int32} {F : Nat → Int64} {r : Nat} : tv (stl m 25 F) N r = tv m N r := rfl
theorem weight_c {w : rf_w} {m : rf_m} {d : Int32} (j : JRule w m) (hN : nok (m.1 18)) : ∃ F, g_X9_weight w m d = some (wgtV m (m.1 18) d, stl m 25 F) := by
  obtain ⟨c1, c2, c3⟩ := j
  have hR := of_tn c2.1
  have hb : (m.1 206 39).toNatClampNeg ≤ 24 := tn_le c2.1 c2.2 (by decide)
  have key : ∀ n f i F, i + n = (m.1 206 39).toNatClampNeg → n < f → ∃ F', g_X9_weight_2 w f d (Int32.ofNat i) (stl m 25 F) = some (fstV (fun r => dueP m r 2 d ∧ tstP m (m.1 18) r) (fun r => w19 (tv m (m.1 18) r)) 1 n i, stl m 25 F') := by
    intro n
    induction n with
    | zero =>
      intro f i F hi hf
      obtain ⟨f, rfl⟩ : ∃ g, f = g + 1 := ⟨f - 1, by omega⟩
      show ∃ F', g_X9_weight_2_b w _ d _ (stl m 25 F) = _
      unfold g_X9_weight_2_b
      rw [stl_i, show i = (m.1 206 39).toNatClampNeg by omega, hR, c1, if_pos (Int32.le_refl _)]
      exact ⟨F, rfl⟩
    | succ n ih =>
      intro f i F hi hf
      obtain ⟨f, rfl⟩ : ∃ g, f = g + 1 := ⟨f - 1, by omega⟩
      show ∃ F', g_X9_weight_2_b w (g_X9_weight_2 w f) d _ (stl m 25 F) = _
      unfold g_X9_weight_2_b g_X9_weight_43
      have h1 : ¬ m.1 206 39 ≤ Int32.ofNat i := by rw [← hR]; exact nle (by omega) (by omega)
      obtain ⟨c, hc⟩ := c3 i (by omega)
      rw [stl_i, c1, if_neg h1, X9_isDue (by omega)]
      simp only [rf_b]
      have ed : dueP (stl m 25 F) i 2 d = dueP m i 2 d := rfl
      rw [ed]
      by_cases hd : dueP m i 2 d
      · rw [bi_t hd, if_neg (show ¬ (1 : Int32) = 0 by decide)]
        obtain ⟨F1, hF1⟩ := holds_c (w := w) (m := stl m 25 F) (by omega) (rulOK_stl hc) hN
        rw [hF1, stl_stl, tstP_stl, stl_i]
        simp only
        by_cases ht : tstP m (m.1 18) i
        · rw [bi_t ht, if_neg (show ¬ (1 : Int32) = 0 by decide), fstV_t ⟨hd, ht⟩]
          obtain ⟨F2, v, hF2, hv⟩ := total_c (w := w) (m := stl m 25 F1) (by omega) (rulOK_stl hc) hN (by rw [stl_i, hd.1]; decide) (by rw [stl_i, hd.1]; decide)
          rw [hF2, stl_stl, tv_of hv, tv_stl, stl_i]
          simp only [min_eq, max_eq]
          exact ⟨F2, rfl⟩
        · rw [bi_f ht, if_pos rfl, fstV_f (fun q => ht q.2), of_succ]
          exact ih f (i + 1) F1 (by omega) (by omega)
      · rw [bi_f hd, if_pos rfl, fstV_f (fun q => hd q.1), of_succ]
        exact ih f (i + 1) F (by omega) (by omega)
  have := key (m.1 206 39).toNatClampNeg rf_fuel 0 (m.2 25) (by omega) (by unfold rf_fuel; omega)
  rw [stl_self] at this
  exact this
theorem again_c {w : rf_w} {m : rf_m} {d : Int32} (j : JRule w m) (hN : nok (m.1 18)) : ∃ F, g_X9_sendsAgain w m d = some (agnV m (m.1 18) d, stl m 25 F) := by
  obtain ⟨c1, c2, c3⟩ := j
  have hR := of_tn c2.1
  have hb : (m.1 206 39).toNatClampNeg ≤ 24 := tn_le c2.1 c2.2 (by decide)
  have key : ∀ n f i F, i + n = (m.1 206 39).toNatClampNeg → n < f → ∃ F', g_X9_sendsAgain_2 w f d (Int32.ofNat i) (stl m 25 F) = some (fstV (fun r => dueP m r 3 d ∧ tstP m (m.1 18) r) (fun _ => 1) 0 n i, stl m 25 F') := by
    intro n
    induction n with
    | zero =>
      intro f i F hi hf
      obtain ⟨f, rfl⟩ : ∃ g, f = g + 1 := ⟨f - 1, by omega⟩
      show ∃ F', g_X9_sendsAgain_2_b w _ d _ (stl m 25 F) = _
      unfold g_X9_sendsAgain_2_b
      rw [stl_i, show i = (m.1 206 39).toNatClampNeg by omega, hR, c1, if_pos (Int32.le_refl _)]
      exact ⟨F, rfl⟩
    | succ n ih =>
      intro f i F hi hf
      obtain ⟨f, rfl⟩ : ∃ g, f = g + 1 := ⟨f - 1, by omega⟩
      show ∃ F', g_X9_sendsAgain_2_b w (g_X9_sendsAgain_2 w f) d _ (stl m 25 F) = _
      unfold g_X9_sendsAgain_2_b g_X9_sendsAgain_30
      have h1 : ¬ m.1 206 39 ≤ Int32.ofNat i := by rw [← hR]; exact nle (by omega) (by omega)
      obtain ⟨c, hc⟩ := c3 i (by omega)
      rw [stl_i, c1, if_neg h1, X9_isDue (by omega)]
      simp only [rf_b]
      have ed : dueP (stl m 25 F) i 3 d = dueP m i 3 d := rfl
      rw [ed]
      by_cases hd : dueP m i 3 d
      · rw [bi_t hd, if_neg (show ¬ (1 : Int32) = 0 by decide)]
        obtain ⟨F1, hF1⟩ := holds_c (w := w) (m := stl m 25 F) (by omega) (rulOK_stl hc) hN
        rw [hF1, stl_stl, tstP_stl, stl_i]
        simp only
        by_cases ht : tstP m (m.1 18) i
        · rw [bi_t ht, if_neg (show ¬ (1 : Int32) = 0 by decide), fstV_t ⟨hd, ht⟩]
          exact ⟨F1, rfl⟩
        · rw [bi_f ht, if_pos rfl, fstV_f (fun q => ht q.2), of_succ]
          exact ih f (i + 1) F1 (by omega) (by omega)
      · rw [bi_f hd, if_pos rfl, fstV_f (fun q => hd q.1), of_succ]
        exact ih f (i + 1) F (by omega) (by omega)
  have := key (m.1 206 39).toNatClampNeg rf_fuel 0 (m.2 25) (by omega) (by unfold rf_fuel; omega)
  rw [stl_self] at this
  exact this
theorem act_iff {w : rf_w} {m : rf_m} {i c : Nat} {k : Int32} (hc : rulOK w m i c) : m.1 c 0 = k ↔ m.1 19 i = k + 1 := by
  rw [hc.2.2.2.1]
  constructor
  · intro q; rw [q]
  · intro q; clear hc; grind
theorem weight_r {w : rf_w} {m M : rf_m} (j : JRule w m) (hA : rAg w m M) (hN : nok (M.1 228)) : ∃ G, g_X14_weightOf_12 w rf_fuel 0 M = some (wgtV m (M.1 228) (M.1 206 5), stc M 235 G) := by
  have j' := j
  obtain ⟨c1, c2, c3⟩ := j
  have hR := of_tn c2.1
  have hb : (m.1 206 39).toNatClampNeg ≤ 24 := tn_le c2.1 c2.2 (by decide)
  have key : ∀ n f i G, i + n = (m.1 206 39).toNatClampNeg → n < f → ∃ G', g_X14_weightOf_12 w f (Int32.ofNat i) (stc M 235 G) = some (fstV (fun r => dueP m r 2 (M.1 206 5) ∧ tstP m (M.1 228) r) (fun r => w19 (tv m (M.1 228) r)) 1 n i, stc M 235 G') := by
    intro n
    induction n with
    | zero =>
      intro f i G hi hf
      obtain ⟨f, rfl⟩ : ∃ g, f = g + 1 := ⟨f - 1, by omega⟩
      show ∃ G', g_X14_weightOf_12_b w _ _ (stc M 235 G) = _
      unfold g_X14_weightOf_12_b
      have e : (stc M 235 G).1 206 39 = m.1 206 39 := hA.1
      rw [e, show i = (m.1 206 39).toNatClampNeg by omega, hR, if_pos (Int32.le_refl _)]
      exact ⟨G, rfl⟩
    | succ n ih =>
      intro f i G hi hf
      obtain ⟨f, rfl⟩ : ∃ g, f = g + 1 := ⟨f - 1, by omega⟩
      show ∃ G', g_X14_weightOf_12_b w (g_X14_weightOf_12 w f) _ (stc M 235 G) = _
      unfold g_X14_weightOf_12_b g_X14_weightOf_78
      have h1 : ¬ m.1 206 39 ≤ Int32.ofNat i := by rw [← hR]; exact nle (by omega) (by omega)
      obtain ⟨c, hc⟩ := c3 i (by omega)
      have e : (stc M 235 G).1 206 39 = m.1 206 39 := hA.1
      obtain ⟨a0, a1, a2⟩ := (rAg_stc (G := G) j' hA).2 i c (by omega) hc.1
      have r := hc.2.1
      obtain ⟨r1, r2, r3, r4, r5, r6⟩ := r
      have gi : rf_in (Int32.ofNat i) 24 = true := gof (by omega) (by decide)
      have ti : (Int32.ofNat i).toNatClampNeg = i := tn_of (by omega)
      rw [e, if_neg h1, gi, g_t, ti, Rt229, hc.1]
      simp only [rf_o]
      rw [r1, r2, r3, r4, r5, g_t, g_t, g_t, g_t, g_t, a0]
      have hact : m.1 c 0 = 1 ↔ m.1 19 i = 2 := act_iff hc
      have e5 : (stc M 235 G).1 206 5 = M.1 206 5 := rfl
      have e8 : ∀ G, (stc M 235 G).1 228 = M.1 228 := fun _ => rfl
      by_cases q0 : m.1 c 0 = 1
      · rw [if_pos q0, inForce_r (by omega) hc a0, e5]
        simp only [rf_b]
        by_cases q1 : m.1 20 i ≤ M.1 206 5 ∧ M.1 206 5 ≤ m.1 21 i
        · rw [bi_t q1, if_neg (show ¬ (1 : Int32) = 0 by decide), g_t, g_t, g_t, g_t, g_t, g_t]
          obtain ⟨G1, hG1⟩ := test_r (w := w) (M := stc M 235 G) hc hN a0 a1 a2
          rw [hG1, stc_stc, e8]
          simp only
          by_cases ht : tstP m (M.1 228) i
          · rw [bi_t ht, if_neg (show ¬ (1 : Int32) = 0 by decide), fstV_t ⟨⟨hact.mp q0, q1.1, q1.2⟩, ht⟩, g_t, g_t, g_t, g_t, g_t, g_t]
            obtain ⟨b0, b1, b2⟩ := (rAg_stc (G := G1) j' hA).2 i c (by omega) hc.1
            obtain ⟨G2, v, hG2, hv⟩ := sum_r (w := w) (M := stc M 235 G1) hc hN b0 b1 b2 (by rw [hact.mp q0]; decide) (by rw [hact.mp q0]; decide)
            rw [hG2, stc_stc, tv_of hv, e8]
            simp only [min_eq, max_eq]
            exact ⟨G2, rfl⟩
          · rw [bi_f ht, if_pos rfl, fstV_f (fun q => ht q.2), of_succ]
            exact ih f (i + 1) G1 (by omega) (by omega)
        · rw [bi_f q1, if_pos rfl, fstV_f (fun q => q1 q.1.2), of_succ]
          exact ih f (i + 1) G (by omega) (by omega)
      · rw [if_neg q0, fstV_f (fun q => q0 (hact.mpr q.1.1)), of_succ]
        exact ih f (i + 1) G (by omega) (by omega)
  have := key (m.1 206 39).toNatClampNeg rf_fuel 0 (M.1 235) (by omega) (by unfold rf_fuel; omega)
  rw [stc_self] at this
  exact this
theorem again_r {w : rf_w} {m M : rf_m} (j : JRule w m) (hA : rAg w m M) (hN : nok (M.1 228)) : ∃ G, g_X14_isAgain_21 w rf_fuel 0 M = some (agnV m (M.1 228) (M.1 206 5), stc M 235 G) := by
  have j' := j
  obtain ⟨c1, c2, c3⟩ := j
  have hR := of_tn c2.1
  have hb : (m.1 206 39).toNatClampNeg ≤ 24 := tn_le c2.1 c2.2 (by decide)
  have key : ∀ n f i G, i + n = (m.1 206 39).toNatClampNeg → n < f → ∃ G', g_X14_isAgain_21 w f (Int32.ofNat i) (stc M 235 G) = some (fstV (fun r => dueP m r 3 (M.1 206 5) ∧ tstP m (M.1 228) r) (fun _ => 1) 0 n i, stc M 235 G') := by
    intro n
    induction n with
    | zero =>
      intro f i G hi hf
      obtain ⟨f, rfl⟩ : ∃ g, f = g + 1 := ⟨f - 1, by omega⟩
      show ∃ G', g_X14_isAgain_21_b w _ _ (stc M 235 G) = _
      unfold g_X14_isAgain_21_b
      have e : (stc M 235 G).1 206 39 = m.1 206 39 := hA.1
      rw [e, show i = (m.1 206 39).toNatClampNeg by omega, hR, if_pos (Int32.le_refl _)]
      exact ⟨G, rfl⟩
    | succ n ih =>
      intro f i G hi hf
      obtain ⟨f, rfl⟩ : ∃ g, f = g + 1 := ⟨f - 1, by omega⟩
      show ∃ G', g_X14_isAgain_21_b w (g_X14_isAgain_21 w f) _ (stc M 235 G) = _
      unfold g_X14_isAgain_21_b g_X14_isAgain_69
      have h1 : ¬ m.1 206 39 ≤ Int32.ofNat i := by rw [← hR]; exact nle (by omega) (by omega)
      obtain ⟨c, hc⟩ := c3 i (by omega)
      have e : (stc M 235 G).1 206 39 = m.1 206 39 := hA.1
      obtain ⟨a0, a1, a2⟩ := (rAg_stc (G := G) j' hA).2 i c (by omega) hc.1
      have r := hc.2.1
      obtain ⟨r1, r2, r3, r4, r5, r6⟩ := r
      have gi : rf_in (Int32.ofNat i) 24 = true := gof (by omega) (by decide)
      have ti : (Int32.ofNat i).toNatClampNeg = i := tn_of (by omega)
      rw [e, if_neg h1, gi, g_t, ti, Rt229, hc.1]
      simp only [rf_o]
      rw [r1, r2, r3, r4, r5, g_t, g_t, g_t, g_t, g_t, a0]
      have hact : m.1 c 0 = 2 ↔ m.1 19 i = 3 := act_iff hc
      have e5 : (stc M 235 G).1 206 5 = M.1 206 5 := rfl
      have e8 : (stc M 235 G).1 228 = M.1 228 := rfl
      by_cases q0 : m.1 c 0 = 2
      · rw [if_pos q0, inForce_r (by omega) hc a0, e5]
        simp only [rf_b]
        by_cases q1 : m.1 20 i ≤ M.1 206 5 ∧ M.1 206 5 ≤ m.1 21 i
        · rw [bi_t q1, if_neg (show ¬ (1 : Int32) = 0 by decide), g_t, g_t, g_t, g_t, g_t, g_t]
          obtain ⟨G1, hG1⟩ := test_r (w := w) (M := stc M 235 G) hc hN a0 a1 a2
          rw [hG1, stc_stc, e8]
          simp only
          by_cases ht : tstP m (M.1 228) i
          · rw [bi_t ht, if_neg (show ¬ (1 : Int32) = 0 by decide), fstV_t ⟨⟨hact.mp q0, q1.1, q1.2⟩, ht⟩]
            exact ⟨G1, rfl⟩
          · rw [bi_f ht, if_pos rfl, fstV_f (fun q => ht q.2), of_succ]
            exact ih f (i + 1) G1 (by omega) (by omega)
        · rw [bi_f q1, if_pos rfl, fstV_f (fun q => q1 q.1.2), of_succ]
          exact ih f (i + 1) G (by omega) (by omega)
      · rw [if_neg q0, fstV_f (fun q => q0 (hact.mpr q.1.1)), of_succ]
        exact ih f (i + 1) G (by omega) (by omega)
  have := key (m.1 206 39).toNatClampNeg rf_fuel 0 (M.1 235) (by omega) (by unfold rf_fuel; omega)
  rw [stc_self] at this
  exact this
end PBWeight
