/-! check: the call -/
section PBCheckZ
/-- what the reference's loop may change -/
def chF (M0 M : rf_m) : Prop := (∀ z, z ≠ 228 → z ≠ 235 → z ≠ 280 → z ≠ 281 → M.1 z = M0.1 z) ∧ M.2 = M0.2
theorem chF_st {M0 M : rf_m} {c : Nat} {f : Nat → Int32} (h : chF M0 M) (hc : c = 228 ∨ c = 235 ∨ c = 280 ∨ c = 281) : chF M0 (stc M c f) := ⟨fun z h1 h2 h3 h4 => by rw [stc_ne (by omega)]; exact h.1 z h1 h2 h3 h4, h.2⟩
def M0A (w : rf_w) (m M0 : rf_m) : Prop := mA m M0 ∧ nA w m M0 ∧ ∀ a, a < (m.1 206 16).toNatClampNeg → siP w m M0 a
theorem M0A_e {w : rf_w} {m M0 M : rf_m} (h : M0A w m M0) (e : ∀ z, z ≠ 228 → z ≠ 235 → z ≠ 280 → z ≠ 281 → M.1 z = M0.1 z) : M0A w m M := by
  obtain ⟨h1, h2, h3⟩ := h
  have e6 : M.1 206 = M0.1 206 := e 206 (by decide) (by decide) (by decide) (by decide)
  refine ⟨mA_x h1 (fun z hz => e z (by omega) (by omega) (by omega) (by omega)) (fun k _ => by rw [e6]), ⟨fun z hz => by rw [e z (by omega) (by omega) (by omega) (by omega)]; exact h2.1 z hz, by rw [e6]; exact h2.2.1, by rw [e6]; exact h2.2.2.1, fun a ha => by rw [e 248 (by decide) (by decide) (by decide) (by decide)]; exact h2.2.2.2 a ha⟩, fun a ha => ?_⟩
  have := h3 a ha
  unfold siP at this ⊢
  rw [e 268 (by decide) (by decide) (by decide) (by decide), e 269 (by decide) (by decide) (by decide) (by decide), e 270 (by decide) (by decide) (by decide) (by decide)]
  exact this
theorem well_r {t : Nat} {w : rf_w} {m M : rf_m} (ja : JAng m) (jn : JNet m) (ju : JRule w m) (h : M0A w m M) (ht : t < (m.1 206 64).toNatClampNeg) : ∃ G g, g_X14_isWell w M (Int32.ofNat t) = some (wlI (tmF w m t) (leastV m (m.1 206 5)) 3 0, stc (stc M 228 g) 235 G) := by
  have n30 := (net30 jn).1
  obtain ⟨G, g, hG⟩ := least_r (w := w) (m := m) (M := M) ju (mA_ag ju h.1)
  rw [h.1.2.1] at hG
  have h' := M0A_e (M := stc (stc M 228 g) 235 G) h (fun z h1 h2 _ _ => by rw [stc_ne h2, stc_ne h1])
  refine ⟨G, g, ?_⟩
  unfold g_X14_isWell
  rw [hG, b_sm]
  exact wl_r (by omega) (fun i hi => by
    rw [h'.2.1.1 243 (by omega)]
    obtain ⟨q1, q2⟩ := net_t jn ja ht hi
    exact ⟨q1, h'.2.1.2.2.2 _ q2⟩)
def dnF (M0 M : rf_m) : Prop := (∀ z, z ≠ 206 → z ≠ 228 → z ≠ 235 → z ≠ 280 → z ≠ 281 → M.1 z = M0.1 z) ∧ (∀ k, k ≠ 1 → k ≠ 2 → M.1 206 k = M0.1 206 k) ∧ M.1 206 1 = 0 ∧ M.1 206 2 = -1 ∧ M.2 = M0.2
theorem done_r {w : rf_w} {M0 M : rf_m} {v : Int32} (h : chF M0 M) : ∃ M', (rf_b (g_X14_done w M v) fun y0 m0 => some (y0, m0)) = some (v, M') ∧ dnF M0 M' := by
  refine ⟨rf_i (rf_i M 206 1 0) 206 2 (-1), rfl, fun z q1 q2 q3 q4 q5 => ?_, fun k k1 k2 => ?_, rfl, rfl, ?_⟩
  · rw [rf_i_c, if_neg q1, rf_i_c, if_neg q1]; exact h.1 z q2 q3 q4 q5
  · rw [rf_i_c, if_pos rfl, pu_ne k2, rf_i_c, if_pos rfl, pu_ne k1, h.1 206 (by decide) (by decide) (by decide) (by decide)]
  · rw [rf_i_l, rf_i_l]; exact h.2
theorem chk_rf {c : Nat} {w : rf_w} {m M0 : rf_m} {R : Nat → Int32} {A one other : Int32} {N : Nat} (J : JCnt c w m) (jn : JNet m) (hN : N ≤ 6) (hR : ∀ j, j < N → ib (R j) (m.1 206 64)) (hA : 0 ≤ A) (h0 : M0A w m M0) (h279 : ∀ j, j < 6 → M0.1 279 j = R j) (p1 : ib one 30) (p2 : ib other 30) : ∀ n f k M S, k + n = N → n < f → chF M0 M → canR (M.1 280) S → ∃ M', g_X14_check_208 w f one other (Int32.ofNat N) A (Int32.ofNat k) M = some (chk w m R A (leastV m (m.1 206 5)) (sd one other) n k S, M') ∧ dnF M0 M' := by
  have ja := J.2.2.2.2.1
  have jm := J.2.2.2.2.2.1
  have ju := J.2.2.2.1
  have o1 : ¬ (1 : Int32) = 0 := by decide
  obtain ⟨e30, d1, d2⟩ := thirty p1 p2
  intro n
  induction n with
  | zero =>
    intro f k M S hk hf hM hS
    obtain ⟨f, rfl⟩ : ∃ g, f = g + 1 := ⟨f - 1, by omega⟩
    have e : k = N := by omega
    subst e
    obtain ⟨M', e1, e2⟩ := done_r (w := w) (v := 0) hM
    refine ⟨M', ?_, e2⟩
    show g_X14_check_208_b w _ _ _ _ _ _ M = _
    unfold g_X14_check_208_b
    rw [if_pos (Int32.le_refl _)]
    exact e1
  | succ n ih =>
    intro f k M S hk hf hM hS
    obtain ⟨f, rfl⟩ : ∃ g, f = g + 1 := ⟨f - 1, by omega⟩
    have h1 : ¬ Int32.ofNat N ≤ Int32.ofNat k := nle (by omega) (by omega)
    have hr := hR k (by omega)
    have er : R k = Int32.ofNat (R k).toNatClampNeg := (of_tn hr.1).symm
    have ht : (R k).toNatClampNeg < (m.1 206 64).toNatClampNeg := tn_lt2 hr.1 hr.2
    have gk := gof (n := k) (N := 6) (by omega) (by decide)
    have eM : M.1 279 k = R k := by rw [hM.1 279 (by decide) (by decide) (by decide) (by decide)]; exact h279 k (by omega)
    obtain ⟨G, g, wl⟩ := well_r ja jn ju (M0A_e h0 hM.1) ht
    generalize hM1 : stc (stc M 228 g) 235 G = M1 at wl
    have c1M : chF M0 M1 := by rw [← hM1]; exact chF_st (chF_st hM (by omega)) (by omega)
    have A1 := M0A_e h0 c1M.1
    have s1 : M1.1 280 = M.1 280 := by rw [← hM1, stc_ne (by decide), stc_ne (by decide)]
    rw [← s1] at hS
    have b3 : M1.1 243 = m.1 243 := A1.2.1.1 243 (by omega)
    have b8 : M1.1 218 = m.1 218 := A1.1.1 218 (by omega)
    have b9 : M1.1 219 = m.1 219 := A1.1.1 219 (by omega)
    have tm := tm_r ja jn A1.2.1 ht
    have ca := carries_r ja jn b3 A1.2.2 ht
    rw [← er] at wl tm ca
    have e279 : ∀ j, j < 6 → M1.1 279 j = R j := fun j hj => by rw [c1M.1 279 (by decide) (by decide) (by decide) (by decide)]; exact h279 j hj
    -- with the soundness so far
    have rest : ∀ P : Prop, ((P ∧ ¬ ∃ j, j < k ∧ R j = R k) ↔ gdP w m R A (leastV m (m.1 206 5)) k) → ∃ M', g_X14_check_262 w (g_X14_check_208 w f) one other (Int32.ofNat N) A (Int32.ofNat k) (R k) (bi P) M1 = some (chk w m R A (leastV m (m.1 206 5)) (sd one other) (n + 1) k S, M') ∧ dnF M0 M' := by
      intro P hP
      have r2 := r267 (w := w) (M := M1) (r208 := g_X14_check_208 w f) (a2 := one) (a3 := other) (a10 := Int32.ofNat N) (a11 := A) (a13 := R k) (k := k) (P := P) (by omega)
      have hP' : (P ∧ ¬ ∃ j, j < k ∧ M1.1 279 j = R k) ↔ gdP w m R A (leastV m (m.1 206 5)) k := by
        rw [← hP]
        refine and_congr Iff.rfl (not_congr ⟨fun ⟨j, z1, z2⟩ => ⟨j, z1, by rw [← e279 j (by omega)]; exact z2⟩, fun ⟨j, z1, z2⟩ => ⟨j, z1, by rw [e279 j (by omega)]; exact z2⟩⟩)
      rw [bi_congr hP'] at r2
      obtain ⟨G1, q1, q2⟩ := r307 (w := w) (M := M1) (r208 := g_X14_check_208 w f) (a2 := one) (a3 := other) (a10 := Int32.ofNat N) (a11 := A) (a12 := Int32.ofNat k) (a13 := R k) (a14 := bi (gdP w m R A (leastV m (m.1 206 5)) k))
      obtain ⟨G2, q3, q4⟩ := r335 (w := w) (M := M1) (t := (R k).toNatClampNeg) (r208 := g_X14_check_208 w f) (a2 := one) (a3 := other) (a10 := Int32.ofNat N) (a11 := A) (a12 := Int32.ofNat k) (a14 := bi (gdP w m R A (leastV m (m.1 206 5)) k)) jn ja jm ht b3 b8 b9 hS q1
      rw [← er] at q4
      unfold g_X14_check_262
      rw [r2, q2, q4]
      have c2M : chF M0 (stc M1 281 G2) := chF_st c1M (by omega)
      have x281 : (stc M1 281 G2).1 281 = G2 := stc_at
      show ∃ M', g_X14_check_335_b w _ _ _ _ _ _ _ _ _ _ _ _ = _ ∧ _
      unfold g_X14_check_335_b g_X14_check_513
      have p3 : (3 : Int32) ≤ 3 := by decide
      rw [if_pos p3]
      by_cases c1 : gdP w m R A (leastV m (m.1 206 5)) k
      · rw [bi_t c1, if_neg o1]
        by_cases c2 : ∃ i, i < 3 ∧ S (sidV m (R k).toNatClampNeg i)
        · rw [bi_t c2, if_neg o1]
          have go : (n = 0 → nxt m (R k).toNatClampNeg S (sd one other)) → ∃ M', g_X14_check_516 w (g_X14_check_208 w f) rf_fuel one other (Int32.ofNat N) A (Int32.ofNat k) 0 (stc M1 281 G2) = some (chk w m R A (leastV m (m.1 206 5)) (sd one other) (n + 1) k S, M') ∧ dnF M0 M' := fun hl => by
            obtain ⟨G3, q5, q6⟩ := r516 (w := w) (M := stc M1 281 G2) (r208 := g_X14_check_208 w f) (a2 := one) (a3 := other) (a10 := Int32.ofNat N) (a11 := A) (a12 := Int32.ofNat k) (S := nxt m (R k).toNatClampNeg S) (by rw [x281]; exact q3)
            rw [q6, of_succ, chk_t ⟨c1, c2, hl⟩]
            exact ih f (k + 1) _ _ (by omega) (by omega) (chF_st c2M (by omega)) (by rw [stc_at]; exact q5)
          by_cases c3 : n = 0
          · have e6 : Int32.ofNat k = Int32.ofNat N - 1 := by rw [show N = k + 1 by omega, ofm1']
            rw [if_pos e6, e30, gof (by omega) (by decide), g_t, tn_of (by omega), x281]
            have sG := q3.2 _ _ d1 d2
            rw [of_tn p1.1, of_tn p2.1] at sG
            by_cases c4 : nxt m (R k).toNatClampNeg S (sd one other)
            · rw [if_neg (sG.mpr c4)]
              exact go (fun _ => c4)
            · have z0 : G2 (30 * one.toNatClampNeg + other.toNatClampNeg) = 0 := Classical.byContradiction fun z => c4 (sG.mp z)
              rw [if_pos z0, chk_f (fun q => c4 (q.2.2 c3))]
              exact done_r c2M
          · have e6 : ¬ Int32.ofNat k = Int32.ofNat N - 1 := by
              rw [show N = (N - 1) + 1 by omega, ofm1']
              exact fun q => by have := (of_inj (by omega) (by omega)).mp q; omega
            rw [if_neg e6]
            exact go (fun q => absurd q c3)
        · rw [bi_f c2, if_pos rfl, chk_f (fun q => c2 q.2.1)]
          exact done_r c2M
      · rw [bi_f c1, if_pos rfl, chk_f (fun q => c1 q.1)]
        exact done_r c2M
    have r0 := rest False
    have r1 := rest True
    rw [bi_F] at r0
    rw [bi_T] at r1
    show ∃ M', g_X14_check_208_b w _ _ _ _ _ _ M = _ ∧ _
    unfold g_X14_check_208_b g_X14_check_261
    simp only [rf_vi]
    rw [if_neg h1, tn_of (by omega), eM, gk, g_t, wl, b_sm]
    by_cases c1 : wlI (tmF w m (R k).toNatClampNeg) (leastV m (m.1 206 5)) 3 0 = 0
    · rw [if_pos c1]; exact r0 ⟨fun q => q.1.elim, fun q => absurd c1 q.1⟩
    · rw [if_neg c1, tm, b_sm, wide_r hA, b_sm]
      by_cases c2 : bdV (tmV w m (R k).toNatClampNeg) A = 0
      · rw [if_pos c2, ca, b_sm]
        by_cases c3 : abP w m (R k).toNatClampNeg
        · rw [bi_t c3, if_neg o1]; exact r1 ⟨fun q => ⟨c1, c2, c3, q.2⟩, fun q => ⟨trivial, q.2.2.2⟩⟩
        · rw [bi_f c3, if_pos rfl]; exact r0 ⟨fun q => q.1.elim, fun q => absurd q.2.2.1 c3⟩
      · rw [if_neg c2]; exact r0 ⟨fun q => q.1.elim, fun q => absurd q.2.1 c2⟩
end PBCheckZ
