/-! round, both sides -/
section PBRoundK
theorem rowN_congr {f g : Nat → Int32} (h : ∀ j, j < 6 → f j = g j) : ∀ n i, i + n ≤ 6 → rowN f n i = rowN g n i := by
  intro n
  induction n with
  | zero => intro i _; rfl
  | succ n ih =>
    intro i hi
    show (if f i = -1 then i else rowN f n (i + 1)) = (if g i = -1 then i else rowN g n (i + 1))
    rw [h i (by omega), ih (i + 1) (by omega)]
def row6 (f : Nat → Int32) (y : Nat → Int32) : Nat → Int32 := pu (pu (pu (pu (pu (pu f 0 (y 1)) 1 (y 2)) 2 (y 3)) 3 (y 4)) 4 (y 5)) 5 (y 6)
theorem row6_eq {f g : Nat → Int32} {y : Nat → Int32} : ∀ j, j < 6 → row6 f y j = row6 g y j := by
  intro j hj
  have : j = 0 ∨ j = 1 ∨ j = 2 ∨ j = 3 ∨ j = 4 ∨ j = 5 := by omega
  rcases this with rfl | rfl | rfl | rfl | rfl | rfl <;> rfl
theorem refuse_fin {m X : rf_m} {v : Int32} (jt : JT m) (jn : JNet m) (hv : v ≠ 4) (h0 : ∀ z, z ≠ 0 → z ≠ 205 → z ≠ 206 → z ≠ 247 → X.1 z = m.1 z) (h1 : X.1 0 = pu (m.1 0) 11 v) (h2 : X.1 206 = pu (pu (pu (m.1 206) 0 0) 1 v) 2 (-1)) : JT X ∧ JNet X := by
  have a6 : ∀ k, k ≠ 0 → k ≠ 1 → k ≠ 2 → X.1 206 k = m.1 206 k := fun k b0 b1 b2 => by rw [h2, pu_ne b2, pu_ne b1, pu_ne b0]
  constructor
  · have e1 : X.1 0 11 = v := by rw [h1]; rfl
    have e2 : X.1 0 12 = m.1 0 12 := by rw [h1]; rfl
    have e3 : X.1 206 1 = v := by rw [h2]; rfl
    have e4 : X.1 206 2 = -1 := by rw [h2]; rfl
    unfold JT
    rw [e1, e2, e3, e4, a6 3 (by decide) (by decide) (by decide), if_neg hv]
    exact ⟨rfl, jt.2.1, rfl⟩
  · unfold JNet at *
    rw [h0 50 (by decide) (by decide) (by decide) (by decide), h0 51 (by decide) (by decide) (by decide) (by decide), h0 52 (by decide) (by decide) (by decide) (by decide), h0 53 (by decide) (by decide) (by decide) (by decide), h0 54 (by decide) (by decide) (by decide) (by decide), h0 217 (by decide) (by decide) (by decide) (by decide), h0 218 (by decide) (by decide) (by decide) (by decide), h0 219 (by decide) (by decide) (by decide) (by decide), h0 243 (by decide) (by decide) (by decide) (by decide), h0 244 (by decide) (by decide) (by decide) (by decide), h0 245 (by decide) (by decide) (by decide) (by decide), h0 246 (by decide) (by decide) (by decide) (by decide), a6 16 (by decide) (by decide) (by decide), a6 64 (by decide) (by decide) (by decide), a6 65 (by decide) (by decide) (by decide)]
    exact jn
theorem gRr_congr {A B C f g : Nat → Int32} {n i : Nat} (h : ∀ j, j < 6 → f j = g j) (hi : i < n) (hn : n ≤ 6) (hh : gRr A B C f n i) : gRr A B C g n i := by
  have hp : prv n i < n := by unfold prv; split <;> omega
  obtain ⟨h1, h2, h3⟩ := hh
  refine ⟨by rw [← h i (by omega), ← h 0 (by omega)]; exact h1, by rw [← h i (by omega), ← h _ (show prv n i < 6 by omega)]; exact h2, fun ⟨j, j1, j2⟩ => h3 ⟨j, j1, by rw [h j (by omega), h i (by omega)]; exact j2⟩⟩
theorem k25 {w : rf_w} {m : rf_m} {y : Nat → Int32} (ja : JAng m) (jt : JT m) (jn : JNet m) : wp (g_lc_25 w m y) (fun r => r.1 = w ∧ JT r.2 ∧ JNet r.2) := by
  have o1 : ¬ (1 : Int32) = 0 := by decide
  have o2 : ¬ (0 : Int32) = 1 := by decide
  have h80 := ang80 ja
  have i65 := jn.2.2.2.1
  have n12 := (net30 jn).2
  have hRR := of_tn i65.1
  obtain ⟨m1, hm1, hm1'⟩ : ∃ m1 : rf_m, m1 = stc m 205 (row6 (m.1 205) y) ∧ g_X11_round w m (y 1) (y 2) (y 3) (y 4) (y 5) (y 6) = rf_b (g_X11_fillRow_48 w rf_fuel 0 m1) fun y0 m0 => g_X11_round_18 w rf_fuel y0 0 m0 := by
    refine ⟨_, rfl, ?_⟩
    unfold g_X11_round g_X11_fillRow
    have : ∀ (f : Nat → Int32) k x, rf_i (stc m 205 f) 205 k x = stc m 205 (pu f k x) := fun f k x => by rw [stc_i, stc_stc, stc_c, if_pos rfl]
    rw [show rf_i m 205 (Int32.toNatClampNeg 0) (y 1) = stc m 205 (pu (m.1 205) 0 (y 1)) from stc_i, this, this, this, this, this]
    rfl
  have f205 : m1.1 205 = row6 (m.1 205) y := by rw [hm1]; rfl
  have fz : ∀ z, z ≠ 205 → m1.1 z = m.1 z := fun z hz => by rw [hm1, stc_c, if_neg hz]
  -- the reference, from X
  have refE : ∀ X : rf_m, ∃ M : rf_m, M = stc (rf_i X 206 0 0) 247 (row6 (X.1 247) y) ∧ g_X14_round w X (y 1) (y 2) (y 3) (y 4) (y 5) (y 6) = g_X14_round_53 w rf_fuel 0 M := by
    intro X
    refine ⟨_, rfl, ?_⟩
    unfold g_X14_round
    have : ∀ (f : Nat → Int32) k x, rf_i (stc (rf_i X 206 0 0) 247 f) 247 k x = stc (rf_i X 206 0 0) 247 (pu f k x) := fun f k x => by rw [stc_i, stc_stc, stc_c, if_pos rfl]
    rw [show rf_i (rf_i X 206 0 0) 247 (Int32.toNatClampNeg 0) (y 1) = stc (rf_i X 206 0 0) 247 (pu (X.1 247) 0 (y 1)) from stc_i, this, this, this, this, this]
    rfl
  have cls : g_X11_round w m (y 1) (y 2) (y 3) (y 4) (y 5) (y 6) = g_X11_round_18 w rf_fuel (Int32.ofNat (rowN (m1.1 205) 6 0)) 0 m1 := by rw [hm1', fill_c]; rfl
  unfold g_lc_25
  rw [cls]
  have hn6 : rowN (m1.1 205) 6 0 ≤ 6 := by have := (rowN_le (f := m1.1 205) 6 0).2; omega
  have hrw : ∀ M : rf_m, (∃ g, M.1 247 = row6 g y) → (∀ j, j < 6 → M.1 247 j = m1.1 205 j) ∧ rowN (M.1 247) 6 0 = rowN (m1.1 205) 6 0 := by
    intro M ⟨g, hg⟩
    have h : ∀ j, j < 6 → M.1 247 j = m1.1 205 j := fun j hj => by rw [hg, f205]; exact row6_eq j hj
    exact ⟨h, rowN_congr h 6 0 (by omega)⟩
  generalize hnv : rowN (m1.1 205) 6 0 = n at *
  rw [rowA_c hn6]
  have e26 : m1.1 26 6 = m.1 206 16 := by rw [fz 26 (by decide)]; exact ja.1
  rw [e26]
  -- refusals
  have ref : ∀ (v : Int32), v ≠ 4 → (∀ M : rf_m, M = stc (rf_i (rf_i m1 0 11 v) 206 0 0) 247 (row6 ((rf_i m1 0 11 v).1 247) y) → g_X14_round_53 w rf_fuel 0 M = g_X14_refused w M v) → wp (rf_b (g_X11_refused w m1 v) fun z0 m0x => rf_b (g_X14_round w m0x (y 1) (y 2) (y 3) (y 4) (y 5) (y 6)) fun z1 m1x => rf_g (decide (z0 = z1)) (some (w, m1x))) (fun r => r.1 = w ∧ JT r.2 ∧ JNet r.2) := by
    intro v hv hM
    unfold g_X11_refused
    obtain ⟨M, hMe, hMr⟩ := refE (rf_i m1 0 11 v)
    rw [wp_b, wp_some, wp_b, hMr, hM M hMe]
    unfold g_X14_refused
    rw [wp_some, wp_g, wp_some]
    refine ⟨decide_eq_true rfl, rfl, refuse_fin jt jn hv (fun z a1 a2 a3 a4 => ?_) ?_ ?_⟩
    · rw [hMe, rf_i_c, if_neg a3, rf_i_c, if_neg a3, stc_c, if_neg a4, rf_i_c, if_neg a3, rf_i_c, if_neg a1]; exact fz z a2
    · rw [hMe, rf_i_c, if_neg (by decide), rf_i_c, if_neg (by decide), stc_c, if_neg (by decide), rf_i_c, if_neg (by decide), rf_i_c, if_pos rfl, fz 0 (by decide)]
    · rw [hMe, rf_i_c, if_pos rfl, rf_i_c, if_pos rfl, stc_c, if_neg (by decide), rf_i_c, if_pos rfl, rf_i_c, if_neg (by decide), fz 206 (by decide)]
  have facts : ∀ (Y M : rf_m), (∀ z, z = 206 ∨ (217 ≤ z ∧ z ≤ 219) → Y.1 z = m.1 z) → M = stc (rf_i Y 206 0 0) 247 (row6 (Y.1 247) y) → M.1 206 16 = m.1 206 16 ∧ M.1 206 65 = m.1 206 65 ∧ M.1 217 = m1.1 28 ∧ M.1 218 = m1.1 29 ∧ M.1 219 = m1.1 30 ∧ (∀ j, j < 6 → M.1 247 j = m1.1 205 j) ∧ rowN (M.1 247) 6 0 = n := by
    intro Y M hY hM
    have hg := hrw M ⟨_, by rw [hM]; rfl⟩
    refine ⟨?_, ?_, ?_, ?_, ?_, hg.1, hg.2⟩
    · rw [hM, stc_c, if_neg (by decide), rf_i_c, if_pos rfl, pu_ne (by decide), hY 206 (by omega)]
    · rw [hM, stc_c, if_neg (by decide), rf_i_c, if_pos rfl, pu_ne (by decide), hY 206 (by omega)]
    · rw [hM, stc_c, if_neg (by decide), rf_i_c, if_neg (by decide), hY 217 (by omega), fz 28 (by decide)]; exact ja.2.2.1.symm
    · rw [hM, stc_c, if_neg (by decide), rf_i_c, if_neg (by decide), hY 218 (by omega), fz 29 (by decide)]; exact ja.2.2.2.1.symm
    · rw [hM, stc_c, if_neg (by decide), rf_i_c, if_neg (by decide), hY 219 (by omega), fz 30 (by decide)]; exact ja.2.2.2.2.1.symm
  have hYv : ∀ v z, z = 206 ∨ (217 ≤ z ∧ z ≤ 219) → (rf_i m1 0 11 v).1 z = m.1 z := fun v z hz => by rw [rf_i_c, if_neg (by omega)]; exact fz z (by omega)
  by_cases P1 : ∀ i, i < n → ib (m1.1 205 i) (m.1 206 16)
  · rw [if_pos P1]
    have i16 := ja.2.1
    have hf80 : ∀ i, i < n → ib (m1.1 205 i) 80 := fun i hi => ⟨(P1 i hi).1, by have a := (P1 i hi).2; have b := i16.2; clear jn ja; grind⟩
    have hG := goes_c (w := w) (m := m1) hn6 hf80
    -- the reference comes to its end
    have endR : ∀ (Y M : rf_m), (∀ z, z = 206 ∨ (217 ≤ z ∧ z ≤ 219) → Y.1 z = m.1 z) → M = stc (rf_i Y 206 0 0) 247 (row6 (Y.1 247) y) → g_X14_round_53 w rf_fuel 0 M = g_X14_round_113 w 1 (Int32.ofNat n) (bi (2 ≤ n ∧ ∀ i, i < n → gRd (m1.1 28) (m1.1 29) (m1.1 30) (m1.1 205) n i)) (Int32.ofNat n) M := by
      intro Y M hY hM
      obtain ⟨a1, a2, a3, a4, a5, a6, a7⟩ := facts Y M hY hM
      have hP : ∀ i, i < rowN (M.1 247) 6 0 → ib (M.1 247 i) (M.1 206 16) := fun i hi => by rw [a7] at hi; rw [a1, a6 i (by omega)]; exact P1 i hi
      rw [row_r, if_pos hP, a7]
      have hf' : ∀ i, i < n → ib (M.1 247 i) 80 := fun i hi => by rw [a6 i (by omega)]; exact hf80 i hi
      unfold g_X14_round_97 g_X14_round_108
      have oo := fun s hs => outer_r (w := w) (M := M) hn6 hf' n rf_fuel 0 s (by omega) (by unfold rf_fuel; omega) hs
      have oo0 : g_X14_round_113 w rf_fuel (Int32.ofNat n) 0 0 M = _ := oo 0 (Or.inl rfl)
      have oo1 : g_X14_round_113 w rf_fuel (Int32.ofNat n) 1 0 M = _ := oo 1 (Or.inr rfl)
      rw [oo0, oo1, a3, a4, a5]
      have hq : (∀ j, 0 ≤ j → j < n → gRr (m1.1 28) (m1.1 29) (m1.1 30) (M.1 247) n j) ↔ (∀ i, i < n → gRd (m1.1 28) (m1.1 29) (m1.1 30) (m1.1 205) n i) := by
        rw [gRd_r]
        exact ⟨fun h i hi => gRr_congr a6 hi hn6 (h i (Nat.zero_le _) hi), fun h i _ hi => gRr_congr (fun j hj => (a6 j hj).symm) hi hn6 (h i hi)⟩
      by_cases l : n ≤ 1
      · have l' : Int32.ofNat n ≤ 1 := (of_le (b := 1) (by omega) (by omega)).mpr l
        rw [if_pos l', bi_f (fun h => o2 h.1), bi_f (fun h => by omega)]
      · have l' : ¬ Int32.ofNat n ≤ 1 := fun h => l ((of_le (b := 1) (by omega) (by omega)).mp h)
        rw [if_neg l']
        by_cases p : ∀ i, i < n → gRd (m1.1 28) (m1.1 29) (m1.1 30) (m1.1 205) n i
        · rw [bi_t ⟨rfl, hq.mpr p⟩, bi_t ⟨by omega, p⟩]
        · rw [bi_f (fun h => p (hq.mp h.2)), bi_f (fun h => p h.2)]
    have hend : g_X11_round_18 w 1 (Int32.ofNat n) (Int32.ofNat n) m1 = g_X11_round_18_b w (g_X11_round_18 w 0) (Int32.ofNat n) (Int32.ofNat n) m1 := rfl
    have fin113 : ∀ s (M : rf_m), g_X14_round_113 w 1 (Int32.ofNat n) s (Int32.ofNat n) M = if s = 0 then g_X14_refused w M 5 else if M.1 206 65 = 12 then g_X14_refused w M 3 else g_X14_round_283 w rf_fuel (Int32.ofNat n) 0 M := by
      intro s M
      show g_X14_round_113_b w _ _ _ _ M = _
      unfold g_X14_round_113_b
      rw [if_pos (Int32.le_refl _)]
      rfl
    have e50 : m1.1 50 1 = m.1 206 65 := by rw [fz 50 (by decide)]; exact jn.2.2.1
    by_cases G : 2 ≤ n ∧ ∀ i, i < n → gRd (m1.1 28) (m1.1 29) (m1.1 30) (m1.1 205) n i
    · by_cases R12 : m.1 206 65 < 12
      · have hR12 : (m.1 206 65).toNatClampNeg < 12 := tn_lt2 (y := 12) i65.1 R12
        generalize hRv : (m.1 206 65).toNatClampNeg = R at *
        obtain ⟨m', p1, p2, p3, p4, p5⟩ := put_c (w := w) (m := m1) (n := n) (R := R) hn6 (by rw [e50]; exact hRR.symm) hR12
        have hc : g_X11_round_18 w 1 (Int32.ofNat n) (Int32.ofNat n) m1 = some (Int32.ofNat R, rf_i m' 0 11 0) := by
          rw [hend]
          unfold g_X11_round_18_b
          rw [if_pos (Int32.le_refl _), hG]
          simp only [rf_b]
          rw [bi_t G, if_neg o1, e50, if_pos R12, p1]
          rfl
        obtain ⟨M, hMe, hMr⟩ := refE (rf_i m' 0 11 0)
        have hY : ∀ z, z = 206 ∨ (217 ≤ z ∧ z ≤ 219) → (rf_i m' 0 11 0).1 z = m.1 z := fun z hz => by rw [rf_i_c, if_neg (by omega), p2 z (by omega) (by omega) (by omega)]; exact fz z (by omega)
        have N12 : ¬ M.1 206 65 = 12 := by rw [(facts _ M hY hMe).2.1]; intro e; rw [e] at R12; exact absurd R12 (by decide)
        have q65 : M.1 206 65 = Int32.ofNat R := by rw [(facts _ M hY hMe).2.1]; exact hRR.symm
        obtain ⟨M', g1, g2, g3, g4, g5⟩ := put_r (w := w) (M := M) (n := n) (R := R) hn6 q65 hR12
        rw [hc, wp_b, wp_some, wp_b, hMr, endR _ M hY hMe, fin113, bi_t G, if_neg o1, if_neg N12, g1, wp_some, wp_g, wp_some]
        have hz : ∀ z, z ≠ 0 → z ≠ 50 → z ≠ 53 → z ≠ 54 → z ≠ 205 → z ≠ 206 → z ≠ 245 → z ≠ 246 → z ≠ 247 → M'.1 z = m.1 z := fun z a1 a2 a3 a4 a5 a6 a7 a8 a9 => by
          rw [g2 z a6 a7 a8, hMe, stc_c, if_neg a9, rf_i_c, if_neg a6, rf_i_c, if_neg a1, p2 z a2 a3 a4, fz z a5]
        have M0 : M'.1 0 = pu (m.1 0) 11 0 := by
          rw [g2 0 (by decide) (by decide) (by decide), hMe, stc_c, if_neg (by decide), rf_i_c, if_neg (by decide), rf_i_c, if_pos rfl, p2 0 (by decide) (by decide) (by decide), fz 0 (by decide)]
        have M6 : M'.1 206 = pu (pu (pu (pu (m.1 206) 0 0) 65 (Int32.ofNat (R + 1))) 1 0) 2 (-1) := by
          rw [g5, hMe, stc_c, if_neg (by decide), rf_i_c, if_pos rfl, rf_i_c, if_neg (by decide), p2 206 (by decide) (by decide) (by decide), fz 206 (by decide)]
        have n206 : ∀ k, k ≠ 0 → k ≠ 1 → k ≠ 2 → k ≠ 65 → M'.1 206 k = m.1 206 k := fun k b0 b1 b2 b3 => by rw [M6, pu_ne b2, pu_ne b1, pu_ne b3, pu_ne b0]
        have s65 : M'.1 206 65 = Int32.ofNat (R + 1) := by rw [M6]; rfl
        have c50 : M'.1 50 = pu (m.1 50) 1 (Int32.ofNat (R + 1)) := by
          rw [g2 50 (by decide) (by decide) (by decide), hMe, stc_c, if_neg (by decide), rf_i_c, if_neg (by decide), rf_i_c, if_neg (by decide), p5, fz 50 (by decide)]
        have m247 : ∀ j, j < 6 → M.1 247 j = m1.1 205 j := (facts _ M hY hMe).2.2.2.2.2.1
        have b245 : M.1 245 = m.1 245 := by rw [hMe, stc_c, if_neg (by decide), rf_i_c, if_neg (by decide), rf_i_c, if_neg (by decide), p2 245 (by decide) (by decide) (by decide), fz 245 (by decide)]
        have b246 : M.1 246 = m.1 246 := by rw [hMe, stc_c, if_neg (by decide), rf_i_c, if_neg (by decide), rf_i_c, if_neg (by decide), p2 246 (by decide) (by decide) (by decide), fz 246 (by decide)]
        have c245 : M'.1 245 = va_cpy (m1.1 205) (m.1 245) 0 (6 * R) n := by
          rw [g3, b245]
          funext k
          unfold va_cpy
          by_cases h : 6 * R ≤ k ∧ k < 6 * R + n
          · rw [if_pos h, if_pos h]; exact m247 _ (by omega)
          · rw [if_neg h, if_neg h]
        have c53 : M'.1 53 = va_cpy (m1.1 205) (m.1 53) 0 (6 * R) n := by
          rw [g2 53 (by decide) (by decide) (by decide), hMe, stc_c, if_neg (by decide), rf_i_c, if_neg (by decide), rf_i_c, if_neg (by decide), p3, fz 53 (by decide)]
        have c54 : M'.1 54 = pu (m.1 54) R (Int32.ofNat n) := by
          rw [g2 54 (by decide) (by decide) (by decide), hMe, stc_c, if_neg (by decide), rf_i_c, if_neg (by decide), rf_i_c, if_neg (by decide), p4, fz 54 (by decide)]
        have c246 : M'.1 246 = pu (m.1 246) R (Int32.ofNat n) := by rw [g4, b246]
        refine ⟨decide_eq_true rfl, rfl, ?_, ?_⟩
        · have e1 : M'.1 0 11 = 0 := by rw [M0]; rfl
          have e2 : M'.1 0 12 = m.1 0 12 := by rw [M0]; rfl
          have e3 : M'.1 206 1 = 0 := by rw [M6]; rfl
          have e4 : M'.1 206 2 = -1 := by rw [M6]; rfl
          have o4 : ¬ (0 : Int32) = 4 := by decide
          unfold JT
          rw [e1, e2, e3, e4, n206 3 (by decide) (by decide) (by decide) (by decide), if_neg o4]
          exact ⟨rfl, jt.2.1, rfl⟩
        · obtain ⟨j1, j2, j3, j4, j5, j6, j7, j8, j9, j10, j11, j12, j13⟩ := jn
          have d0 : M'.1 50 0 = m.1 50 0 := by rw [c50]; rfl
          have d1 : M'.1 50 1 = Int32.ofNat (R + 1) := by rw [c50]; rfl
          have d7 : M'.1 50 7 = m.1 50 7 := by rw [c50]; rfl
          unfold JNet
          rw [d0, d1, d7, s65, n206 64 (by decide) (by decide) (by decide) (by decide), n206 16 (by decide) (by decide) (by decide) (by decide), hz 51 (by decide) (by decide) (by decide) (by decide) (by decide) (by decide) (by decide) (by decide) (by decide), hz 52 (by decide) (by decide) (by decide) (by decide) (by decide) (by decide) (by decide) (by decide) (by decide), hz 243 (by decide) (by decide) (by decide) (by decide) (by decide) (by decide) (by decide) (by decide) (by decide), hz 244 (by decide) (by decide) (by decide) (by decide) (by decide) (by decide) (by decide) (by decide) (by decide), hz 217 (by decide) (by decide) (by decide) (by decide) (by decide) (by decide) (by decide) (by decide) (by decide), hz 218 (by decide) (by decide) (by decide) (by decide) (by decide) (by decide) (by decide) (by decide) (by decide), hz 219 (by decide) (by decide) (by decide) (by decide) (by decide) (by decide) (by decide) (by decide) (by decide), c53, c54, c245, c246, j7, j8]
          refine ⟨j1, j2, rfl, ⟨of_nn (by omega), (of_le (b := 12) (by omega) (by omega)).mpr (by omega)⟩, j5, j6, rfl, rfl, j9, j10, fun i => ?_, j12, fun r i hr hi => ?_⟩
          · unfold pu
            by_cases e : i = R
            · rw [if_pos e]; exact ⟨of_nn (by omega), (of_le (b := 6) (by omega) (by omega)).mpr (by omega)⟩
            · rw [if_neg e]; exact j11 i
          · rw [tn_of (by omega)] at hr
            unfold va_cpy
            by_cases e : r = R
            · subst e
              have hi' : i < n := by
                unfold pu at hi; rw [if_pos rfl, tn_of (by omega)] at hi; exact hi
              have hk : 6 * r ≤ 6 * r + i ∧ 6 * r + i < 6 * r + n := by omega
              rw [if_pos hk, show 0 + (6 * r + i - 6 * r) = i by omega]
              exact P1 i hi'
            · rw [pu_ne e] at hi
              have h6 : (m.1 246 r).toNatClampNeg ≤ 6 := tn_le (j11 r).1 (j11 r).2 (by decide)
              have hk : ¬ (6 * R ≤ 6 * r + i ∧ 6 * r + i < 6 * R + n) := by omega
              rw [if_neg hk]
              exact j13 r i (by omega) hi
      · have E12 : m.1 206 65 = 12 := by have := i65.2; clear jn ja; grind
        have hc : g_X11_round_18 w 1 (Int32.ofNat n) (Int32.ofNat n) m1 = g_X11_refused w m1 3 := by
          rw [hend]
          unfold g_X11_round_18_b
          rw [if_pos (Int32.le_refl _), hG]
          simp only [rf_b]
          rw [bi_t G, if_neg o1, e50, if_neg R12]
          rfl
        rw [hc]
        refine ref 3 (by decide) (fun M hM => ?_)
        rw [endR _ M (hYv 3) hM, fin113, bi_t G, if_neg o1, (facts _ M (hYv 3) hM).2.1, if_pos E12]
    · have hc : g_X11_round_18 w 1 (Int32.ofNat n) (Int32.ofNat n) m1 = g_X11_refused w m1 5 := by
        rw [hend]
        unfold g_X11_round_18_b
        rw [if_pos (Int32.le_refl _), hG]
        simp only [rf_b]
        rw [bi_f G, if_pos rfl]
        rfl
      rw [hc]
      refine ref 5 (by decide) (fun M hM => ?_)
      rw [endR _ M (hYv 5) hM, fin113, bi_f G, if_pos rfl]
  · rw [if_neg P1]
    refine ref 1 (by decide) (fun M hM => ?_)
    obtain ⟨a1, a2, a3, a4, a5, a6, a7⟩ := facts _ M (hYv 1) hM
    have hP : ¬ ∀ i, i < rowN (M.1 247) 6 0 → ib (M.1 247 i) (M.1 206 16) := fun h => P1 (fun i hi => by rw [← a1, ← a6 i (by omega)]; exact h i (by rw [a7]; exact hi))
    rw [row_r, if_neg hP]
end PBRoundK
