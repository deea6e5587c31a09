/-! the north is carried on: ranks -/
section PBRank
noncomputable def cnt (P : Nat → Prop) : Nat → Nat
  | 0 => 0
  | n + 1 => cnt P n + @ite Nat (P n) (Classical.propDecidable _) 1 0
theorem cnt_t {P : Nat → Prop} {n : Nat} (h : P n) : cnt P (n + 1) = cnt P n + 1 := congrArg (cnt P n + ·) (if_pos h)
theorem cnt_f {P : Nat → Prop} {n : Nat} (h : ¬ P n) : cnt P (n + 1) = cnt P n := (congrArg (cnt P n + ·) (if_neg h)).trans (Nat.add_zero _)
theorem cnt_le {P : Nat → Prop} : ∀ n, cnt P n ≤ n := by
  intro n
  induction n with
  | zero => exact Nat.le_refl _
  | succ n ih =>
    by_cases h : P n
    · rw [cnt_t h]; omega
    · rw [cnt_f h]; omega
theorem cnt_mono {P Q : Nat → Prop} : ∀ n, (∀ i, i < n → P i → Q i) → cnt P n ≤ cnt Q n := by
  intro n
  induction n with
  | zero => intro _; exact Nat.le_refl _
  | succ n ih =>
    intro h
    have := ih (fun i hi => h i (by omega))
    by_cases p : P n
    · rw [cnt_t p, cnt_t (h n (by omega) p)]; omega
    · rw [cnt_f p]
      by_cases q : Q n
      · rw [cnt_t q]; omega
      · rw [cnt_f q]; exact this
theorem cnt_lt {P Q : Nat → Prop} : ∀ n, (∀ i, i < n → P i → Q i) → (∃ j, j < n ∧ Q j ∧ ¬ P j) → cnt P n < cnt Q n := by
  intro n
  induction n with
  | zero => intro _ ⟨j, h, _⟩; omega
  | succ n ih =>
    intro h ⟨j, hj, q, np⟩
    by_cases e : j = n
    · subst e
      rw [cnt_f np, cnt_t q]
      have := cnt_mono j (fun i hi => h i (by omega))
      omega
    · have := ih (fun i hi => h i (by omega)) ⟨j, by omega, q, np⟩
      by_cases p : P n
      · rw [cnt_t p, cnt_t (h n (by omega) p)]; omega
      · rw [cnt_f p]
        by_cases q : Q n
        · rw [cnt_t q]; omega
        · rw [cnt_f q]; exact this
theorem cnt_congr {P Q : Nat → Prop} {n : Nat} (h : ∀ i, i < n → (P i ↔ Q i)) : cnt P n = cnt Q n := Nat.le_antisymm (cnt_mono n (fun i hi => (h i hi).mp)) (cnt_mono n (fun i hi => (h i hi).mpr))
/-- the class's ranks -/
theorem rank_c {w : rf_w} {M : rf_m} {N : Nat} (h11 : M.1 193 11 = Int32.ofNat N) (hN : N ≤ 160) (hL : ∀ i, i < N → ∃ p, p < 900 ∧ M.1 201 i = Int32.ofNat p) : ∃ M', g_X10_rankLayer w M = some M' ∧ (∀ z, z ≠ 199 → M'.1 z = M.1 z) ∧ M'.2 = M.2 ∧ ∀ i p, i < N → M.1 201 i = Int32.ofNat p → p < 900 → M'.1 199 p = Int32.ofNat (cnt (fun j => M.1 200 (M.1 201 j).toNatClampNeg < M.1 200 p) N) := by
  have inner : ∀ (rec2 : Int32 → rf_m → Option rf_m) (M1 : rf_m), (∀ z, z ≠ 199 → M1.1 z = M.1 z) → ∀ i p, i < N → p < 900 → M.1 201 i = Int32.ofNat p → ∀ k F j, j + k = N → k < F → g_X10_rankLayer_14 w rec2 F (Int32.ofNat i) (Int32.ofNat (cnt (fun j => M.1 200 (M.1 201 j).toNatClampNeg < M.1 200 p) j)) (Int32.ofNat j) M1 = rec2 (Int32.ofNat (i + 1)) (rf_i M1 199 p (Int32.ofNat (cnt (fun j => M.1 200 (M.1 201 j).toNatClampNeg < M.1 200 p) N))) := by
    intro rec2 M1 hc i p hi hp hpi k
    induction k with
    | zero =>
      intro F j hj hF
      obtain ⟨F, rfl⟩ : ∃ g, F = g + 1 := ⟨F - 1, by omega⟩
      show g_X10_rankLayer_14_b w _ _ _ _ _ M1 = _
      unfold g_X10_rankLayer_14_b
      rw [hc 193 (by decide), h11, show j = N by omega, if_pos (Int32.le_refl _), gof (by omega) (by decide), g_t, tn_of (by omega), hc 201 (by decide), hpi, gof hp (by decide), g_t, tn_of (by omega), of_succ]
    | succ k ih =>
      intro F j hj hF
      obtain ⟨F, rfl⟩ : ∃ g, F = g + 1 := ⟨F - 1, by omega⟩
      obtain ⟨q, hq, hqj⟩ := hL j (by omega)
      have nx := ih F (j + 1) (by omega) (by omega)
      show g_X10_rankLayer_14_b w rec2 (g_X10_rankLayer_14 w rec2 F) _ _ _ M1 = _
      unfold g_X10_rankLayer_14_b g_X10_rankLayer_50
      rw [hc 193 (by decide), h11, if_neg (nle (by omega) (by omega)), gof (show j < 160 by omega) (by decide), gof (show i < 160 by omega) (by decide), tn_of (show j < 2147483648 by omega), tn_of (show i < 2147483648 by omega), hc 201 (by decide), hc 200 (by decide), hpi, hqj, gof hq (by decide), gof hp (by decide), tn_of (show q < 2147483648 by omega), tn_of (show p < 2147483648 by omega)]
      simp only [g_t]
      have e : (M.1 200 (M.1 201 j).toNatClampNeg < M.1 200 p) ↔ M.1 200 q < M.1 200 p := by rw [hqj, tn_of (by omega)]
      by_cases z : M.1 200 q < M.1 200 p
      · rw [if_neg (fun y => by rw [i_lt] at z; rw [i_le] at y; omega), of_succ, of_succ, ← nx, cnt_t (e.mpr z)]
      · rw [if_pos (by rw [i_lt] at z; rw [i_le]; omega), of_succ, ← nx, cnt_f (fun y => z (e.mp y))]
  have outer : ∀ k F i (M1 : rf_m), i + k = N → k < F → (∀ z, z ≠ 199 → M1.1 z = M.1 z) → M1.2 = M.2 → (∀ i' p, i' < i → M.1 201 i' = Int32.ofNat p → p < 900 → M1.1 199 p = Int32.ofNat (cnt (fun j => M.1 200 (M.1 201 j).toNatClampNeg < M.1 200 p) N)) → ∃ M', g_X10_rankLayer_2 w F (Int32.ofNat i) M1 = some M' ∧ (∀ z, z ≠ 199 → M'.1 z = M.1 z) ∧ M'.2 = M.2 ∧ ∀ i p, i < N → M.1 201 i = Int32.ofNat p → p < 900 → M'.1 199 p = Int32.ofNat (cnt (fun j => M.1 200 (M.1 201 j).toNatClampNeg < M.1 200 p) N) := by
    intro k
    induction k with
    | zero =>
      intro F i M1 hi hF hc h2 hr
      obtain ⟨F, rfl⟩ : ∃ g, F = g + 1 := ⟨F - 1, by omega⟩
      refine ⟨M1, ?_, hc, h2, fun i' p h' => hr i' p (by omega)⟩
      show g_X10_rankLayer_2_b w _ _ M1 = _
      unfold g_X10_rankLayer_2_b
      rw [hc 193 (by decide), h11, show i = N by omega, if_pos (Int32.le_refl _)]
    | succ k ih =>
      intro F i M1 hi hF hc h2 hr
      obtain ⟨F, rfl⟩ : ∃ g, F = g + 1 := ⟨F - 1, by omega⟩
      obtain ⟨p, hp, hpi⟩ := hL i (by omega)
      have := inner (g_X10_rankLayer_2 w F) M1 hc i p (by omega) hp hpi N rf_fuel 0 (by omega) (by unfold rf_fuel; omega)
      show ∃ M', g_X10_rankLayer_2_b w (g_X10_rankLayer_2 w F) _ M1 = _ ∧ _
      unfold g_X10_rankLayer_2_b
      rw [hc 193 (by decide), h11, if_neg (nle (by omega) (by omega))]
      rw [show g_X10_rankLayer_14 w (g_X10_rankLayer_2 w F) rf_fuel (Int32.ofNat i) 0 0 M1 = _ from this]
      refine ih F (i + 1) _ (by omega) (by omega) (fun z hz => by rw [rf_i_c, if_neg hz]; exact hc z hz) h2 (fun i' p' h' hp' h9 => ?_)
      rw [rf_i_c, if_pos rfl]
      by_cases e : p' = p
      · subst e; rw [pu_at]
      · rw [pu_ne e]
        by_cases e2 : i' = i
        · subst e2
          rw [hpi] at hp'
          exact absurd ((of_inj (by omega) (by omega)).mp hp').symm e
        · exact hr i' p' (by omega) hp' h9
  exact outer N rf_fuel 0 M (by omega) (by unfold rf_fuel; omega) (fun _ _ => rfl) rfl (fun i' p h => absurd h (by omega))
/-- an offer of the reference is ahead of another -/
def lessQ (M : rf_m) (p q : Nat) : Prop := M.1 296 q ≠ -1 ∧ (M.1 295 q < M.1 295 p ∨ (M.1 295 q = M.1 295 p ∧ M.1 296 q < M.1 296 p))
/-- both ways of a sight -/
def rT (B M : rf_m) (st : Int32) (x y : Nat) : Prop := M.1 293 (30 * x + y) = st ∧ M.1 293 (30 * y + x) = st ∧ M.1 294 (30 * x + y) = Int32.ofNat (cnt (lessQ B (30 * x + y)) 900) ∧ M.1 294 (30 * y + x) = Int32.ofNat (cnt (lessQ B (30 * x + y)) 900) ∧ M.1 292 (30 * x + y) = B.1 297 (30 * x + y) ∧ M.1 292 (30 * y + x) = hlf (B.1 297 (30 * x + y))
theorem hlf_d {v : Int32} : rnd (v + 6480000) = hlf v := rfl
theorem tells_r {w : rf_w} {M : rf_m} {x y : Nat} {st r v : Int32} (hx : x < 30) (hy : y < 30) : g_X14_tells w M (Int32.ofNat x) (Int32.ofNat y) st r v = some (rf_i (rf_i (rf_i (rf_i (rf_i (rf_i M 293 (30 * x + y) st) 293 (30 * y + x) st) 294 (30 * x + y) r) 294 (30 * y + x) r) 292 (30 * x + y) v) 292 (30 * y + x) (hlf v)) := by
  unfold g_X14_tells
  rw [o30' hx hy, o30' hy hx, gof (show 30 * x + y < 900 by omega) (by decide), gof (show 30 * y + x < 900 by omega) (by decide), tn_of (show 30 * x + y < 2147483648 by omega), tn_of (show 30 * y + x < 2147483648 by omega)]
  rw [g_t, g_t, g_t, g_t, g_t, rounded_r, hlf_d]
  show rf_g true _ = _
  rw [g_t]
/-- what stands when those ahead of (X, Y) are done -/
def dnR (M : rf_m) (K : Nat) (st : Int32) (M1 : rf_m) (s : Int32) (X Y : Nat) : Prop := (∀ z, z ≠ 292 → z ≠ 293 → z ≠ 294 → M1.1 z = M.1 z) ∧ M1.2 = M.2 ∧ (∀ x y, x < y → y < K → (x < X ∨ (x = X ∧ y < Y)) → M.1 296 (30 * x + y) ≠ -1 → rT M M1 st x y) ∧ (∀ x y, x < y → y < K → M.1 296 (30 * x + y) = -1 → ∀ z, z = 292 ∨ z = 293 ∨ z = 294 → M1.1 z (30 * x + y) = M.1 z (30 * x + y) ∧ M1.1 z (30 * y + x) = M.1 z (30 * y + x)) ∧ s = bi (∃ x y, x < y ∧ y < K ∧ (x < X ∨ (x = X ∧ y < Y)) ∧ M.1 296 (30 * x + y) ≠ -1)
/-- the reference's ranks -/
theorem rank_r {w : rf_w} {M : rf_m} {K : Nat} {rec159 : Int32 → Int32 → rf_m → Option rf_m} {dd : Int32} (hK : M.1 206 4 = Int32.ofNat K) (hK30 : K ≤ 30) : ∃ M', g_X14_norths_381 w rec159 rf_fuel 0 dd 0 M = rec159 (bi (∃ x y, x < y ∧ y < K ∧ M.1 296 (30 * x + y) ≠ -1)) (dd + 1) M' ∧ (∀ z, z ≠ 292 → z ≠ 293 → z ≠ 294 → M'.1 z = M.1 z) ∧ M'.2 = M.2 ∧ (∀ x y, x < y → y < K → M.1 296 (30 * x + y) ≠ -1 → rT M M' (dd + 1) x y) ∧ (∀ x y, x < y → y < K → M.1 296 (30 * x + y) = -1 → ∀ z, z = 292 ∨ z = 293 ∨ z = 294 → M'.1 z (30 * x + y) = M.1 z (30 * x + y) ∧ M'.1 z (30 * y + x) = M.1 z (30 * y + x)) := by
  have o1 : ¬ (1 : Int32) = 0 := by decide
  -- counting
  have cn : ∀ (rec381 : Int32 → Int32 → Int32 → rf_m → Option rf_m) (rec394 : Int32 → Int32 → Int32 → Int32 → rf_m → Option rf_m) (M1 : rf_m) p x3 a3 a4, p < 900 → (∀ z, z ≠ 292 → z ≠ 293 → z ≠ 294 → M1.1 z = M.1 z) → ∀ k F j, j + k = 900 → k < F → g_X14_norths_434 w rec159 rec381 rec394 F x3 dd a3 a4 (Int32.ofNat p) (Int32.ofNat (cnt (lessQ M p) j)) (Int32.ofNat j) M1 = rf_bv (g_X14_tells w M1 a3 a4 (dd + 1) (Int32.ofNat (cnt (lessQ M p) 900)) (M.1 297 p)) (fun m1 => rec394 x3 dd a3 (a4 + 1) m1) := by
    intro rec381 rec394 M1 p x3 a3 a4 hp hc k
    induction k with
    | zero =>
      intro F j hj hF
      obtain ⟨F, rfl⟩ : ∃ g, F = g + 1 := ⟨F - 1, by omega⟩
      show g_X14_norths_434_b w _ _ _ _ _ _ _ _ _ _ _ M1 = _
      unfold g_X14_norths_434_b g_X14_norths_539
      rw [show j = 900 by omega, if_pos (by decide), gof hp (by decide), g_t, tn_of (by omega), hc 297 (by decide) (by decide) (by decide)]
    | succ k ih =>
      intro F j hj hF
      obtain ⟨F, rfl⟩ : ∃ g, F = g + 1 := ⟨F - 1, by omega⟩
      have nx := ih F (j + 1) (by omega) (by omega)
      show g_X14_norths_434_b w rec159 rec381 rec394 (g_X14_norths_434 w rec159 rec381 rec394 F) _ _ _ _ _ _ _ M1 = _
      unfold g_X14_norths_434_b g_X14_norths_510 g_X14_norths_506 g_X14_norths_511
      have hnl : ¬ (900 : Int32) ≤ Int32.ofNat j := nle (R := 900) (by omega) (by omega)
      rw [if_neg hnl, gof (show j < 900 by omega) (by decide), gof hp (by decide), tn_of (show j < 2147483648 by omega), tn_of (show p < 2147483648 by omega), hc 296 (by decide) (by decide) (by decide), hc 295 (by decide) (by decide) (by decide), of_succ]
      simp only [g_t]
      have yes : lessQ M p j → g_X14_norths_434 w rec159 rec381 rec394 F x3 dd a3 a4 (Int32.ofNat p) (Int32.ofNat (cnt (lessQ M p) j) + 1) (Int32.ofNat (j + 1)) M1 = rf_bv (g_X14_tells w M1 a3 a4 (dd + 1) (Int32.ofNat (cnt (lessQ M p) 900)) (M.1 297 p)) (fun m1 => rec394 x3 dd a3 (a4 + 1) m1) := fun h => by
        rw [cnt_t h] at nx; rw [of_succ]; exact nx
      have no : ¬ lessQ M p j → g_X14_norths_434 w rec159 rec381 rec394 F x3 dd a3 a4 (Int32.ofNat p) (Int32.ofNat (cnt (lessQ M p) j) + 0) (Int32.ofNat (j + 1)) M1 = rf_bv (g_X14_tells w M1 a3 a4 (dd + 1) (Int32.ofNat (cnt (lessQ M p) 900)) (M.1 297 p)) (fun m1 => rec394 x3 dd a3 (a4 + 1) m1) := fun h => by
        rw [cnt_f h] at nx; rw [Int32.add_zero]; exact nx
      by_cases z1 : M.1 296 j = -1
      · rw [if_pos z1]; exact no (fun h => h.1 z1)
      · rw [if_neg z1]
        by_cases z2 : M.1 295 j < M.1 295 p
        · rw [if_pos z2]; exact yes ⟨z1, Or.inl z2⟩
        · rw [if_neg z2]
          by_cases z3 : M.1 295 j = M.1 295 p
          · rw [if_pos z3]
            by_cases z4 : M.1 296 p ≤ M.1 296 j
            · rw [if_pos z4]
              refine no (fun h => ?_)
              rcases h.2 with h | h
              · exact z2 h
              · have := h.2; rw [i_lt] at this; rw [i_le] at z4; omega
            · rw [if_neg z4]
              exact yes ⟨z1, Or.inr ⟨z3, by rw [i_lt]; rw [i_le] at z4; omega⟩⟩
          · rw [if_neg z3]
            refine no (fun h => ?_)
            rcases h.2 with h | h
            · exact z2 h
            · exact z3 h.1
  have row : ∀ (rec381 : Int32 → Int32 → Int32 → rf_m → Option rf_m) X, X < K → ∀ k F Y (M1 : rf_m) s, Y + k = K → k < F → X < Y → dnR M K (dd + 1) M1 s X Y → ∃ M' s', g_X14_norths_394 w rec159 rec381 F s dd (Int32.ofNat X) (Int32.ofNat Y) M1 = rec381 s' dd (Int32.ofNat (X + 1)) M' ∧ dnR M K (dd + 1) M' s' (X + 1) 0 := by
    intro rec381 X hX k
    induction k with
    | zero =>
      intro F Y M1 s hY hF hXY hd
      obtain ⟨F, rfl⟩ : ∃ g, F = g + 1 := ⟨F - 1, by omega⟩
      refine ⟨M1, s, ?_, ?_⟩
      · show g_X14_norths_394_b w _ _ _ _ _ _ _ M1 = _
        unfold g_X14_norths_394_b
        rw [hd.1 206 (by decide) (by decide) (by decide), hK, show Y = K by omega, if_pos (Int32.le_refl _), of_succ]
      · obtain ⟨h1, h2, h3, h4, h5⟩ := hd
        refine ⟨h1, h2, fun x y a b c => h3 x y a b (by omega), h4, ?_⟩
        rw [h5]
        refine bi_congr ⟨fun ⟨x, y, a, b, c, e⟩ => ⟨x, y, a, b, by omega, e⟩, fun ⟨x, y, a, b, c, e⟩ => ⟨x, y, a, b, by omega, e⟩⟩
    | succ k ih =>
      intro F Y M1 s hY hF hXY hd
      obtain ⟨F, rfl⟩ : ∃ g, F = g + 1 := ⟨F - 1, by omega⟩
      obtain ⟨h1, h2, h3, h4, h5⟩ := hd
      show ∃ M' s', g_X14_norths_394_b w rec159 rec381 (g_X14_norths_394 w rec159 rec381 F) _ _ _ _ M1 = _ ∧ _
      unfold g_X14_norths_394_b g_X14_norths_539
      rw [h1 206 (by decide) (by decide) (by decide), hK, if_neg (nle (by omega) (by omega)), o30' (show X < 30 by omega) (show Y < 30 by omega), gof (show 30 * X + Y < 900 by omega) (by decide), g_t, tn_of (show 30 * X + Y < 2147483648 by omega), h1 296 (by decide) (by decide) (by decide)]
      by_cases z : M.1 296 (30 * X + Y) = -1
      · rw [if_pos z, of_succ]
        refine ih F (Y + 1) M1 s (by omega) (by omega) (by omega) ⟨h1, h2, fun x y a b c e => ?_, h4, ?_⟩
        · by_cases q : x = X ∧ y = Y
          · obtain ⟨rfl, rfl⟩ := q; exact absurd z e
          · exact h3 x y a b (by omega) e
        · rw [h5]
          refine bi_congr ⟨fun ⟨x, y, a, b, c, e⟩ => ⟨x, y, a, b, by omega, e⟩, fun ⟨x, y, a, b, c, e⟩ => ?_⟩
          by_cases q : x = X ∧ y = Y
          · obtain ⟨rfl, rfl⟩ := q; exact absurd z e
          · exact ⟨x, y, a, b, by omega, e⟩
      · rw [if_neg z]
        have c1 := cn rec381 (g_X14_norths_394 w rec159 rec381 F) M1 (30 * X + Y) 1 (Int32.ofNat X) (Int32.ofNat Y) (by omega) h1 900 rf_fuel 0 (by omega) (by unfold rf_fuel; omega)
        rw [show g_X14_norths_434 w rec159 rec381 (g_X14_norths_394 w rec159 rec381 F) rf_fuel 1 dd (Int32.ofNat X) (Int32.ofNat Y) (Int32.ofNat (30 * X + Y)) 0 0 M1 = _ from c1, tells_r (by omega) (by omega)]
        simp only [rf_bv]
        rw [of_succ]
        generalize hM2 : rf_i (rf_i (rf_i (rf_i (rf_i (rf_i M1 293 (30 * X + Y) (dd + 1)) 293 (30 * Y + X) (dd + 1)) 294 (30 * X + Y) (Int32.ofNat (cnt (lessQ M (30 * X + Y)) 900))) 294 (30 * Y + X) (Int32.ofNat (cnt (lessQ M (30 * X + Y)) 900))) 292 (30 * X + Y) (M.1 297 (30 * X + Y))) 292 (30 * Y + X) (hlf (M.1 297 (30 * X + Y))) = M2
        have g293 : M2.1 293 = pu (pu (M1.1 293) (30 * X + Y) (dd + 1)) (30 * Y + X) (dd + 1) := by rw [← hM2, rf_i_c, if_neg (by decide), rf_i_c, if_neg (by decide), rf_i_c, if_neg (by decide), rf_i_c, if_neg (by decide), rf_i_c, if_pos rfl, rf_i_c, if_pos rfl]
        have g294 : M2.1 294 = pu (pu (M1.1 294) (30 * X + Y) (Int32.ofNat (cnt (lessQ M (30 * X + Y)) 900))) (30 * Y + X) (Int32.ofNat (cnt (lessQ M (30 * X + Y)) 900)) := by rw [← hM2, rf_i_c, if_neg (by decide), rf_i_c, if_neg (by decide), rf_i_c, if_pos rfl, rf_i_c, if_pos rfl, rf_i_c, if_neg (by decide), rf_i_c, if_neg (by decide)]
        have g292 : M2.1 292 = pu (pu (M1.1 292) (30 * X + Y) (M.1 297 (30 * X + Y))) (30 * Y + X) (hlf (M.1 297 (30 * X + Y))) := by rw [← hM2, rf_i_c, if_pos rfl, rf_i_c, if_pos rfl, rf_i_c, if_neg (by decide), rf_i_c, if_neg (by decide), rf_i_c, if_neg (by decide), rf_i_c, if_neg (by decide)]
        have g0 : ∀ z, z ≠ 292 → z ≠ 293 → z ≠ 294 → M2.1 z = M1.1 z := fun z c1 c2 c3 => by rw [← hM2, rf_i_c, if_neg c1, rf_i_c, if_neg c1, rf_i_c, if_neg c3, rf_i_c, if_neg c3, rf_i_c, if_neg c2, rf_i_c, if_neg c2]
        refine ih F (Y + 1) M2 1 (by omega) (by omega) (by omega) ⟨fun z c1 c2 c3 => by rw [g0 z c1 c2 c3]; exact h1 z c1 c2 c3, by rw [← hM2]; exact h2, fun x y a b c e => ?_, fun x y a b e z' hz => ?_, ?_⟩
        · by_cases q : x = X ∧ y = Y
          · obtain ⟨rfl, rfl⟩ := q
            unfold rT
            have p1 : ∀ (f : Nat → Int32) v1 v2, pu (pu f (30 * x + y) v1) (30 * y + x) v2 (30 * x + y) = v1 := fun f v1 v2 => by rw [pu_ne (show 30 * x + y ≠ 30 * y + x by omega), pu_at]
            have p2 : ∀ (f : Nat → Int32) v1 v2, pu (pu f (30 * x + y) v1) (30 * y + x) v2 (30 * y + x) = v2 := fun f v1 v2 => by rw [pu_at]
            rw [g293, g294, g292]
            exact ⟨p1 _ _ _, p2 _ _ _, p1 _ _ _, p2 _ _ _, p1 _ _ _, p2 _ _ _⟩
          · have := h3 x y a b (by omega) e
            unfold rT at this ⊢
            rw [g293, g294, g292, pu_ne (show 30 * x + y ≠ 30 * Y + X by omega), pu_ne (show 30 * x + y ≠ 30 * X + Y by omega), pu_ne (show 30 * y + x ≠ 30 * Y + X by omega), pu_ne (show 30 * y + x ≠ 30 * X + Y by omega), pu_ne (show 30 * x + y ≠ 30 * Y + X by omega), pu_ne (show 30 * x + y ≠ 30 * X + Y by omega), pu_ne (show 30 * y + x ≠ 30 * Y + X by omega), pu_ne (show 30 * y + x ≠ 30 * X + Y by omega), pu_ne (show 30 * x + y ≠ 30 * Y + X by omega), pu_ne (show 30 * x + y ≠ 30 * X + Y by omega), pu_ne (show 30 * y + x ≠ 30 * Y + X by omega), pu_ne (show 30 * y + x ≠ 30 * X + Y by omega)]
            exact this
        · have q : ¬ (x = X ∧ y = Y) := fun q => by obtain ⟨rfl, rfl⟩ := q; exact z e
          have := h4 x y a b e z' hz
          rcases hz with rfl | rfl | rfl
          · rw [g292, pu_ne (show 30 * x + y ≠ 30 * Y + X by omega), pu_ne (show 30 * x + y ≠ 30 * X + Y by omega), pu_ne (show 30 * y + x ≠ 30 * Y + X by omega), pu_ne (show 30 * y + x ≠ 30 * X + Y by omega)]; exact this
          · rw [g293, pu_ne (show 30 * x + y ≠ 30 * Y + X by omega), pu_ne (show 30 * x + y ≠ 30 * X + Y by omega), pu_ne (show 30 * y + x ≠ 30 * Y + X by omega), pu_ne (show 30 * y + x ≠ 30 * X + Y by omega)]; exact this
          · rw [g294, pu_ne (show 30 * x + y ≠ 30 * Y + X by omega), pu_ne (show 30 * x + y ≠ 30 * X + Y by omega), pu_ne (show 30 * y + x ≠ 30 * Y + X by omega), pu_ne (show 30 * y + x ≠ 30 * X + Y by omega)]; exact this
        · exact (bi_t ⟨X, Y, hXY, by omega, by omega, z⟩).symm
  have col : ∀ k F X (M1 : rf_m) s, X + k = K → k < F → dnR M K (dd + 1) M1 s X 0 → ∃ M' s', g_X14_norths_381 w rec159 F s dd (Int32.ofNat X) M1 = rec159 s' (dd + 1) M' ∧ dnR M K (dd + 1) M' s' K 0 := by
    intro k
    induction k with
    | zero =>
      intro F X M1 s hX hF hd
      obtain ⟨F, rfl⟩ : ∃ g, F = g + 1 := ⟨F - 1, by omega⟩
      have e : X = K := by omega
      subst e
      refine ⟨M1, s, ?_, hd⟩
      show g_X14_norths_381_b w _ _ _ _ _ M1 = _
      unfold g_X14_norths_381_b
      rw [hd.1 206 (by decide) (by decide) (by decide), hK, if_pos (Int32.le_refl _)]
    | succ k ih =>
      intro F X M1 s hX hF hd
      obtain ⟨F, rfl⟩ : ∃ g, F = g + 1 := ⟨F - 1, by omega⟩
      show ∃ M' s', g_X14_norths_381_b w rec159 (g_X14_norths_381 w rec159 F) _ _ _ M1 = _ ∧ _
      unfold g_X14_norths_381_b
      rw [hd.1 206 (by decide) (by decide) (by decide), hK, if_neg (nle (by omega) (by omega)), of_succ]
      have hd' : dnR M K (dd + 1) M1 s X (X + 1) := by
        obtain ⟨h1, h2, h3, h4, h5⟩ := hd
        refine ⟨h1, h2, fun x y a b c => h3 x y a b (by omega), h4, ?_⟩
        rw [h5]
        exact bi_congr ⟨fun ⟨x, y, a, b, c, e⟩ => ⟨x, y, a, b, by omega, e⟩, fun ⟨x, y, a, b, c, e⟩ => ⟨x, y, a, b, by omega, e⟩⟩
      obtain ⟨M2, s2, e1, e2⟩ := row (g_X14_norths_381 w rec159 F) X (by omega) (K - (X + 1)) rf_fuel (X + 1) M1 s (by omega) (by unfold rf_fuel; omega) (by omega) hd'
      rw [e1]
      exact ih F (X + 1) M2 s2 (by omega) (by omega) e2
  obtain ⟨M', s', e1, e2⟩ := col K rf_fuel 0 M 0 (by omega) (by unfold rf_fuel; omega) ⟨fun _ _ _ _ => rfl, rfl, fun x y a b c => absurd c (by omega), fun x y a b e z hz => ⟨rfl, rfl⟩, (bi_f (fun ⟨x, y, a, b, c, e⟩ => absurd c (by omega))).symm⟩
  obtain ⟨h1, h2, h3, h4, h5⟩ := e2
  refine ⟨M', ?_, h1, h2, fun x y a b e => h3 x y a b (by omega) e, h4⟩
  rw [show g_X14_norths_381 w rec159 rf_fuel 0 dd 0 M = _ from e1, h5]
  congr 1
  exact bi_congr ⟨fun ⟨x, y, a, b, c, e⟩ => ⟨x, y, a, b, e⟩, fun ⟨x, y, a, b, e⟩ => ⟨x, y, a, b, by omega, e⟩⟩
end PBRank
