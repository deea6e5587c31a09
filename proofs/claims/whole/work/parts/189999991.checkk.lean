/-! check: both sides -/
section PBCheckK
theorem fin_s {cc : Nat} {w : rf_w} {m M : rf_m} (J : JCnt cc w m) (jc : JCache w m) (e : ∀ z, z ≠ 0 → (z < 41 ∨ z = 209 ∨ z = 214 ∨ (216 ≤ z ∧ z ≤ 225) ∨ (230 ≤ z ∧ z ≤ 232) ∨ 306 ≤ z) → M.1 z = m.1 z) (e6 : ∀ k, k = 4 ∨ k = 5 ∨ k = 16 ∨ k = 17 ∨ k = 18 ∨ k = 39 → M.1 206 k = m.1 206 k) : JCnt cc w M ∧ JCache w M := by
  have hk : keep m M := ⟨fun c hc => e c (by omega) (by omega), fun k _ => by rw [e 26 (by decide) (by decide)], e6, fun _ _ _ _ => by rw [e 32 (by decide) (by decide)], fun _ _ => by rw [e 34 (by decide) (by decide)]⟩
  refine ⟨keep_cnt hk J, keep_cache hk J (fun a ha hz => ?_) (fun hz a ha => ?_)⟩
  · rw [e 40 (by decide) (by decide)] at hz
    exact fre_of (jc.1 a ha hz) (e 31 (by decide) (by decide)) (e 32 (by decide) (by decide)) (e 34 (by decide) (by decide))
  · rw [e 26 (by decide) (by decide)] at hz
    rw [e 40 (by decide) (by decide)]
    exact jc.2 hz a ha
def abP (w : rf_w) (m : rf_m) (t : Nat) : Prop := ∀ i, i < 3 → carP w m (m.1 243 (3 * t + i)).toNatClampNeg
/-- the class's rows and what it counted -/
def clA (w : rf_w) (m X : rf_m) : Prop := X.1 51 = m.1 243 ∧ X.1 52 = m.1 244 ∧ X.1 29 = m.1 218 ∧ X.1 30 = m.1 219 ∧ ∀ a, a < (m.1 206 16).toNatClampNeg → tal w m X 9999 a
theorem clA_of {w : rf_w} {m m2 : rf_m} (jn : JNet m) (ja : JAng m) (h : allF w m m2) : clA w m m2 := ⟨by rw [all_c h 51 (by omega)]; exact jn.2.2.2.2.1, by rw [all_c h 52 (by omega)]; exact jn.2.2.2.2.2.1, by rw [all_c h 29 (by omega)]; exact ja.2.2.2.1, by rw [all_c h 30 (by omega)]; exact ja.2.2.2.2.1, fun a ha => (h.2.2.2.2.2 a ha).2.1⟩
theorem clA_e {w : rf_w} {m X Y : rf_m} (h : clA w m X) (e : ∀ z, z = 29 ∨ z = 30 ∨ z = 31 ∨ z = 34 ∨ z = 51 ∨ z = 52 → Y.1 z = X.1 z) : clA w m Y := by
  obtain ⟨h1, h2, h3, h4, h5⟩ := h
  refine ⟨by rw [e 51 (by omega)]; exact h1, by rw [e 52 (by omega)]; exact h2, by rw [e 29 (by omega)]; exact h3, by rw [e 30 (by omega)]; exact h4, fun a ha => ?_⟩
  have := h5 a ha
  unfold tal at this ⊢
  rw [e 31 (by omega), e 34 (by omega)]
  exact this
theorem clA_g {w : rf_w} {m X : rf_m} (h : clA w m X) : cAg m X := ⟨h.1, h.2.2.1, h.2.2.2.1⟩
theorem tm_c2 {c t : Nat} {w : rf_w} {m X : rf_m} (J : JCnt c w m) (jn : JNet m) (h : clA w m X) (ht : t < (m.1 206 64).toNatClampNeg) : g_X7_triangleMiss__31 w X (Int32.ofNat t) = some (tmV w m t, X) := by
  have n30 := (net30 jn).1
  have h80 := ang80 J.2.2.2.2.1
  obtain ⟨e51, e52, _, _, hT⟩ := h
  have := sl51 (w := w) (m1 := X) (f := tmF w m t) (b := 3 * t) (s := 3) (q := 6480000 + m.1 244 t) (by omega) (fun i hi => by
    rw [e51]
    obtain ⟨q1, q2⟩ := net_t jn J.2.2.2.2.1 ht hi
    exact ⟨q1, (hT _ q2).1⟩) (fun i hi => mean_rng J (by have := (net_t jn J.2.2.2.2.1 ht hi).2; omega))
  unfold g_X7_triangleMiss__31
  have e3 : Int32.ofNat t * 3 = Int32.ofNat (3 * t) := by rw [Nat.mul_comm, Int32.ofNat_mul]; rfl
  rw [gof (by omega) (by decide), g_t, tn_of (by omega), e52, e3]
  have this' : g_X7_sumLess__51_31 w X (Int32.ofNat (3 * t)) 3 (6480000 + m.1 244 t) = _ := this
  rw [this']
  unfold tmV
  rw [show (-6480000 : Int32) - m.1 244 t = 0 - (6480000 + m.1 244 t) by grind]
  rfl
theorem wl_c2 {c t : Nat} {w : rf_w} {m X : rf_m} {L : Int32} (J : JCnt c w m) (jn : JNet m) (h : clA w m X) (ht : t < (m.1 206 64).toNatClampNeg) : g_X7_isWell w X (Int32.ofNat t) L = some (wlI (tmF w m t) L 3 0, X) := by
  have n30 := (net30 jn).1
  have h80 := ang80 J.2.2.2.2.1
  obtain ⟨e51, e52, _, _, hT⟩ := h
  exact wl_c (w := w) (m1 := X) (f := tmF w m t) (t := t) (L := L) (by omega) (fun i hi => by
    rw [e51]
    obtain ⟨q1, q2⟩ := net_t jn J.2.2.2.2.1 ht hi
    exact ⟨q1, (hT _ q2).1⟩) (fun i hi => mean_rng J (by have := (net_t jn J.2.2.2.2.1 ht hi).2; omega))
theorem tly_c {w : rf_w} {X : rf_m} {a : Int32} {k : Nat} (ha : ib a 80) (hk : k < 9) (h0 : k ≠ 0) : g_X3_tallyOf w X a (Int32.ofNat k) = some (X.1 34 (9 * a.toNatClampNeg + k), X) := by
  have h80 : a.toNatClampNeg < 80 := tn_lt ha.1 ha.2 (by decide)
  have e : a * 9 + Int32.ofNat k = Int32.ofNat (9 * a.toNatClampNeg + k) := by
    have := nine (n := a.toNatClampNeg) (k := k) (by omega) hk
    rw [of_tn ha.1] at this
    exact this
  have n0 : ¬ Int32.ofNat k = 0 := fun q => h0 ((of_inj (b := 0) (by omega) (by omega)).mp q)
  unfold g_X3_tallyOf
  rw [if_neg n0, e, gof (by omega) (by decide), g_t, tn_of (by omega)]
theorem car_c {w : rf_w} {m : rf_m} {a : Nat} : carP w m a ↔ ¬ loV w m 9999 a < 36000 ∧ hiV w m 9999 a ≤ 6444000 := by
  unfold carP
  constructor
  · rintro ⟨_, h2, h3⟩
    exact ⟨by grind, h3⟩
  · rintro ⟨h2, h3⟩
    refine ⟨fun q => h2 ?_, by grind, h3⟩
    unfold loV
    rw [if_pos q]
    decide
theorem able_c {t : Nat} {w : rf_w} {m X : rf_m} (ja : JAng m) (jn : JNet m) (h : clA w m X) (ht : t < (m.1 206 64).toNatClampNeg) : g_X4_isAble w X (Int32.ofNat t) = some (bi (abP w m t), X) := by
  have n30 := (net30 jn).1
  obtain ⟨e51, _, _, _, hT⟩ := h
  have key : ∀ n f i, i + n = 3 → n < f → (∀ j, j < i → carP w m (m.1 243 (3 * t + j)).toNatClampNeg) → g_X4_isAble_2 w f (Int32.ofNat t) (Int32.ofNat i) X = some (bi (abP w m t), X) := by
    intro n
    induction n with
    | zero =>
      intro f i hi hf hj
      obtain ⟨f, rfl⟩ : ∃ g, f = g + 1 := ⟨f - 1, by omega⟩
      have e : i = 3 := by omega
      subst e
      show g_X4_isAble_2_b w _ _ _ X = _
      unfold g_X4_isAble_2_b
      have p : (3 : Int32) ≤ Int32.ofNat 3 := by decide
      have hj' : abP w m t := hj
      rw [if_pos p, bi_t hj']
    | succ n ih =>
      intro f i hi hf hj
      obtain ⟨f, rfl⟩ : ∃ g, f = g + 1 := ⟨f - 1, by omega⟩
      have h1 : ¬ (3 : Int32) ≤ Int32.ofNat i := nle (R := 3) (by omega) (by decide)
      obtain ⟨q1, q2⟩ := net_t jn ja ht (show i < 3 by omega)
      have ta := hT _ q2
      have l2 := tly_c (w := w) (X := X) (k := 2) q1 (by decide) (by decide)
      have l3 := tly_c (w := w) (X := X) (k := 3) q1 (by decide) (by decide)
      rw [ta.2.2.1] at l2
      rw [ta.2.2.2.1] at l3
      have l2 : g_X3_tallyOf w X (m.1 243 (3 * t + i)) 2 = _ := l2
      have l3 : g_X3_tallyOf w X (m.1 243 (3 * t + i)) 3 = _ := l3
      show g_X4_isAble_2_b w _ _ _ X = _
      unfold g_X4_isAble_2_b g_X7_cornerOf
      rw [if_neg h1, t3, gof (by omega) (by decide), g_t, tn_of (by omega), b_sm, e51, l2, b_sm]
      by_cases c1 : loV w m 9999 (m.1 243 (3 * t + i)).toNatClampNeg < 36000
      · rw [if_pos c1, bi_f (fun q => (car_c.mp (q i (by omega))).1 c1)]
      · rw [if_neg c1, l3, b_sm]
        by_cases c2 : hiV w m 9999 (m.1 243 (3 * t + i)).toNatClampNeg ≤ 6444000
        · rw [if_pos c2, of_succ]
          refine ih f (i + 1) (by omega) (by omega) (fun j hj' => ?_)
          by_cases e : j = i
          · rw [e]; exact car_c.mpr ⟨c1, c2⟩
          · exact hj j (by omega)
        · rw [if_neg c2, bi_f (fun q => c2 (car_c.mp (q i (by omega))).2)]
  exact key 3 rf_fuel 0 (by omega) (by unfold rf_fuel; omega) (fun j hj => by omega)
theorem carries_r {t : Nat} {w : rf_w} {m M : rf_m} (ja : JAng m) (jn : JNet m) (h3 : M.1 243 = m.1 243) (hS : ∀ a, a < (m.1 206 16).toNatClampNeg → siP w m M a) (ht : t < (m.1 206 64).toNatClampNeg) : g_X14_carries w M (Int32.ofNat t) = some (bi (abP w m t), M) := by
  have n30 := (net30 jn).1
  have e0 : 3 * Int32.ofNat t = Int32.ofNat (3 * t + 0) := by show 3 * Int32.ofNat t = Int32.ofNat (3 * t); rw [Int32.ofNat_mul]; rfl
  have e1 : Int32.ofNat (3 * t + 0) + 1 = Int32.ofNat (3 * t + 1) := of_succ
  have e2 : Int32.ofNat (3 * t + 0) + 2 = Int32.ofNat (3 * t + 2) := by show Int32.ofNat (3 * t) + 2 = _; rw [Int32.ofNat_add]; rfl
  have g : ∀ i, i < 3 → rf_in (m.1 243 (3 * t + i)) 80 = true ∧ M.1 270 (m.1 243 (3 * t + i)).toNatClampNeg = bi (carP w m (m.1 243 (3 * t + i)).toNatClampNeg) := fun i hi => by
    obtain ⟨q1, q2⟩ := net_t jn ja ht hi
    exact ⟨in_ib q1, (hS _ q2).1⟩
  obtain ⟨a0, b0⟩ := g 0 (by decide)
  obtain ⟨a1, b1⟩ := g 1 (by decide)
  obtain ⟨a2, b2⟩ := g 2 (by decide)
  unfold g_X14_carries
  rw [e0, e1, e2, gof (by omega) (by decide), g_t, gof (by omega) (by decide), g_t, gof (by omega) (by decide), tn_of (by omega), tn_of (by omega), tn_of (by omega), h3, a0, a1, a2, b0, b1, b2]
  simp only [g_t]
  have o1 : ¬ (1 : Int32) = 0 := by decide
  by_cases c0 : carP w m (m.1 243 (3 * t + 0)).toNatClampNeg
  · rw [bi_t c0, if_neg o1]
    by_cases c1 : carP w m (m.1 243 (3 * t + 1)).toNatClampNeg
    · rw [bi_t c1, if_neg o1]
      by_cases c2 : carP w m (m.1 243 (3 * t + 2)).toNatClampNeg
      · have al : abP w m t := fun i hi => by
          have : i = 0 ∨ i = 1 ∨ i = 2 := by omega
          rcases this with rfl | rfl | rfl
          · exact c0
          · exact c1
          · exact c2
        rw [bi_t c2, if_neg o1, bi_t al]
      · rw [bi_f c2, if_pos rfl, bi_f (fun q => c2 (q 2 (by decide)))]
    · rw [bi_f c1, if_pos rfl, bi_f (fun q => c1 (q 1 (by decide)))]
  · rw [bi_f c0, if_pos rfl, bi_f (fun q => c0 (q 0 (by decide)))]
/-- a told triangle is sound -/
def gdP (w : rf_w) (m : rf_m) (R : Nat → Int32) (A L : Int32) (k : Nat) : Prop := wlI (tmF w m (R k).toNatClampNeg) L 3 0 ≠ 0 ∧ bdV (tmV w m (R k).toNatClampNeg) A = 0 ∧ abP w m (R k).toNatClampNeg ∧ ¬ ∃ j, j < k ∧ R j = R k
noncomputable def chk (w : rf_w) (m : rf_m) (R : Nat → Int32) (A L goal : Int32) : Nat → Nat → (Int32 → Prop) → Int32
  | 0, _, _ => 0
  | n + 1, k, S => @ite _ (gdP w m R A L k ∧ (∃ i, i < 3 ∧ S (sidV m (R k).toNatClampNeg i)) ∧ (n = 0 → nxt m (R k).toNatClampNeg S goal)) (Classical.propDecidable _) (chk w m R A L goal n (k + 1) (nxt m (R k).toNatClampNeg S)) (1 + Int32.ofNat k)
theorem chk_t {w : rf_w} {m : rf_m} {R : Nat → Int32} {A L goal : Int32} {n k : Nat} {S : Int32 → Prop} (h : gdP w m R A L k ∧ (∃ i, i < 3 ∧ S (sidV m (R k).toNatClampNeg i)) ∧ (n = 0 → nxt m (R k).toNatClampNeg S goal)) : chk w m R A L goal (n + 1) k S = chk w m R A L goal n (k + 1) (nxt m (R k).toNatClampNeg S) := if_pos h
theorem chk_f {w : rf_w} {m : rf_m} {R : Nat → Int32} {A L goal : Int32} {n k : Nat} {S : Int32 → Prop} (h : ¬ (gdP w m R A L k ∧ (∃ i, i < 3 ∧ S (sidV m (R k).toNatClampNeg i)) ∧ (n = 0 → nxt m (R k).toNatClampNeg S goal))) : chk w m R A L goal (n + 1) k S = 1 + Int32.ofNat k := if_neg h
theorem chk_cl {c : Nat} {w : rf_w} {m : rf_m} {R : Nat → Int32} {A L goal : Int32} {N : Nat} (J : JCnt c w m) (jn : JNet m) (hN : N ≤ 6) (hR : ∀ j, j < N → ib (R j) (m.1 206 64)) : ∀ n f k ways X, k + n = N → n < f → ways ≤ 3 → clA w m X → (∀ j, j < 6 → X.1 205 j = R j) → ∃ F, g_X4_firstBad__205_13 w f goal (Int32.ofNat N) A L (Int32.ofNat ways) (Int32.ofNat k) X = some (chk w m R A L goal n k (fun s => ∃ q, q < ways ∧ X.1 183 q = s), stc X 183 F) := by
  have ja := J.2.2.2.2.1
  have o1 : ¬ (1 : Int32) = 0 := by decide
  intro n
  induction n with
  | zero =>
    intro f k ways X hk hf hw hX hXR
    obtain ⟨f, rfl⟩ : ∃ g, f = g + 1 := ⟨f - 1, by omega⟩
    have e : k = N := by omega
    subst e
    refine ⟨X.1 183, ?_⟩
    show g_X4_firstBad__205_13_b w _ _ _ _ _ _ _ X = _
    unfold g_X4_firstBad__205_13_b
    rw [if_pos (Int32.le_refl _), stc_self]
    rfl
  | succ n ih =>
    intro f k ways X hk hf hw hX hXR
    obtain ⟨f, rfl⟩ : ∃ g, f = g + 1 := ⟨f - 1, by omega⟩
    have h1 : ¬ Int32.ofNat N ≤ Int32.ofNat k := nle (by omega) (by omega)
    have hr := hR k (by omega)
    have er : R k = Int32.ofNat (R k).toNatClampNeg := (of_tn hr.1).symm
    have ht : (R k).toNatClampNeg < (m.1 206 64).toNatClampNeg := tn_lt2 hr.1 hr.2
    have gk := gof (n := k) (N := 6) (by omega) (by decide)
    have eX : X.1 205 k = R k := hXR k (by omega)
    have wl := wl_c2 (L := L) J jn hX ht
    have tm := tm_c2 J jn hX ht
    have ab := able_c ja jn hX ht
    rw [← er] at wl tm ab
    have ah := ahead_c (w := w) (m := X) (i := k) (by omega)
    have ahP : (∃ j, j < k ∧ X.1 205 j = X.1 205 k) ↔ ∃ j, j < k ∧ R j = R k := by
      rw [eX]
      exact ⟨fun ⟨j, z1, z2⟩ => ⟨j, z1, by rw [← hXR j (by omega)]; exact z2⟩, fun ⟨j, z1, z2⟩ => ⟨j, z1, by rw [hXR j (by omega)]; exact z2⟩⟩
    rw [bi_congr ahP] at ah
    have bad : ∀ r13, ¬ gdP w m R A L k → ∃ F, g_X4_firstBad__205_86 w r13 goal (Int32.ofNat N) A L (Int32.ofNat ways) (Int32.ofNat k) X = some (chk w m R A L goal (n + 1) k (fun s => ∃ q, q < ways ∧ X.1 183 q = s), stc X 183 F) := fun r13 hb => by
      refine ⟨X.1 183, ?_⟩
      unfold g_X4_firstBad__205_86 g_X4_firstBad__205_87 g_X4_firstBad__205_108
      rw [if_pos rfl, if_pos rfl, chk_f (fun q => hb q.1), stc_self]
    show ∃ F, g_X4_firstBad__205_13_b w _ _ _ _ _ _ _ X = _
    unfold g_X4_firstBad__205_13_b
    rw [if_neg h1, tn_of (by omega), eX, gk, g_t, wl, b_sm]
    by_cases c1 : wlI (tmF w m (R k).toNatClampNeg) L 3 0 = 0
    · rw [if_pos c1]; exact bad _ (fun q => q.1 c1)
    · rw [if_neg c1, g_t, eX, tm, b_sm, beyond_c, b_sm]
      by_cases c2 : bdV (tmV w m (R k).toNatClampNeg) A = 0
      · rw [if_pos c2, g_t, eX, ab, b_sm]
        by_cases c3 : abP w m (R k).toNatClampNeg
        · rw [bi_t c3, if_neg o1, ah, b_sm]
          by_cases c4 : ∃ j, j < k ∧ R j = R k
          · rw [bi_t c4, if_neg o1]; exact bad _ (fun q => q.2.2.2 c4)
          · rw [bi_f c4, if_pos rfl]
            have gd : gdP w m R A L k := ⟨c1, c2, c3, c4⟩
            obtain ⟨n', F, k1, k2, k3, k4⟩ := goOver_c (w := w) (n := ways) jn ja ht hw (clA_g hX)
            rw [← er] at k1
            unfold g_X4_firstBad__205_87 g_X4_firstBad__205_108 g_X4_firstBad__205_139
            rw [if_neg o1, gk, g_t, tn_of (by omega), eX, k1, b_sm]
            have x3 : (∃ i, i < 3 ∧ ∃ q, q < ways ∧ X.1 183 q = sidV m (R k).toNatClampNeg i) ↔ n' ≠ 0 := ⟨fun q z => (k3.mp z) q, fun q => Classical.byContradiction fun z => q (k3.mpr z)⟩
            by_cases c5 : n' = 0
            · have z : Int32.ofNat n' = 0 := by rw [c5]; rfl
              rw [if_pos z, chk_f (fun q => (x3.mp q.2.1) c5)]
              exact ⟨F, rfl⟩
            · have z : ¬ Int32.ofNat n' = 0 := fun q => c5 ((of_inj (b := 0) (by omega) (by omega)).mp q)
              rw [if_neg z]
              have rc := reach_c (w := w) (m := stc X 183 F) (s := goal) k2
              have x183 : (stc X 183 F).1 183 = F := stc_at
              rw [x183, bi_congr (k4 goal)] at rc
              have go : (n = 0 → nxt m (R k).toNatClampNeg (fun s => ∃ q, q < ways ∧ X.1 183 q = s) goal) → ∃ F', g_X4_firstBad__205_13 w f goal (Int32.ofNat N) A L (Int32.ofNat n') (Int32.ofNat k + 1) (stc X 183 F) = some (chk w m R A L goal (n + 1) k (fun s => ∃ q, q < ways ∧ X.1 183 q = s), stc X 183 F') := fun hl => by
                rw [of_succ, chk_t ⟨gd, x3.mpr c5, hl⟩]
                obtain ⟨F', hF'⟩ := ih f (k + 1) n' (stc X 183 F) (by omega) (by omega) k2 (clA_e hX (fun z hz => stc_ne (by omega))) (fun j hj => by rw [stc_ne (by decide)]; exact hXR j hj)
                rw [hF', stc_stc, x183, show (fun s => ∃ q, q < n' ∧ F q = s) = nxt m (R k).toNatClampNeg (fun s => ∃ q, q < ways ∧ X.1 183 q = s) from funext fun s => propext (k4 s)]
                exact ⟨F', rfl⟩
              by_cases c6 : n = 0
              · have e6 : Int32.ofNat k = Int32.ofNat N - 1 := by rw [show N = k + 1 by omega, ofm1']
                rw [if_pos e6, rc, b_sm]
                by_cases c7 : nxt m (R k).toNatClampNeg (fun s => ∃ q, q < ways ∧ X.1 183 q = s) goal
                · rw [bi_t c7, if_neg o1]
                  exact go (fun _ => c7)
                · rw [bi_f c7, if_pos rfl, chk_f (fun q => c7 (q.2.2 c6))]
                  exact ⟨F, rfl⟩
              · have e6 : ¬ Int32.ofNat k = Int32.ofNat N - 1 := by
                  rw [show N = (N - 1) + 1 by omega, ofm1']
                  exact fun q => by have := (of_inj (by omega) (by omega)).mp q; omega
                rw [if_neg e6]
                exact go (fun q => absurd q c6)
        · rw [bi_f c3, if_pos rfl]; exact bad _ (fun q => c3 q.2.2.1)
      · rw [if_neg c2]; exact bad _ (fun q => c2 q.2.1)
end PBCheckK
