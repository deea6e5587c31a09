/-! tried means: their misses, both sides -/
section PBTried
theorem sl51b {w : rf_w} {m1 : rf_m} {f : Nat → Int32} {b s : Nat} {q : Int32} (hb : b + s ≤ 90) (hA : ∀ i, i < s → ib (m1.1 51 (b + i)) 80 ∧ m1.1 192 (m1.1 51 (b + i)).toNatClampNeg = f i) (hf : ∀ i, i < s → f i = -2 ∨ 0 ≤ f i) : g_X7_sumLess__51_192 w m1 (Int32.ofNat b) (Int32.ofNat s) q = some (sumM f s 0 (0 - q), m1) := by
  have key : ∀ n F i x, i + n = s → n < F → g_X7_sumLess__51_192_6 w F (Int32.ofNat b) (Int32.ofNat s) q x (Int32.ofNat (b + i)) m1 = some (sumM f n i (x - q), m1) := by
    intro n
    induction n with
    | zero =>
      intro F i x hi hF
      obtain ⟨F, rfl⟩ : ∃ g, F = g + 1 := ⟨F - 1, by omega⟩
      show g_X7_sumLess__51_192_6_b w _ _ _ _ _ _ m1 = _
      unfold g_X7_sumLess__51_192_6_b
      rw [← Int32.ofNat_add, show i = s by omega, if_pos (Int32.le_refl _)]
      rfl
    | succ n ih =>
      intro F i x hi hF
      obtain ⟨F, rfl⟩ : ∃ g, F = g + 1 := ⟨F - 1, by omega⟩
      show g_X7_sumLess__51_192_6_b w (g_X7_sumLess__51_192_6 w F) _ _ _ _ _ m1 = _
      unfold g_X7_sumLess__51_192_6_b
      have h1 : ¬ Int32.ofNat (b + s) ≤ Int32.ofNat (b + i) := nle (by omega) (by omega)
      obtain ⟨a1, a2⟩ := hA i (by omega)
      rw [← Int32.ofNat_add, if_neg h1, gof (by omega) (by decide), tn_of (by omega), in_ib a1, a2]
      simp only [g_t, rf_vi]
      rcases hf i (by omega) with z | z
      · have z' : ¬ (0 : Int32) ≤ f i := by rw [z]; decide
        rw [if_neg z']
        show _ = some (if f i = -2 then _ else _, m1)
        rw [if_pos z]
      · have z' : ¬ f i = -2 := by intro e; rw [e] at z; exact absurd z (by decide)
        rw [if_pos z]
        show _ = some (if f i = -2 then _ else _, m1)
        rw [if_neg z', of_succ, show x - q + f i = x + f i - q by grind]
        exact ih F (i + 1) (x + f i) (by omega) (by omega)
  exact key s rf_fuel 0 0 (by omega) (by unfold rf_fuel; omega)
theorem sl53b {w : rf_w} {m1 : rf_m} {f : Nat → Int32} {b s : Nat} {q : Int32} (hb : b + s ≤ 72) (hA : ∀ i, i < s → ib (m1.1 53 (b + i)) 80 ∧ m1.1 192 (m1.1 53 (b + i)).toNatClampNeg = f i) (hf : ∀ i, i < s → f i = -2 ∨ 0 ≤ f i) : g_X7_sumLess__53_192 w m1 (Int32.ofNat b) (Int32.ofNat s) q = some (sumM f s 0 (0 - q), m1) := by
  have key : ∀ n F i x, i + n = s → n < F → g_X7_sumLess__53_192_6 w F (Int32.ofNat b) (Int32.ofNat s) q x (Int32.ofNat (b + i)) m1 = some (sumM f n i (x - q), m1) := by
    intro n
    induction n with
    | zero =>
      intro F i x hi hF
      obtain ⟨F, rfl⟩ : ∃ g, F = g + 1 := ⟨F - 1, by omega⟩
      show g_X7_sumLess__53_192_6_b w _ _ _ _ _ _ m1 = _
      unfold g_X7_sumLess__53_192_6_b
      rw [← Int32.ofNat_add, show i = s by omega, if_pos (Int32.le_refl _)]
      rfl
    | succ n ih =>
      intro F i x hi hF
      obtain ⟨F, rfl⟩ : ∃ g, F = g + 1 := ⟨F - 1, by omega⟩
      show g_X7_sumLess__53_192_6_b w (g_X7_sumLess__53_192_6 w F) _ _ _ _ _ m1 = _
      unfold g_X7_sumLess__53_192_6_b
      have h1 : ¬ Int32.ofNat (b + s) ≤ Int32.ofNat (b + i) := nle (by omega) (by omega)
      obtain ⟨a1, a2⟩ := hA i (by omega)
      rw [← Int32.ofNat_add, if_neg h1, gof (by omega) (by decide), tn_of (by omega), in_ib a1, a2]
      simp only [g_t, rf_vi]
      rcases hf i (by omega) with z | z
      · have z' : ¬ (0 : Int32) ≤ f i := by rw [z]; decide
        rw [if_neg z']
        show _ = some (if f i = -2 then _ else _, m1)
        rw [if_pos z]
      · have z' : ¬ f i = -2 := by intro e; rw [e] at z; exact absurd z (by decide)
        rw [if_pos z]
        show _ = some (if f i = -2 then _ else _, m1)
        rw [if_neg z', of_succ, show x - q + f i = x + f i - q by grind]
        exact ih F (i + 1) (x + f i) (by omega) (by omega)
  exact key s rf_fuel 0 0 (by omega) (by unfold rf_fuel; omega)
noncomputable def tmG (m : rf_m) (mn : Nat → Int32) (t : Nat) : Int32 := sumM (fun i => mn (m.1 243 (3 * t + i)).toNatClampNeg) 3 0 (-6480000 - m.1 244 t)
noncomputable def rmG (m : rf_m) (mn : Nat → Int32) (r : Nat) : Int32 := sumM (fun i => mn (m.1 245 (6 * r + i)).toNatClampNeg) (m.1 246 r).toNatClampNeg 0 (-12960000)
/-- the class's rows of the net, and tried means -/
def cG (m : rf_m) (mn : Nat → Int32) (X : rf_m) : Prop := X.1 51 = m.1 243 ∧ X.1 52 = m.1 244 ∧ X.1 53 = m.1 245 ∧ X.1 54 = m.1 246 ∧ X.1 50 0 = m.1 206 64 ∧ X.1 50 1 = m.1 206 65 ∧ ∀ a, a < (m.1 206 16).toNatClampNeg → X.1 192 a = mn a
def mnR (m : rf_m) (mn : Nat → Int32) : Prop := ∀ a, a < (m.1 206 16).toNatClampNeg → mn a = -2 ∨ 0 ≤ mn a
theorem tm_cg {t : Nat} {w : rf_w} {m X : rf_m} {mn : Nat → Int32} (ja : JAng m) (jn : JNet m) (h : cG m mn X) (hr : mnR m mn) (ht : t < (m.1 206 64).toNatClampNeg) : g_X7_triangleMiss__192 w X (Int32.ofNat t) = some (tmG m mn t, X) := by
  have n30 := (net30 jn).1
  obtain ⟨e51, e52, _, _, _, _, hT⟩ := h
  have := sl51b (w := w) (m1 := X) (f := fun i => mn (m.1 243 (3 * t + i)).toNatClampNeg) (b := 3 * t) (s := 3) (q := 6480000 + m.1 244 t) (by omega) (fun i hi => by
    rw [e51]
    obtain ⟨q1, q2⟩ := net_t jn ja ht hi
    exact ⟨q1, hT _ q2⟩) (fun i hi => hr _ (net_t jn ja ht hi).2)
  unfold g_X7_triangleMiss__192
  have e3 : Int32.ofNat t * 3 = Int32.ofNat (3 * t) := by rw [Nat.mul_comm, Int32.ofNat_mul]; rfl
  rw [gof (by omega) (by decide), g_t, tn_of (by omega), e52, e3]
  have this' : g_X7_sumLess__51_192 w X (Int32.ofNat (3 * t)) 3 (6480000 + m.1 244 t) = _ := this
  rw [this']
  unfold tmG
  rw [show (-6480000 : Int32) - m.1 244 t = 0 - (6480000 + m.1 244 t) by grind]
  rfl
theorem rm_cg {r : Nat} {w : rf_w} {m X : rf_m} {mn : Nat → Int32} (ja : JAng m) (jn : JNet m) (h : cG m mn X) (hr : mnR m mn) (hr' : r < (m.1 206 65).toNatClampNeg) : g_X7_roundMiss__192 w X (Int32.ofNat r) = some (rmG m mn r, X) := by
  have n12 := (net30 jn).2
  obtain ⟨_, _, e53, e54, _, _, hT⟩ := h
  have h6 := jn.2.2.2.2.2.2.2.2.2.2.1 r
  have hb : (m.1 246 r).toNatClampNeg ≤ 6 := tn_le h6.1 h6.2 (by decide)
  have hR := of_tn h6.1
  have := sl53b (w := w) (m1 := X) (f := fun i => mn (m.1 245 (6 * r + i)).toNatClampNeg) (b := 6 * r) (s := (m.1 246 r).toNatClampNeg) (q := 12960000) (by omega) (fun i hi => by
    rw [e53]
    obtain ⟨q1, q2⟩ := net_r jn ja hr' hi
    exact ⟨q1, hT _ q2⟩) (fun i hi => hr _ (net_r jn ja hr' hi).2)
  unfold g_X7_roundMiss__192
  have e3 : Int32.ofNat r * 6 = Int32.ofNat (6 * r) := by rw [Nat.mul_comm, Int32.ofNat_mul]; rfl
  rw [hR] at this
  rw [gof (by omega) (by decide), g_t, tn_of (by omega), e54, e3, this]
  rfl
/-- all conditions, triangles first -/
noncomputable def msG (m : rf_m) (mn : Nat → Int32) (c : Nat) : Int32 := if c < (m.1 206 64).toNatClampNeg then tmG m mn c else rmG m mn (c - (m.1 206 64).toNatClampNeg)
def allG (m : rf_m) (mn : Nat → Int32) (A : Int32) : Prop := ∀ c, c < (m.1 206 64).toNatClampNeg + (m.1 206 65).toNatClampNeg → bdV (msG m mn c) A = 0
theorem ms_cg {c : Nat} {w : rf_w} {m X : rf_m} {mn : Nat → Int32} (ja : JAng m) (jn : JNet m) (h : cG m mn X) (hr : mnR m mn) (hc : c < (m.1 206 64).toNatClampNeg + (m.1 206 65).toNatClampNeg) : g_X7_missOf__192 w X (Int32.ofNat c) = some (msG m mn c, X) := by
  obtain ⟨n30, n12⟩ := net30 jn
  have hT := of_tn jn.2.1.1
  unfold g_X7_missOf__192 msG
  rw [h.2.2.2.2.1]
  by_cases q : c < (m.1 206 64).toNatClampNeg
  · have q' : ¬ m.1 206 64 ≤ Int32.ofNat c := by rw [← hT]; exact nle q (by omega)
    rw [if_neg q', if_pos q, tm_cg ja jn h hr q, b_sm]
  · have q' : m.1 206 64 ≤ Int32.ofNat c := by rw [← hT]; exact (of_le (by omega) (by omega)).mpr (by omega)
    have e : Int32.ofNat c - m.1 206 64 = Int32.ofNat (c - (m.1 206 64).toNatClampNeg) := by
      rw [← hT, tn_of (by omega)]
      apply Int32.toInt_inj.mp
      rw [subI (by rw [ofI (by omega), ofI (by omega)]; omega) (by rw [ofI (by omega), ofI (by omega)]; omega), ofI (by omega), ofI (by omega), ofI (by omega)]
      omega
    rw [if_pos q', if_neg q, e, rm_cg ja jn h hr (by omega), b_sm]
theorem within_c {w : rf_w} {m X : rf_m} {mn : Nat → Int32} {A : Int32} (ja : JAng m) (jn : JNet m) (h : cG m mn X) (hr : mnR m mn) (h7 : 0 ≤ X.1 50 7) : ∃ X', g_X7_isAllWithin__192 w X A = some (bi (allG m mn A), X') ∧ (X' = X ∨ ∃ v : Nat, v < 64 ∧ X' = rf_i X 50 7 (Int32.ofNat v)) := by
  obtain ⟨n30, n12⟩ := net30 jn
  have hT := of_tn jn.2.1.1
  have hRR := of_tn jn.2.2.2.1.1
  have eN : X.1 50 0 + X.1 50 1 = Int32.ofNat ((m.1 206 64).toNatClampNeg + (m.1 206 65).toNatClampNeg) := by rw [h.2.2.2.2.1, h.2.2.2.2.2.1, Int32.ofNat_add, hT, hRR]
  have ms := fun c hc => ms_cg (c := c) (w := w) ja jn h hr hc
  have e7 : Int32.ofNat (X.1 50 7).toNatClampNeg = X.1 50 7 := of_tn h7
  have e7l : (X.1 50 7).toNatClampNeg < 2147483648 := by
    have a := tn_toInt h7
    have b := (rngI (X.1 50 7)).2
    omega
  unfold allG
  obtain ⟨F, hF, hFb⟩ := fuel_ex
  generalize hN : (m.1 206 64).toNatClampNeg + (m.1 206 65).toNatClampNeg = N at *
  have N64 : N < 64 := by omega
  -- from a place on, round
  have key : ∀ c0, (c0 < N ∨ (N = 0 ∧ c0 = 0)) → ∀ n f i, i + n = N → n < f → (∀ j, j < i → bdV (msG m mn ((c0 + j) % N)) A = 0) → ∃ X', g_X7_isAllWithin__192_31 w f A (Int32.ofNat N) (Int32.ofNat (if N = 0 then 0 else (c0 + i) % N)) (Int32.ofNat i) X = some (bi (∀ c, c < N → bdV (msG m mn c) A = 0), X') ∧ (X' = X ∨ ∃ v : Nat, v < 64 ∧ X' = rf_i X 50 7 (Int32.ofNat v)) := by
    intro c0 hc0 n
    induction n with
    | zero =>
      intro f i hi hf hj
      obtain ⟨f, rfl⟩ : ∃ g, f = g + 1 := ⟨f - 1, by omega⟩
      have e : i = N := by omega
      subst e
      refine ⟨X, ?_, Or.inl rfl⟩
      show g_X7_isAllWithin__192_31_b w _ _ _ _ _ X = _
      unfold g_X7_isAllWithin__192_31_b
      rw [if_pos (Int32.le_refl _), bi_t (fun c hc => ?_)]
      by_cases q : c0 ≤ c
      · have := hj (c - c0) (by omega)
        rw [show c0 + (c - c0) = c by omega, Nat.mod_eq_of_lt hc] at this
        exact this
      · have := hj (i + c - c0) (by omega)
        rw [show c0 + (i + c - c0) = i + c by omega, Nat.add_mod_left, Nat.mod_eq_of_lt hc] at this
        exact this
    | succ n ih =>
      intro f i hi hf hj
      obtain ⟨f, rfl⟩ : ∃ g, f = g + 1 := ⟨f - 1, by omega⟩
      have N0 : ¬ N = 0 := by omega
      have g1 : ¬ Int32.ofNat N ≤ Int32.ofNat i := nle (by omega) (by omega)
      have cN : (c0 + i) % N < N := Nat.mod_lt _ (by omega)
      show ∃ X', g_X7_isAllWithin__192_31_b w _ _ _ _ _ X = _ ∧ _
      unfold g_X7_isAllWithin__192_31_b g_X7_isAllWithin__192_75
      rw [if_neg g1, if_neg N0, ms _ cN, b_sm, beyond_c, b_sm, of_succ, of_succ]
      by_cases q : bdV (msG m mn ((c0 + i) % N)) A = 0
      · have r := ih f (i + 1) (by omega) (by omega) (fun j hj' => by
          by_cases e : j = i
          · rw [e]; exact q
          · exact hj j (by omega))
        rw [if_neg N0] at r
        rw [if_pos q]
        by_cases e : (c0 + i) % N + 1 = N
        · have l : Int32.ofNat N ≤ Int32.ofNat ((c0 + i) % N + 1) := by rw [e]; exact Int32.le_refl _
          have z : (c0 + (i + 1)) % N = 0 := by
            rw [← Nat.add_assoc, Nat.add_mod, show (c0 + i) % N = N - 1 by omega]
            by_cases n1 : N = 1
            · rw [n1]
            · rw [Nat.mod_eq_of_lt (show 1 < N by omega), show N - 1 + 1 = N by omega, Nat.mod_self]
          rw [z] at r
          rw [if_pos l]
          exact r
        · have l : ¬ Int32.ofNat N ≤ Int32.ofNat ((c0 + i) % N + 1) := nle (by omega) (by omega)
          have z : (c0 + (i + 1)) % N = (c0 + i) % N + 1 := by
            rw [← Nat.add_assoc, Nat.add_mod, Nat.mod_eq_of_lt (show 1 < N by omega), Nat.mod_eq_of_lt (by omega)]
          rw [z] at r
          rw [if_neg l]
          exact r
      · rw [if_neg q, bi_f (fun z => q (z _ cN))]
        exact ⟨_, rfl, Or.inr ⟨_, by omega, rfl⟩⟩
  unfold g_X7_isAllWithin__192 g_X7_isAllWithin__192_26
  rw [eN, hF]
  by_cases q : N ≤ (X.1 50 7).toNatClampNeg
  · have q' : Int32.ofNat N ≤ X.1 50 7 := by rw [← e7]; exact (of_le (by omega) e7l).mpr q
    have r := key 0 (by omega) N F 0 (by omega) (by omega) (fun j hj => by omega)
    have e0 : (if N = 0 then 0 else (0 + 0) % N) = 0 := by split; rfl; exact Nat.zero_mod _
    rw [e0] at r
    rw [if_pos q']
    exact r
  · have q' : ¬ Int32.ofNat N ≤ X.1 50 7 := by rw [← e7]; exact fun z => q ((of_le (by omega) e7l).mp z)
    have r := key (X.1 50 7).toNatClampNeg (Or.inl (by omega)) N F 0 (by omega) (by omega) (fun j hj => by omega)
    have e0 : (if N = 0 then 0 else ((X.1 50 7).toNatClampNeg + 0) % N) = (X.1 50 7).toNatClampNeg := by rw [if_neg (by omega), Nat.add_zero, Nat.mod_eq_of_lt (by omega)]
    rw [e0, e7] at r
    rw [if_neg q']
    exact r
def nG (m : rf_m) (mn : Nat → Int32) (M : rf_m) : Prop := (∀ c, 243 ≤ c ∧ c ≤ 246 → M.1 c = m.1 c) ∧ M.1 206 64 = m.1 206 64 ∧ M.1 206 65 = m.1 206 65 ∧ ∀ a, a < (m.1 206 16).toNatClampNeg → M.1 248 a = mn a
theorem tm_rg {t : Nat} {w : rf_w} {m M : rf_m} {mn : Nat → Int32} (ja : JAng m) (jn : JNet m) (h : nG m mn M) (ht : t < (m.1 206 64).toNatClampNeg) : g_X14_missOf w M (Int32.ofNat t) 0 = some (tmG m mn t, M) := by
  have n30 := (net30 jn).1
  unfold g_X14_missOf g_X14_missOf_20
  rw [if_pos rfl, gof (by omega) (by decide), g_t, tn_of (by omega), h.1 244 (by omega)]
  exact mst (by omega) (fun i hi => by
    rw [h.1 243 (by omega)]
    obtain ⟨q1, q2⟩ := net_t jn ja ht hi
    exact ⟨q1, h.2.2.2 _ q2⟩)
theorem rm_rg {r : Nat} {w : rf_w} {m M : rf_m} {mn : Nat → Int32} (ja : JAng m) (jn : JNet m) (h : nG m mn M) (hr : r < (m.1 206 65).toNatClampNeg) : g_X14_missOf w M (Int32.ofNat r) 1 = some (rmG m mn r, M) := by
  have n12 := (net30 jn).2
  have o1 : ¬ (1 : Int32) = 0 := by decide
  have h6 := jn.2.2.2.2.2.2.2.2.2.2.1 r
  have e6 := h.1 246 (by omega)
  unfold g_X14_missOf g_X14_missOf_20
  rw [if_neg o1]
  have := msr (w := w) (M := M) (f := fun i => mn (m.1 245 (6 * r + i)).toNatClampNeg) (r := r) (q := -12960000) (by omega) (by rw [e6]; exact h6) (fun i hi => by
    rw [e6] at hi
    rw [h.1 245 (by omega)]
    obtain ⟨q1, q2⟩ := net_r jn ja hr hi
    exact ⟨q1, h.2.2.2 _ q2⟩)
  rw [this, e6]
  rfl
theorem wideOnes_g {w : rf_w} {m M : rf_m} {mn : Nat → Int32} {L : Int32} (hL : 0 ≤ L) (ja : JAng m) (jn : JNet m) (h : nG m mn M) : g_X14_wideOnes w M L = some (cS (rmG m mn) L (m.1 206 65).toNatClampNeg 0 (cS (tmG m mn) L (m.1 206 64).toNatClampNeg 0 0), M) := by
  have o1 : ¬ (1 : Int32) = 0 := by decide
  obtain ⟨n30, n12⟩ := net30 jn
  have hT := of_tn jn.2.1.1
  have hR := of_tn jn.2.2.2.1.1
  have q64 := h.2.1
  have q65 := h.2.2.1
  generalize hTT : (m.1 206 64).toNatClampNeg = T at *
  generalize hRR : (m.1 206 65).toNatClampNeg = R at *
  have keyR : ∀ n F j x, j + n = R → n < F → g_X14_wideOnes_41 w F L x (Int32.ofNat j) M = some (cS (rmG m mn) L n j x, M) := by
    intro n
    induction n with
    | zero =>
      intro F j x hi hF
      obtain ⟨F, rfl⟩ : ∃ g, F = g + 1 := ⟨F - 1, by omega⟩
      show g_X14_wideOnes_41_b w _ _ _ _ M = _
      unfold g_X14_wideOnes_41_b
      rw [q65, ← hR, show j = R by omega, if_pos (Int32.le_refl _)]
      rfl
    | succ n ih =>
      intro F j x hi hF
      obtain ⟨F, rfl⟩ : ∃ g, F = g + 1 := ⟨F - 1, by omega⟩
      show g_X14_wideOnes_41_b w (g_X14_wideOnes_41 w F) _ _ _ M = _
      unfold g_X14_wideOnes_41_b g_X14_wideOnes_68
      have h1 : ¬ m.1 206 65 ≤ Int32.ofNat j := by rw [← hR]; exact nle (by omega) (by omega)
      have := rm_rg (w := w) (r := j) ja jn h (by omega)
      rw [q65, if_neg h1, this]
      simp only [rf_b]
      rw [wide_r hL]
      simp only
      show _ = some (cS (rmG m mn) L n (j + 1) (x + bdV (rmG m mn j) L), M)
      rcases bd01 (v := rmG m mn j) (L := L) with z | z
      · rw [z, if_pos rfl, of_succ]
        exact ih F (j + 1) (x + 0) (by omega) (by omega)
      · rw [z, if_neg o1, of_succ]
        exact ih F (j + 1) (x + 1) (by omega) (by omega)
  have keyT : ∀ n F i x, i + n = T → n < F → g_X14_wideOnes_4 w F L x (Int32.ofNat i) M = some (cS (rmG m mn) L R 0 (cS (tmG m mn) L n i x), M) := by
    intro n
    induction n with
    | zero =>
      intro F i x hi hF
      obtain ⟨F, rfl⟩ : ∃ g, F = g + 1 := ⟨F - 1, by omega⟩
      show g_X14_wideOnes_4_b w _ _ _ _ M = _
      unfold g_X14_wideOnes_4_b
      rw [q64, ← hT, show i = T by omega, if_pos (Int32.le_refl _)]
      exact keyR R rf_fuel 0 x (by omega) (by unfold rf_fuel; omega)
    | succ n ih =>
      intro F i x hi hF
      obtain ⟨F, rfl⟩ : ∃ g, F = g + 1 := ⟨F - 1, by omega⟩
      show g_X14_wideOnes_4_b w (g_X14_wideOnes_4 w F) _ _ _ M = _
      unfold g_X14_wideOnes_4_b g_X14_wideOnes_31
      have h1 : ¬ m.1 206 64 ≤ Int32.ofNat i := by rw [← hT]; exact nle (by omega) (by omega)
      have := tm_rg (w := w) (t := i) ja jn h (by omega)
      rw [q64, if_neg h1, this]
      simp only [rf_b]
      rw [wide_r hL]
      simp only
      show _ = some (cS (rmG m mn) L R 0 (cS (tmG m mn) L n (i + 1) (x + bdV (tmG m mn i) L)), M)
      rcases bd01 (v := tmG m mn i) (L := L) with z | z
      · rw [z, if_pos rfl, of_succ]
        exact ih F (i + 1) (x + 0) (by omega) (by omega)
      · rw [z, if_neg o1, of_succ]
        exact ih F (i + 1) (x + 1) (by omega) (by omega)
  exact keyT T rf_fuel 0 0 (by omega) (by unfold rf_fuel; omega)
theorem cS_0 {f : Nat → Int32} {L : Int32} : ∀ (n i : Nat) (x : Int32), 0 ≤ x.toInt → x.toInt + (n : Int) < 1000 → (0 ≤ (cS f L n i x).toInt ∧ (cS f L n i x).toInt ≤ x.toInt + (n : Int)) ∧ (cS f L n i x = 0 ↔ (x = 0 ∧ ∀ j, j < n → bdV (f (i + j)) L = 0)) := by
  intro n
  induction n with
  | zero => intro i x h0 h1; exact ⟨⟨h0, by show x.toInt ≤ x.toInt + 0; omega⟩, ⟨fun h => ⟨h, fun j hj => by omega⟩, fun h => h.1⟩⟩
  | succ n ih =>
    intro i x h0 h1
    have e : cS f L (n + 1) i x = cS f L n (i + 1) (x + bdV (f i) L) := rfl
    have k1 : (1 : Int32).toInt = 1 := by decide
    rcases bd01 (v := f i) (L := L) with z | z
    · have ex : x + bdV (f i) L = x := by rw [z]; grind
      rw [e, ex]
      obtain ⟨a, b⟩ := ih (i + 1) x h0 (by omega)
      refine ⟨⟨a.1, by omega⟩, b.trans ⟨fun h => ⟨h.1, fun j hj => ?_⟩, fun h => ⟨h.1, fun j hj => ?_⟩⟩⟩
      · by_cases q : j = 0
        · rw [q]; exact z
        · have := h.2 (j - 1) (by omega)
          rw [show i + 1 + (j - 1) = i + j by omega] at this
          exact this
      · have := h.2 (j + 1) (by omega)
        rw [show i + 1 + j = i + (j + 1) by omega]
        exact this
    · have ex : (x + bdV (f i) L).toInt = x.toInt + 1 := by rw [z, addI (by rw [k1]; omega) (by rw [k1]; omega), k1]
      rw [e]
      obtain ⟨a, b⟩ := ih (i + 1) (x + bdV (f i) L) (by omega) (by omega)
      refine ⟨⟨a.1, by omega⟩, b.trans ⟨fun h => ?_, fun h => ?_⟩⟩
      · have := h.1
        rw [this, i_0] at ex
        omega
      · have := h.2 0 (by omega)
        rw [Nat.add_zero, z] at this
        exact absurd this (by decide)
theorem wide_g {w : rf_w} {m M : rf_m} {mn : Nat → Int32} {A : Int32} (hA : 0 ≤ A) (ja : JAng m) (jn : JNet m) (h : nG m mn M) : ∃ v, g_X14_wideOnes w M A = some (v, M) ∧ (v = 0 ↔ allG m mn A) := by
  obtain ⟨n30, n12⟩ := net30 jn
  refine ⟨_, wideOnes_g hA ja jn h, ?_⟩
  obtain ⟨a, b⟩ := cS_0 (f := tmG m mn) (L := A) (m.1 206 64).toNatClampNeg 0 0 (by rw [i_0]; omega) (by rw [i_0]; omega)
  rw [i_0] at a
  obtain ⟨_, d⟩ := cS_0 (f := rmG m mn) (L := A) (m.1 206 65).toNatClampNeg 0 (cS (tmG m mn) A (m.1 206 64).toNatClampNeg 0 0) a.1 (by omega)
  rw [d, b]
  unfold allG msG
  constructor
  · rintro ⟨⟨_, h1⟩, h2⟩ c hc
    by_cases q : c < (m.1 206 64).toNatClampNeg
    · rw [if_pos q]
      have := h1 c q
      rw [Nat.zero_add] at this
      exact this
    · rw [if_neg q]
      have := h2 (c - (m.1 206 64).toNatClampNeg) (by omega)
      rw [Nat.zero_add] at this
      exact this
  · intro h'
    refine ⟨⟨rfl, fun j hj => ?_⟩, fun j hj => ?_⟩
    · have := h' j (by omega)
      rw [if_pos hj] at this
      rw [Nat.zero_add]
      exact this
    · have := h' ((m.1 206 64).toNatClampNeg + j) (by omega)
      rw [if_neg (by omega), Nat.add_sub_cancel_left] at this
      rw [Nat.zero_add]
      exact this
end PBTried
