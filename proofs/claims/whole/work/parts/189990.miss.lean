/-! misses -/
section PBMiss
theorem in_ib {x : Int32} (h : ib x 80) : rf_in x 80 = true := by
  rw [← of_tn h.1]
  exact gof (tn_lt2 h.1 h.2) (by decide)
noncomputable def sumM (f : Nat → Int32) : Nat → Nat → Int32 → Int32
  | 0, _, x => x
  | n + 1, i, x => if f i = -2 then -2147483648 else sumM f n (i + 1) (x + f i)
theorem sl51 {w : rf_w} {m1 : rf_m} {f : Nat → Int32} {b s : Nat} {q : Int32} (hb : b + s ≤ 90) (hA : ∀ i, i < s → ib (m1.1 51 (b + i)) 80 ∧ m1.1 31 (m1.1 51 (b + i)).toNatClampNeg = f i) (hf : ∀ i, i < s → f i = -2 ∨ 0 ≤ f i) : g_X7_sumLess__51_31 w m1 (Int32.ofNat b) (Int32.ofNat s) q = some (sumM f s 0 (0 - q), m1) := by
  have key : ∀ n F i x, i + n = s → n < F → g_X7_sumLess__51_31_6 w F (Int32.ofNat b) (Int32.ofNat s) q x (Int32.ofNat (b + i)) m1 = some (sumM f n i (x - q), m1) := by
    intro n
    induction n with
    | zero =>
      intro F i x hi hF
      obtain ⟨F, rfl⟩ : ∃ g, F = g + 1 := ⟨F - 1, by omega⟩
      show g_X7_sumLess__51_31_6_b w _ _ _ _ _ _ m1 = _
      unfold g_X7_sumLess__51_31_6_b
      rw [← Int32.ofNat_add, show i = s by omega, if_pos (Int32.le_refl _)]
      rfl
    | succ n ih =>
      intro F i x hi hF
      obtain ⟨F, rfl⟩ : ∃ g, F = g + 1 := ⟨F - 1, by omega⟩
      show g_X7_sumLess__51_31_6_b w (g_X7_sumLess__51_31_6 w F) _ _ _ _ _ m1 = _
      unfold g_X7_sumLess__51_31_6_b
      have h1 : ¬ Int32.ofNat (b + s) ≤ Int32.ofNat (b + i) := nle (by omega) (by omega)
      obtain ⟨a1, a2⟩ := hA i (by omega)
      rw [← Int32.ofNat_add, if_neg h1, gof (by omega) (by decide), tn_of (by omega), in_ib a1, a2]
      simp only [g_t, rf_vi]
      rcases hf i (by omega) with z | z
      · have z' : ¬ (0 : Int32) ≤ f i := by rw [z]; decide
        rw [if_neg z']
        show _ = some (if f i = -2 then _ else _, m1)
        rw [if_pos z]
      · have z' : ¬ f i = -2 := by intro e; rw [e] at z; exact absurd z (by decide)
        rw [if_pos z]
        show _ = some (if f i = -2 then _ else _, m1)
        rw [if_neg z', of_succ, show x - q + f i = x + f i - q by grind]
        exact ih F (i + 1) (x + f i) (by omega) (by omega)
  exact key s rf_fuel 0 0 (by omega) (by unfold rf_fuel; omega)
theorem sl53 {w : rf_w} {m1 : rf_m} {f : Nat → Int32} {b s : Nat} {q : Int32} (hb : b + s ≤ 72) (hA : ∀ i, i < s → ib (m1.1 53 (b + i)) 80 ∧ m1.1 31 (m1.1 53 (b + i)).toNatClampNeg = f i) (hf : ∀ i, i < s → f i = -2 ∨ 0 ≤ f i) : g_X7_sumLess__53_31 w m1 (Int32.ofNat b) (Int32.ofNat s) q = some (sumM f s 0 (0 - q), m1) := by
  have key : ∀ n F i x, i + n = s → n < F → g_X7_sumLess__53_31_6 w F (Int32.ofNat b) (Int32.ofNat s) q x (Int32.ofNat (b + i)) m1 = some (sumM f n i (x - q), m1) := by
    intro n
    induction n with
    | zero =>
      intro F i x hi hF
      obtain ⟨F, rfl⟩ : ∃ g, F = g + 1 := ⟨F - 1, by omega⟩
      show g_X7_sumLess__53_31_6_b w _ _ _ _ _ _ m1 = _
      unfold g_X7_sumLess__53_31_6_b
      rw [← Int32.ofNat_add, show i = s by omega, if_pos (Int32.le_refl _)]
      rfl
    | succ n ih =>
      intro F i x hi hF
      obtain ⟨F, rfl⟩ : ∃ g, F = g + 1 := ⟨F - 1, by omega⟩
      show g_X7_sumLess__53_31_6_b w (g_X7_sumLess__53_31_6 w F) _ _ _ _ _ m1 = _
      unfold g_X7_sumLess__53_31_6_b
      have h1 : ¬ Int32.ofNat (b + s) ≤ Int32.ofNat (b + i) := nle (by omega) (by omega)
      obtain ⟨a1, a2⟩ := hA i (by omega)
      rw [← Int32.ofNat_add, if_neg h1, gof (by omega) (by decide), tn_of (by omega), in_ib a1, a2]
      simp only [g_t, rf_vi]
      rcases hf i (by omega) with z | z
      · have z' : ¬ (0 : Int32) ≤ f i := by rw [z]; decide
        rw [if_neg z']
        show _ = some (if f i = -2 then _ else _, m1)
        rw [if_pos z]
      · have z' : ¬ f i = -2 := by intro e; rw [e] at z; exact absurd z (by decide)
        rw [if_pos z]
        show _ = some (if f i = -2 then _ else _, m1)
        rw [if_neg z', of_succ, show x - q + f i = x + f i - q by grind]
        exact ih F (i + 1) (x + f i) (by omega) (by omega)
  exact key s rf_fuel 0 0 (by omega) (by unfold rf_fuel; omega)
theorem mst {w : rf_w} {M : rf_m} {f : Nat → Int32} {r : Nat} {q : Int32} (hr : r < 30) (hA : ∀ i, i < 3 → ib (M.1 243 (3 * r + i)) 80 ∧ M.1 248 (M.1 243 (3 * r + i)).toNatClampNeg = f i) : g_X14_missOf_24 w rf_fuel (Int32.ofNat r) 0 q 0 M = some (sumM f 3 0 q, M) := by
  have o1 : ¬ (1 : Int32) = 0 := by decide
  have hs : g_X14_sizeOf w M (Int32.ofNat r) 0 = some (3, M) := by unfold g_X14_sizeOf; rw [if_pos rfl]
  have key : ∀ n F i x, i + n = 3 → n < F → g_X14_missOf_24 w F (Int32.ofNat r) 0 x (Int32.ofNat i) M = some (sumM f n i x, M) := by
    intro n
    induction n with
    | zero =>
      intro F i x hi hF
      obtain ⟨F, rfl⟩ : ∃ g, F = g + 1 := ⟨F - 1, by omega⟩
      show g_X14_missOf_24_b w _ _ _ _ _ M = _
      unfold g_X14_missOf_24_b
      have h1 : (3 : Int32) ≤ Int32.ofNat 3 := by decide
      rw [hs, show i = 3 by omega]
      simp only [rf_b]
      rw [if_pos h1]
      rfl
    | succ n ih =>
      intro F i x hi hF
      obtain ⟨F, rfl⟩ : ∃ g, F = g + 1 := ⟨F - 1, by omega⟩
      show g_X14_missOf_24_b w (g_X14_missOf_24 w F) _ _ _ _ M = _
      unfold g_X14_missOf_24_b g_X14_angleIn
      have h1 : ¬ (3 : Int32) ≤ Int32.ofNat i := nle (R := 3) (by omega) (by decide)
      obtain ⟨a1, a2⟩ := hA i (by omega)
      have e : (3 : Int32) * Int32.ofNat r + Int32.ofNat i = Int32.ofNat (3 * r + i) := by rw [Int32.ofNat_add, Int32.ofNat_mul]; rfl
      rw [hs]
      simp only [rf_b]
      rw [if_neg h1, if_pos trivial, e, gof (by omega) (by decide), tn_of (by omega)]
      simp only [g_t, rf_vi]
      rw [in_ib a1, a2]
      simp only [g_t]
      show _ = some (if f i = -2 then _ else _, M)
      by_cases z : f i = -2
      · rw [if_pos z, if_pos z]
      · rw [if_neg z, if_neg z, of_succ]
        exact ih F (i + 1) (x + f i) (by omega) (by omega)
  exact key 3 rf_fuel 0 q (by omega) (by unfold rf_fuel; omega)
theorem msr {w : rf_w} {M : rf_m} {f : Nat → Int32} {r : Nat} {q : Int32} (hr : r < 12) (h6 : iv 0 6 (M.1 246 r)) (hA : ∀ i, i < (M.1 246 r).toNatClampNeg → ib (M.1 245 (6 * r + i)) 80 ∧ M.1 248 (M.1 245 (6 * r + i)).toNatClampNeg = f i) : g_X14_missOf_24 w rf_fuel (Int32.ofNat r) 1 q 0 M = some (sumM f (M.1 246 r).toNatClampNeg 0 q, M) := by
  have o1 : ¬ (1 : Int32) = 0 := by decide
  have hR := of_tn h6.1
  have hb : (M.1 246 r).toNatClampNeg ≤ 6 := tn_le h6.1 h6.2 (by decide)
  have hs : g_X14_sizeOf w M (Int32.ofNat r) 1 = some (M.1 246 r, M) := by unfold g_X14_sizeOf; rw [if_neg o1, gof hr (by decide), g_t, tn_of (by omega)]
  have key : ∀ n F i x, i + n = (M.1 246 r).toNatClampNeg → n < F → g_X14_missOf_24 w F (Int32.ofNat r) 1 x (Int32.ofNat i) M = some (sumM f n i x, M) := by
    intro n
    induction n with
    | zero =>
      intro F i x hi hF
      obtain ⟨F, rfl⟩ : ∃ g, F = g + 1 := ⟨F - 1, by omega⟩
      show g_X14_missOf_24_b w _ _ _ _ _ M = _
      unfold g_X14_missOf_24_b
      have h1 : M.1 246 r ≤ Int32.ofNat (M.1 246 r).toNatClampNeg := by rw [hR]; exact Int32.le_refl _
      rw [hs, show i = (M.1 246 r).toNatClampNeg by omega]
      simp only [rf_b]
      rw [if_pos h1]
      rfl
    | succ n ih =>
      intro F i x hi hF
      obtain ⟨F, rfl⟩ : ∃ g, F = g + 1 := ⟨F - 1, by omega⟩
      show g_X14_missOf_24_b w (g_X14_missOf_24 w F) _ _ _ _ M = _
      unfold g_X14_missOf_24_b g_X14_angleIn
      have h1 : ¬ M.1 246 r ≤ Int32.ofNat i := by rw [← hR]; exact nle (by omega) (by omega)
      obtain ⟨a1, a2⟩ := hA i (by omega)
      have e : (6 : Int32) * Int32.ofNat r + Int32.ofNat i = Int32.ofNat (6 * r + i) := by rw [Int32.ofNat_add, Int32.ofNat_mul]; rfl
      rw [hs]
      simp only [rf_b]
      rw [if_neg h1, if_neg o1, e, gof (by omega) (by decide), tn_of (by omega)]
      simp only [g_t, rf_vi]
      rw [in_ib a1, a2]
      simp only [g_t]
      show _ = some (if f i = -2 then _ else _, M)
      by_cases z : f i = -2
      · rw [if_pos z, if_pos z]
      · rw [if_neg z, if_neg z, of_succ]
        exact ih F (i + 1) (x + f i) (by omega) (by omega)
  exact key (M.1 246 r).toNatClampNeg rf_fuel 0 q (by omega) (by unfold rf_fuel; omega)
theorem mean_rng {c a : Nat} {w : rf_w} {m : rf_m} (J : JCnt c w m) (ha : a < 80) : meanV w m 9999 a = -2 ∨ 0 ≤ meanV w m 9999 a := by
  unfold meanV
  have ki := kpt_in (a := a) (d := 9999) J
  have h20 := ki.2 ha
  have hs := (smL_rng' (m := m) (l := kpt w m 9999 a) (fun r hr => (mid_rng J.2.1 (ki.1 r hr).1 (ki.1 r hr).2.1).2) h20).1
  by_cases z : (kpt w m 9999 a).length = 0
  · rw [if_pos z]; exact Or.inl rfl
  · rw [if_neg z]
    refine Or.inr ?_
    have hp : (0 : Int32) < Int32.ofNat (kpt w m 9999 a).length := (of_lt (a := 0) (by omega) (by omega)).mpr (by omega)
    rw [i_le, divI hp]
    have : (0 : Int) ≤ (Int32.ofNat (kpt w m 9999 a).length).toInt := by
      have := i_lt.mp hp
      rw [i_0] at this; omega
    show (0 : Int) ≤ _
    exact Int.tdiv_nonneg hs this
noncomputable def tmF (w : rf_w) (m : rf_m) (t i : Nat) : Int32 := meanV w m 9999 (m.1 243 (3 * t + i)).toNatClampNeg
noncomputable def rmF (w : rf_w) (m : rf_m) (r i : Nat) : Int32 := meanV w m 9999 (m.1 245 (6 * r + i)).toNatClampNeg
noncomputable def tmV (w : rf_w) (m : rf_m) (t : Nat) : Int32 := sumM (tmF w m t) 3 0 (-6480000 - m.1 244 t)
noncomputable def rmV (w : rf_w) (m : rf_m) (r : Nat) : Int32 := sumM (rmF w m r) (m.1 246 r).toNatClampNeg 0 (-12960000)
/-- the corners and turns are angles -/
theorem net_t {m : rf_m} (jn : JNet m) (ja : JAng m) {t i : Nat} (ht : t < (m.1 206 64).toNatClampNeg) (hi : i < 3) : ib (m.1 243 (3 * t + i)) 80 ∧ (m.1 243 (3 * t + i)).toNatClampNeg < (m.1 206 16).toNatClampNeg := by
  obtain ⟨_, _, _, _, _, _, _, _, _, _, _, jt, _⟩ := jn
  obtain ⟨t0, t1, t2, _⟩ := jt t ht
  have h16 := ja.2.1.2
  have g : ∀ x : Int32, 0 ≤ x ∧ x < m.1 206 16 → ib x 80 ∧ x.toNatClampNeg < (m.1 206 16).toNatClampNeg := fun x hx => ⟨⟨hx.1, by have := hx.2; clear jt t0 t1 t2; grind⟩, tn_lt2 hx.1 hx.2⟩
  have : i = 0 ∨ i = 1 ∨ i = 2 := by omega
  rcases this with rfl | rfl | rfl
  · exact g _ t0
  · exact g _ t1
  · exact g _ t2
theorem net_r {m : rf_m} (jn : JNet m) (ja : JAng m) {r i : Nat} (hr : r < (m.1 206 65).toNatClampNeg) (hi : i < (m.1 246 r).toNatClampNeg) : ib (m.1 245 (6 * r + i)) 80 ∧ (m.1 245 (6 * r + i)).toNatClampNeg < (m.1 206 16).toNatClampNeg := by
  obtain ⟨_, _, _, _, _, _, _, _, _, _, _, _, jr⟩ := jn
  have hx := jr r i hr hi
  have h16 := ja.2.1.2
  exact ⟨⟨hx.1, by have := hx.2; clear jr; grind⟩, tn_lt2 hx.1 hx.2⟩
theorem net30 {m : rf_m} (jn : JNet m) : (m.1 206 64).toNatClampNeg ≤ 30 ∧ (m.1 206 65).toNatClampNeg ≤ 12 := ⟨tn_le jn.2.1.1 jn.2.1.2 (by decide), tn_le jn.2.2.2.1.1 jn.2.2.2.1.2 (by decide)⟩
theorem all_c {w : rf_w} {m m2 : rf_m} (h : allF w m m2) (c : Nat) (hc : c < 18 ∨ (19 ≤ c ∧ c ≤ 24) ∨ (27 ≤ c ∧ c ≤ 30) ∨ c = 33 ∨ (36 ≤ c ∧ c ≤ 39) ∨ 41 ≤ c) : m2.1 c = m.1 c := h.1 c (by omega) (by omega) (by omega) (by omega) (by omega) (by omega) (by omega) (by omega)
theorem tm_c {c t : Nat} {w : rf_w} {m m2 : rf_m} (J : JCnt c w m) (jn : JNet m) (h : allF w m m2) (ht : t < (m.1 206 64).toNatClampNeg) : g_X7_triangleMiss__31 w m2 (Int32.ofNat t) = some (tmV w m t, m2) := by
  have n30 := (net30 jn).1
  have h80 := ang80 J.2.2.2.2.1
  have e51 : m2.1 51 = m.1 243 := by rw [all_c h 51 (by omega)]; exact jn.2.2.2.2.1
  have e52 : m2.1 52 = m.1 244 := by rw [all_c h 52 (by omega)]; exact jn.2.2.2.2.2.1
  have := sl51 (w := w) (m1 := m2) (f := tmF w m t) (b := 3 * t) (s := 3) (q := 6480000 + m.1 244 t) (by omega) (fun i hi => by
    rw [e51]
    obtain ⟨q1, q2⟩ := net_t jn J.2.2.2.2.1 ht hi
    exact ⟨q1, (h.2.2.2.2.2 _ q2).2.1.1⟩) (fun i hi => mean_rng J (by have := (net_t jn J.2.2.2.2.1 ht hi).2; omega))
  unfold g_X7_triangleMiss__31
  have e3 : Int32.ofNat t * 3 = Int32.ofNat (3 * t) := by rw [Nat.mul_comm, Int32.ofNat_mul]; rfl
  rw [gof (by omega) (by decide), g_t, tn_of (by omega), e52, e3]
  have this' : g_X7_sumLess__51_31 w m2 (Int32.ofNat (3 * t)) 3 (6480000 + m.1 244 t) = _ := this
  rw [this']
  unfold tmV
  rw [show (-6480000 : Int32) - m.1 244 t = 0 - (6480000 + m.1 244 t) by grind]
  rfl
theorem rm_c {c r : Nat} {w : rf_w} {m m2 : rf_m} (J : JCnt c w m) (jn : JNet m) (h : allF w m m2) (hr : r < (m.1 206 65).toNatClampNeg) : g_X7_roundMiss__31 w m2 (Int32.ofNat r) = some (rmV w m r, m2) := by
  have n12 := (net30 jn).2
  have h80 := ang80 J.2.2.2.2.1
  have e53 : m2.1 53 = m.1 245 := by rw [all_c h 53 (by omega)]; exact jn.2.2.2.2.2.2.1
  have e54 : m2.1 54 = m.1 246 := by rw [all_c h 54 (by omega)]; exact jn.2.2.2.2.2.2.2.1
  have h6 := jn.2.2.2.2.2.2.2.2.2.2.1 r
  have hb : (m.1 246 r).toNatClampNeg ≤ 6 := tn_le h6.1 h6.2 (by decide)
  have hR := of_tn h6.1
  have := sl53 (w := w) (m1 := m2) (f := rmF w m r) (b := 6 * r) (s := (m.1 246 r).toNatClampNeg) (q := 12960000) (by omega) (fun i hi => by
    rw [e53]
    obtain ⟨q1, q2⟩ := net_r jn J.2.2.2.2.1 hr hi
    exact ⟨q1, (h.2.2.2.2.2 _ q2).2.1.1⟩) (fun i hi => mean_rng J (by have := (net_r jn J.2.2.2.2.1 hr hi).2; omega))
  unfold g_X7_roundMiss__31
  have e3 : Int32.ofNat r * 6 = Int32.ofNat (6 * r) := by rw [Nat.mul_comm, Int32.ofNat_mul]; rfl
  rw [hR] at this
  rw [gof (by omega) (by decide), g_t, tn_of (by omega), e54, e3, this]
  rfl
/-- M has m's net and its means -/
def nA (w : rf_w) (m M : rf_m) : Prop := (∀ c, 243 ≤ c ∧ c ≤ 246 → M.1 c = m.1 c) ∧ M.1 206 64 = m.1 206 64 ∧ M.1 206 65 = m.1 206 65 ∧ ∀ a, a < (m.1 206 16).toNatClampNeg → M.1 248 a = meanV w m 9999 a
theorem nA_me {w : rf_w} {m m2 M : rf_m} (h : allF w m m2) (hM : meF (rf_i m2 206 0 0) M) (k : ∀ a, a < (m.1 206 16).toNatClampNeg → M.1 248 a = meanV w m 9999 a) : nA w m M := by
  have e206 : m2.1 206 = m.1 206 := all_c h 206 (by omega)
  refine ⟨fun c hc => ?_, ?_, ?_, k⟩
  · rw [hM.1 c (by omega) (by omega) (by omega) (by omega) (by omega) (by omega), rf_i_c, if_neg (by omega)]
    exact all_c h c (by omega)
  · rw [hM.2.1 64 (by omega), rf_i_c, if_pos rfl, pu_ne (by decide), e206]
  · rw [hM.2.1 65 (by omega), rf_i_c, if_pos rfl, pu_ne (by decide), e206]
theorem tm_r {t : Nat} {w : rf_w} {m M : rf_m} (ja : JAng m) (jn : JNet m) (h : nA w m M) (ht : t < (m.1 206 64).toNatClampNeg) : g_X14_missOf w M (Int32.ofNat t) 0 = some (tmV w m t, M) := by
  have n30 := (net30 jn).1
  unfold g_X14_missOf g_X14_missOf_20
  rw [if_pos rfl, gof (by omega) (by decide), g_t, tn_of (by omega), h.1 244 (by omega)]
  exact mst (by omega) (fun i hi => by
    rw [h.1 243 (by omega)]
    obtain ⟨q1, q2⟩ := net_t jn ja ht hi
    exact ⟨q1, h.2.2.2 _ q2⟩)
theorem rm_r {r : Nat} {w : rf_w} {m M : rf_m} (ja : JAng m) (jn : JNet m) (h : nA w m M) (hr : r < (m.1 206 65).toNatClampNeg) : g_X14_missOf w M (Int32.ofNat r) 1 = some (rmV w m r, M) := by
  have n12 := (net30 jn).2
  have o1 : ¬ (1 : Int32) = 0 := by decide
  have h6 := jn.2.2.2.2.2.2.2.2.2.2.1 r
  have e6 := h.1 246 (by omega)
  unfold g_X14_missOf g_X14_missOf_20
  rw [if_neg o1]
  have := msr (w := w) (M := M) (f := rmF w m r) (r := r) (q := -12960000) (by omega) (by rw [e6]; exact h6) (fun i hi => by
    rw [e6] at hi
    rw [h.1 245 (by omega)]
    obtain ⟨q1, q2⟩ := net_r jn ja hr hi
    exact ⟨q1, h.2.2.2 _ q2⟩)
  rw [this, e6]
  rfl
/-- miss -/
theorem k26 {c : Nat} {w : rf_w} {m : rf_m} {y : Nat → Int32} (J : JCnt c w m) (jc : JCache w m) (jn : JNet m) : wp (g_lc_26 w m y) (fun r => r.1 = w ∧ JCnt c w r.2 ∧ JCache w r.2) := by
  obtain ⟨m2, e1, e2⟩ := freshenAll_c J jc
  obtain ⟨M', g1, g2, g3⟩ := allMeans_r J (mA_all e2)
  have hN := nA_me e2 g2 g3
  have o1 : ¬ (1 : Int32) = 0 := by decide
  have ja := J.2.2.2.2.1
  have q64 : m2.1 50 0 = m.1 206 64 := by rw [all_c e2 50 (by omega)]; exact jn.1
  have q65 : m2.1 50 1 = m.1 206 65 := by rw [all_c e2 50 (by omega)]; exact jn.2.2.1
  have p206 : m2.1 206 = m.1 206 := all_c e2 206 (by omega)
  have p64 : (rf_i m2 206 0 0).1 206 64 = m.1 206 64 := by rw [rf_i_c, if_pos rfl, pu_ne (by decide), p206]
  have p65 : (rf_i m2 206 0 0).1 206 65 = m.1 206 65 := by rw [rf_i_c, if_pos rfl, pu_ne (by decide), p206]
  have meR : meF (rf_i m2 206 0 0) (rf_i m2 206 0 0) := goF_me (goF_refl _)
  have f0 := fin_all J e2 meR
  have f1 := fin_all J e2 g2
  have i64 := jn.2.1
  have i65 := jn.2.2.2.1
  have bz : rf_bz (y 2) = 0 ∨ rf_bz (y 2) = 1 := by
    unfold rf_bz
    by_cases z : y 2 = 0
    · rw [if_pos z]; exact Or.inl rfl
    · rw [if_neg z]; exact Or.inr rfl
  unfold g_lc_26 g_X11_miss g_X14_miss
  rcases bz with z | z
  · rw [z]
    by_cases h1 : ib (y 1) (m.1 206 64)
    · have ey : Int32.ofNat (y 1).toNatClampNeg = y 1 := of_tn h1.1
      have hA : (y 1).toNatClampNeg < (m.1 206 64).toNatClampNeg := tn_lt2 h1.1 h1.2
      have c1 := tm_c J jn e2 hA
      have c2 := tm_r ja jn hN hA
      rw [ey] at c1 c2
      have l0 : ¬ y 1 < 0 := by have := h1.1; clear J jn e2; grind
      have l1 := h1.2
      simp only [wp_b, wp_bv, wp_g, wp_ite, wp_some, X7_isTriangle, bi_eq0, e1, q64, h1, c1, l0, p64, l1, g1, c2, not_true, false_implies, not_false_eq_true, true_implies, true_and, and_true, decide_true]
      exact f1
    · have l1 : ¬ y 1 < 0 → ¬ y 1 < m.1 206 64 := fun a b => h1 ⟨by clear J jn e2; grind, b⟩
      simp only [wp_b, wp_bv, wp_g, wp_ite, wp_some, X7_isTriangle, bi_eq0, e1, q64, h1, p64, not_true, false_implies, not_false_eq_true, true_implies, true_and, and_true, decide_true]
      exact ⟨fun _ => f0, fun a => ⟨fun b => absurd b (l1 a), fun _ => f0⟩⟩
  · rw [z]
    by_cases h1 : ib (y 1) (m.1 206 65)
    · have ey : Int32.ofNat (y 1).toNatClampNeg = y 1 := of_tn h1.1
      have hA : (y 1).toNatClampNeg < (m.1 206 65).toNatClampNeg := tn_lt2 h1.1 h1.2
      have c1 := rm_c J jn e2 hA
      have c2 := rm_r ja jn hN hA
      rw [ey] at c1 c2
      have l0 : ¬ y 1 < 0 := by have := h1.1; clear J jn e2; grind
      have l1 := h1.2
      have l2 : iv 0 (m.1 206 65 - 1) (y 1) := ⟨h1.1, by have a := h1.2; have b := i65.1; have b' := i65.2; have d := h1.1; clear J jn e2; grind⟩
      simp only [wp_b, wp_bv, wp_g, wp_ite, wp_some, X11_isWithin, bi_eq0, e1, q65, l2, c1, l0, p65, l1, g1, c2, o1, not_true, false_implies, not_false_eq_true, true_implies, true_and, and_true, decide_true]
      exact f1
    · have l1 : ¬ y 1 < 0 → ¬ y 1 < m.1 206 65 := fun a b => h1 ⟨by clear J jn e2; grind, b⟩
      have l2 : ¬ iv 0 (m.1 206 65 - 1) (y 1) := fun q => h1 ⟨q.1, by have a := q.2; have b := i65.1; have b' := i65.2; have d := q.1; clear J jn e2; grind⟩
      simp only [wp_b, wp_bv, wp_g, wp_ite, wp_some, X11_isWithin, bi_eq0, e1, q65, l2, p65, o1, not_true, false_implies, not_false_eq_true, true_implies, true_and, and_true, decide_true]
      exact ⟨fun _ => f0, fun a => ⟨fun b => absurd b (l1 a), fun _ => f0⟩⟩
end PBMiss
