/-! wide -/
section PBWideC
noncomputable def bdV (v L : Int32) : Int32 := if v = -2147483648 then 0 else if ab v ≤ L then 0 else 1
theorem bd01 {v L : Int32} : bdV v L = 0 ∨ bdV v L = 1 := by
  unfold bdV
  by_cases h : v = -2147483648
  · rw [if_pos h]; exact Or.inl rfl
  · rw [if_neg h]
    by_cases q : ab v ≤ L
    · rw [if_pos q]; exact Or.inl rfl
    · rw [if_neg q]; exact Or.inr rfl
theorem beyond_c {w : rf_w} {m : rf_m} {v L : Int32} : g_X7_isBeyond w m v L = some (bdV v L, m) := by
  unfold g_X7_isBeyond bdV
  rw [abs_eq]
  simp only [rf_b]
  by_cases h : v = -2147483648
  · rw [if_pos h, if_pos h]
  · rw [if_neg h, if_neg h]
    by_cases q : ab v ≤ L
    · rw [if_pos q, if_pos q]
    · rw [if_neg q, if_neg q]
theorem wide_r {w : rf_w} {m : rf_m} {v L : Int32} (hL : 0 ≤ L) : g_X14_isWide w m v L = some (bdV v L, m) := by
  unfold g_X14_isWide bdV ab
  by_cases h : v = -2147483648
  · rw [if_pos h, if_pos h]
  · rw [if_neg h, if_neg h]
    by_cases z : (0 : Int32) ≤ v
    · rw [if_pos z]
      by_cases q : v ≤ L
      · have q1 : ¬ L < v := by grind
        have q2 : -L ≤ v := by grind
        rw [if_pos q, if_neg q1, if_pos q2]
      · have q1 : L < v := by grind
        rw [if_neg q, if_pos q1]
    · rw [if_neg z]
      have q1 : ¬ L < v := by grind
      rw [if_neg q1]
      by_cases q : -v ≤ L
      · have q2 : -L ≤ v := by grind
        rw [if_pos q, if_pos q2]
      · have q2 : ¬ -L ≤ v := by grind
        rw [if_neg q, if_neg q2]
noncomputable def cS (f : Nat → Int32) (L : Int32) : Nat → Nat → Int32 → Int32
  | 0, _, x => x
  | n + 1, i, x => cS f L n (i + 1) (x + bdV (f i) L)
theorem wideOnes_c {c : Nat} {w : rf_w} {m m2 : rf_m} {L : Int32} (J : JCnt c w m) (jn : JNet m) (h : allF w m m2) : g_X7_wideOnes w m2 L = some (cS (rmV w m) L (m.1 206 65).toNatClampNeg 0 (cS (tmV w m) L (m.1 206 64).toNatClampNeg 0 0), m2) := by
  have o1 : ¬ (1 : Int32) = 0 := by decide
  obtain ⟨n30, n12⟩ := net30 jn
  have q64 : m2.1 50 0 = m.1 206 64 := by rw [all_c h 50 (by omega)]; exact jn.1
  have q65 : m2.1 50 1 = m.1 206 65 := by rw [all_c h 50 (by omega)]; exact jn.2.2.1
  have hT := of_tn jn.2.1.1
  have hR := of_tn jn.2.2.2.1.1
  generalize hTT : (m.1 206 64).toNatClampNeg = T at *
  generalize hRR : (m.1 206 65).toNatClampNeg = R at *
  have lim : m2.1 50 0 + m2.1 50 1 = Int32.ofNat (T + R) := by rw [q64, q65, ← hT, ← hR, ← Int32.ofNat_add]
  have keyR : ∀ n F j x, j + n = R → n < F → g_X7_wideOnes_4 w F L x (Int32.ofNat (T + j)) m2 = some (cS (rmV w m) L n j x, m2) := by
    intro n
    induction n with
    | zero =>
      intro F j x hi hF
      obtain ⟨F, rfl⟩ : ∃ g, F = g + 1 := ⟨F - 1, by omega⟩
      show g_X7_wideOnes_4_b w _ _ _ _ m2 = _
      unfold g_X7_wideOnes_4_b
      rw [lim, show j = R by omega, if_pos (Int32.le_refl _)]
      rfl
    | succ n ih =>
      intro F j x hi hF
      obtain ⟨F, rfl⟩ : ∃ g, F = g + 1 := ⟨F - 1, by omega⟩
      show g_X7_wideOnes_4_b w (g_X7_wideOnes_4 w F) _ _ _ m2 = _
      unfold g_X7_wideOnes_4_b g_X7_wideOnes_39 g_X7_missOf__31
      have h1 : ¬ Int32.ofNat (T + R) ≤ Int32.ofNat (T + j) := nle (by omega) (by omega)
      have h2 : m2.1 50 0 ≤ Int32.ofNat (T + j) := by rw [q64, ← hT]; exact (of_le (by omega) (by omega)).mpr (by omega)
      have h3 : Int32.ofNat (T + j) - m2.1 50 0 = Int32.ofNat j := by rw [q64, ← hT, Int32.ofNat_add]; generalize Int32.ofNat T = a; generalize Int32.ofNat j = b; clear J jn h; grind
      have := rm_c J jn h (r := j) (by omega)
      rw [lim, if_neg h1, if_pos h2, h3, this]
      simp only [rf_b]
      rw [beyond_c]
      simp only
      show _ = some (cS (rmV w m) L n (j + 1) (x + bdV (rmV w m j) L), m2)
      rcases bd01 (v := rmV w m j) (L := L) with z | z
      · rw [z, if_pos rfl, of_succ, Int32.add_zero]
        exact ih F (j + 1) x (by omega) (by omega)
      · rw [z, if_neg o1, of_succ]
        exact ih F (j + 1) (x + 1) (by omega) (by omega)
  have keyT : ∀ n F i x, i + n = T → n + R < F → g_X7_wideOnes_4 w F L x (Int32.ofNat i) m2 = some (cS (rmV w m) L R 0 (cS (tmV w m) L n i x), m2) := by
    intro n
    induction n with
    | zero =>
      intro F i x hi hF
      have := keyR R F 0 x (by omega) (by omega)
      rw [show i = T + 0 by omega, this]
      rfl
    | succ n ih =>
      intro F i x hi hF
      obtain ⟨F, rfl⟩ : ∃ g, F = g + 1 := ⟨F - 1, by omega⟩
      show g_X7_wideOnes_4_b w (g_X7_wideOnes_4 w F) _ _ _ m2 = _
      unfold g_X7_wideOnes_4_b g_X7_wideOnes_39 g_X7_missOf__31
      have h1 : ¬ Int32.ofNat (T + R) ≤ Int32.ofNat i := nle (by omega) (by omega)
      have h2 : ¬ m2.1 50 0 ≤ Int32.ofNat i := by rw [q64, ← hT]; exact nle (by omega) (by omega)
      have := tm_c J jn h (t := i) (by omega)
      rw [lim, if_neg h1, if_neg h2, this]
      simp only [rf_b]
      rw [beyond_c]
      simp only
      show _ = some (cS (rmV w m) L R 0 (cS (tmV w m) L n (i + 1) (x + bdV (tmV w m i) L)), m2)
      rcases bd01 (v := tmV w m i) (L := L) with z | z
      · rw [z, if_pos rfl, of_succ, Int32.add_zero]
        exact ih F (i + 1) x (by omega) (by omega)
      · rw [z, if_neg o1, of_succ]
        exact ih F (i + 1) (x + 1) (by omega) (by omega)
  exact keyT T rf_fuel 0 0 (by omega) (by unfold rf_fuel; omega)
theorem wideOnes_r {w : rf_w} {m M : rf_m} {L : Int32} (hL : 0 ≤ L) (ja : JAng m) (jn : JNet m) (h : nA w m M) : g_X14_wideOnes w M L = some (cS (rmV w m) L (m.1 206 65).toNatClampNeg 0 (cS (tmV w m) L (m.1 206 64).toNatClampNeg 0 0), M) := by
  have o1 : ¬ (1 : Int32) = 0 := by decide
  obtain ⟨n30, n12⟩ := net30 jn
  have hT := of_tn jn.2.1.1
  have hR := of_tn jn.2.2.2.1.1
  have q64 := h.2.1
  have q65 := h.2.2.1
  generalize hTT : (m.1 206 64).toNatClampNeg = T at *
  generalize hRR : (m.1 206 65).toNatClampNeg = R at *
  have keyR : ∀ n F j x, j + n = R → n < F → g_X14_wideOnes_41 w F L x (Int32.ofNat j) M = some (cS (rmV w m) L n j x, M) := by
    intro n
    induction n with
    | zero =>
      intro F j x hi hF
      obtain ⟨F, rfl⟩ : ∃ g, F = g + 1 := ⟨F - 1, by omega⟩
      show g_X14_wideOnes_41_b w _ _ _ _ M = _
      unfold g_X14_wideOnes_41_b
      rw [q65, ← hR, show j = R by omega, if_pos (Int32.le_refl _)]
      rfl
    | succ n ih =>
      intro F j x hi hF
      obtain ⟨F, rfl⟩ : ∃ g, F = g + 1 := ⟨F - 1, by omega⟩
      show g_X14_wideOnes_41_b w (g_X14_wideOnes_41 w F) _ _ _ M = _
      unfold g_X14_wideOnes_41_b g_X14_wideOnes_68
      have h1 : ¬ m.1 206 65 ≤ Int32.ofNat j := by rw [← hR]; exact nle (by omega) (by omega)
      have := rm_r (r := j) ja jn h (by omega)
      rw [q65, if_neg h1, this]
      simp only [rf_b]
      rw [wide_r hL]
      simp only
      show _ = some (cS (rmV w m) L n (j + 1) (x + bdV (rmV w m j) L), M)
      rcases bd01 (v := rmV w m j) (L := L) with z | z
      · rw [z, if_pos rfl, of_succ]
        exact ih F (j + 1) (x + 0) (by omega) (by omega)
      · rw [z, if_neg o1, of_succ]
        exact ih F (j + 1) (x + 1) (by omega) (by omega)
  have keyT : ∀ n F i x, i + n = T → n < F → g_X14_wideOnes_4 w F L x (Int32.ofNat i) M = some (cS (rmV w m) L R 0 (cS (tmV w m) L n i x), M) := by
    intro n
    induction n with
    | zero =>
      intro F i x hi hF
      obtain ⟨F, rfl⟩ : ∃ g, F = g + 1 := ⟨F - 1, by omega⟩
      show g_X14_wideOnes_4_b w _ _ _ _ M = _
      unfold g_X14_wideOnes_4_b
      rw [q64, ← hT, show i = T by omega, if_pos (Int32.le_refl _)]
      exact keyR R rf_fuel 0 x (by omega) (by unfold rf_fuel; omega)
    | succ n ih =>
      intro F i x hi hF
      obtain ⟨F, rfl⟩ : ∃ g, F = g + 1 := ⟨F - 1, by omega⟩
      show g_X14_wideOnes_4_b w (g_X14_wideOnes_4 w F) _ _ _ M = _
      unfold g_X14_wideOnes_4_b g_X14_wideOnes_31
      have h1 : ¬ m.1 206 64 ≤ Int32.ofNat i := by rw [← hT]; exact nle (by omega) (by omega)
      have := tm_r (t := i) ja jn h (by omega)
      rw [q64, if_neg h1, this]
      simp only [rf_b]
      rw [wide_r hL]
      simp only
      show _ = some (cS (rmV w m) L R 0 (cS (tmV w m) L n (i + 1) (x + bdV (tmV w m i) L)), M)
      rcases bd01 (v := tmV w m i) (L := L) with z | z
      · rw [z, if_pos rfl, of_succ]
        exact ih F (i + 1) (x + 0) (by omega) (by omega)
      · rw [z, if_neg o1, of_succ]
        exact ih F (i + 1) (x + 1) (by omega) (by omega)
  exact keyT T rf_fuel 0 0 (by omega) (by unfold rf_fuel; omega)
/-- wide -/
theorem k28 {c : Nat} {w : rf_w} {m : rf_m} {y : Nat → Int32} (J : JCnt c w m) (jc : JCache w m) (jD : JD m) (jn : JNet m) : wp (g_lc_28 w m y) (fun r => r.1 = w ∧ JCnt c w r.2 ∧ JCache w r.2) := by
  have ja := J.2.2.2.2.1
  have ju := J.2.2.2.1
  have hL : 0 ≤ allowV m (m.1 206 5) := by
    unfold allowV
    by_cases z : 0 < latV m 5 (m.1 206 5) 100
    · rw [if_pos z]; exact Int32.le_of_lt z
    · rw [if_neg z]; decide
  obtain ⟨m2, e1, e2⟩ := freshenAll_c J jc
  have d10 : m2.1 0 10 = m.1 206 5 := by rw [all_c e2 0 (by omega)]; exact jD.1
  obtain ⟨F, f, hF⟩ := allow_c (w := w) (m := m2) (day := m.1 206 5) (keep_rule (all_keep e2) ju)
  generalize hm3 : stl (stc m2 18 f) 25 F = m3 at hF
  have e3 : allF w m m3 := all_18 e2 (fun c hc => by rw [← hm3]; show (stc m2 18 f).1 c = _; rw [stc_c, if_neg hc])
  have eL : allowV m2 (m.1 206 5) = allowV m (m.1 206 5) := by unfold allowV; rw [lat_m (all_keep e2)]
  rw [eL] at hF
  obtain ⟨M', g1, g2, g3⟩ := allMeans_r J (mA_all e3)
  have hAM := meF_mA (mA_all e3) g2
  obtain ⟨G, g, hG⟩ := allow_r (w := w) (m := m) (M := M') ju (mA_ag ju hAM)
  rw [hAM.2.1] at hG
  have g2' : meF (rf_i m3 206 0 0) (stc (stc M' 228 g) 235 G) := meF_c (meF_c g2 (by omega)) (by omega)
  have hN := nA_me e3 g2' (fun a ha => g3 a ha)
  have c1 := wideOnes_c (L := allowV m (m.1 206 5)) J jn e3
  have c2 := wideOnes_r (L := allowV m (m.1 206 5)) hL ja jn hN
  have f1 := fin_all J e3 g2'
  unfold g_lc_28 g_X11_wide g_X14_wide
  simp only [wp_b, wp_bv, wp_g, wp_ite, wp_some, e1, d10, hF, c1, g1, hG, c2, decide_true, true_and]
  exact f1
end PBWideC
