/-! well, wide -/
section PBWide
theorem lat_m {m m1 : rf_m} {a b d : Int32} (h : keep m m1) : latV m1 a b d = latV m a b d := by
  unfold latV dueP tv totV
  rw [h.1 19 (by omega), h.1 20 (by omega), h.1 21 (by omega), h.1 22 (by omega), h.1 24 (by omega), h.2.2.1 39 (by omega)]
noncomputable def wlI (f : Nat → Int32) (L : Int32) : Nat → Nat → Int32
  | 0, _ => 1
  | n + 1, i => if f i = -2 then 0 else if L ≤ f i then wlI f L n (i + 1) else 0
theorem wl01 {f : Nat → Int32} {L : Int32} : ∀ n i, wlI f L n i = 0 ∨ wlI f L n i = 1 := by
  intro n
  induction n with
  | zero => intro i; exact Or.inr rfl
  | succ n ih =>
    intro i
    show (if f i = -2 then 0 else if L ≤ f i then wlI f L n (i + 1) else 0) = 0 ∨ (if f i = -2 then 0 else if L ≤ f i then wlI f L n (i + 1) else 0) = (1 : Int32)
    by_cases h : f i = -2
    · rw [if_pos h]; exact Or.inl rfl
    · rw [if_neg h]
      by_cases h2 : L ≤ f i
      · rw [if_pos h2]; exact ih (i + 1)
      · rw [if_neg h2]; exact Or.inl rfl
theorem wl_c {w : rf_w} {m1 : rf_m} {f : Nat → Int32} {t : Nat} {L : Int32} (ht : t < 30) (hA : ∀ i, i < 3 → ib (m1.1 51 (3 * t + i)) 80 ∧ m1.1 31 (m1.1 51 (3 * t + i)).toNatClampNeg = f i) (hf : ∀ i, i < 3 → f i = -2 ∨ 0 ≤ f i) : g_X7_isWell w m1 (Int32.ofNat t) L = some (wlI f L 3 0, m1) := by
  have key : ∀ n F i, i + n = 3 → n < F → g_X7_isWell_2 w F (Int32.ofNat t) L (Int32.ofNat i) m1 = some (wlI f L n i, m1) := by
    intro n
    induction n with
    | zero =>
      intro F i hi hF
      obtain ⟨F, rfl⟩ : ∃ g, F = g + 1 := ⟨F - 1, by omega⟩
      show g_X7_isWell_2_b w _ _ _ _ m1 = _
      unfold g_X7_isWell_2_b
      rw [show i = 3 by omega, if_pos (by decide)]
      rfl
    | succ n ih =>
      intro F i hi hF
      obtain ⟨F, rfl⟩ : ∃ g, F = g + 1 := ⟨F - 1, by omega⟩
      show g_X7_isWell_2_b w (g_X7_isWell_2 w F) _ _ _ m1 = _
      unfold g_X7_isWell_2_b g_X7_cornerOf
      have h1 : ¬ (3 : Int32) ≤ Int32.ofNat i := nle (R := 3) (by omega) (by decide)
      obtain ⟨a1, a2⟩ := hA i (by omega)
      have e : Int32.ofNat t * 3 + Int32.ofNat i = Int32.ofNat (3 * t + i) := by rw [Int32.ofNat_add, Nat.mul_comm, Int32.ofNat_mul]; rfl
      rw [if_neg h1, e, gof (by omega) (by decide), tn_of (by omega)]
      simp only [g_t, rf_b, rf_vi]
      rw [in_ib a1, a2]
      simp only [g_t]
      show _ = some (if f i = -2 then 0 else if L ≤ f i then wlI f L n (i + 1) else 0, m1)
      rcases hf i (by omega) with z | z
      · have z' : f i < 0 := by rw [z]; decide
        rw [if_pos z', if_pos z]
      · have z' : ¬ f i < 0 := by clear hA hf ih; grind
        have z2 : ¬ f i = -2 := by intro q; rw [q] at z; exact absurd z (by decide)
        rw [if_neg z', if_neg z2]
        by_cases q : L ≤ f i
        · rw [if_pos q, if_pos q, of_succ]; exact ih F (i + 1) (by omega) (by omega)
        · rw [if_neg q, if_neg q]
  exact key 3 rf_fuel 0 (by omega) (by unfold rf_fuel; omega)
theorem wl_r {w : rf_w} {M : rf_m} {f : Nat → Int32} {t : Nat} {L : Int32} (ht : t < 30) (hA : ∀ i, i < 3 → ib (M.1 243 (3 * t + i)) 80 ∧ M.1 248 (M.1 243 (3 * t + i)).toNatClampNeg = f i) : g_X14_isWell_12 w rf_fuel (Int32.ofNat t) 1 L 0 M = some (wlI f L 3 0, M) := by
  have o1 : ¬ (1 : Int32) = 0 := by decide
  have key0 : ∀ n F i, i + n = 3 → n < F → g_X14_isWell_12 w F (Int32.ofNat t) 0 L (Int32.ofNat i) M = some (0, M) := by
    intro n
    induction n with
    | zero =>
      intro F i hi hF
      obtain ⟨F, rfl⟩ : ∃ g, F = g + 1 := ⟨F - 1, by omega⟩
      show g_X14_isWell_12_b w _ _ _ _ _ M = _
      unfold g_X14_isWell_12_b
      rw [show i = 3 by omega, if_pos (by decide)]
      rfl
    | succ n ih =>
      intro F i hi hF
      obtain ⟨F, rfl⟩ : ∃ g, F = g + 1 := ⟨F - 1, by omega⟩
      show g_X14_isWell_12_b w (g_X14_isWell_12 w F) _ _ _ _ M = _
      unfold g_X14_isWell_12_b g_X14_isWell_67 g_X14_isWell_68
      have h1 : ¬ (3 : Int32) ≤ Int32.ofNat i := nle (R := 3) (by omega) (by decide)
      rw [if_neg h1, if_pos rfl, of_succ]
      exact ih F (i + 1) (by omega) (by omega)
  have key : ∀ n F i, i + n = 3 → n < F → g_X14_isWell_12 w F (Int32.ofNat t) 1 L (Int32.ofNat i) M = some (wlI f L n i, M) := by
    intro n
    induction n with
    | zero =>
      intro F i hi hF
      obtain ⟨F, rfl⟩ : ∃ g, F = g + 1 := ⟨F - 1, by omega⟩
      show g_X14_isWell_12_b w _ _ _ _ _ M = _
      unfold g_X14_isWell_12_b
      rw [show i = 3 by omega, if_pos (by decide)]
      rfl
    | succ n ih =>
      intro F i hi hF
      obtain ⟨F, rfl⟩ : ∃ g, F = g + 1 := ⟨F - 1, by omega⟩
      show g_X14_isWell_12_b w (g_X14_isWell_12 w F) _ _ _ _ M = _
      unfold g_X14_isWell_12_b g_X14_isWell_67 g_X14_isWell_68
      have h1 : ¬ (3 : Int32) ≤ Int32.ofNat i := nle (R := 3) (by omega) (by decide)
      obtain ⟨a1, a2⟩ := hA i (by omega)
      have e : (3 : Int32) * Int32.ofNat t + Int32.ofNat i = Int32.ofNat (3 * t + i) := by rw [Int32.ofNat_add, Int32.ofNat_mul]; rfl
      rw [if_neg h1, if_neg o1, e, gof (by omega) (by decide), tn_of (by omega), in_ib a1, a2]
      simp only [g_t]
      rw [of_succ, key0 n F (i + 1) (by omega) (by omega), ih F (i + 1) (by omega) (by omega)]
      show _ = some (if f i = -2 then 0 else if L ≤ f i then wlI f L n (i + 1) else 0, M)
      by_cases z : f i = -2
      · rw [if_pos z, if_pos z]
      · rw [if_neg z, if_neg z]
        by_cases q : L ≤ f i
        · have q' : ¬ f i < L := by clear hA ih key0; grind
          rw [if_neg q', if_pos q]
        · have q' : f i < L := by clear hA ih key0; grind
          rw [if_pos q', if_neg q]
  exact key 3 rf_fuel 0 (by omega) (by unfold rf_fuel; omega)
theorem meF_c {a b : rf_m} {c : Nat} {f : Nat → Int32} (h : meF a b) (hc : c = 226 ∨ c = 227 ∨ c = 228 ∨ c = 235) : meF a (stc b c f) := ⟨fun x h1 h2 h3 h4 h5 h6 => by rw [stc_c, if_neg (by omega)]; exact h.1 x h1 h2 h3 h4 h5 h6, fun i hi => by rw [stc_c, if_neg (by omega)]; exact h.2.1 i hi, h.2.2⟩
/-- well -/
theorem k27 {c : Nat} {w : rf_w} {m : rf_m} {y : Nat → Int32} (J : JCnt c w m) (jc : JCache w m) (jD : JD m) (jn : JNet m) : wp (g_lc_27 w m y) (fun r => r.1 = w ∧ JCnt c w r.2 ∧ JCache w r.2) := by
  have o1 : ¬ (1 : Int32) = 0 := by decide
  have ja := J.2.2.2.2.1
  have ju := J.2.2.2.1
  have q64 : m.1 50 0 = m.1 206 64 := jn.1
  have p64 : (rf_i m 206 0 0).1 206 64 = m.1 206 64 := rfl
  unfold g_lc_27 g_X11_well g_X14_well
  by_cases h1 : ib (y 1) (m.1 206 64)
  · have ey : Int32.ofNat (y 1).toNatClampNeg = y 1 := of_tn h1.1
    have hA : (y 1).toNatClampNeg < (m.1 206 64).toNatClampNeg := tn_lt2 h1.1 h1.2
    have n30 := (net30 jn).1
    have h80 := ang80 ja
    generalize ht : (y 1).toNatClampNeg = t at *
    obtain ⟨m2, e1, e2⟩ := freshenAll_c J jc
    have d10 : m2.1 0 10 = m.1 206 5 := by rw [all_c e2 0 (by omega)]; exact jD.1
    obtain ⟨F, f, hF⟩ := least_c (w := w) (m := m2) (day := m.1 206 5) (keep_rule (all_keep e2) ju)
    generalize hm3 : stl (stc m2 18 f) 25 F = m3 at hF
    have e3 : allF w m m3 := all_18 e2 (fun c hc => by rw [← hm3]; show (stc m2 18 f).1 c = _; rw [stc_c, if_neg hc])
    rw [show leastV m2 (m.1 206 5) = leastV m (m.1 206 5) from lat_m (all_keep e2)] at hF
    obtain ⟨M', g1, g2, g3⟩ := allMeans_r J (mA_all e3)
    have e51 : m3.1 51 = m.1 243 := by rw [all_c e3 51 (by omega)]; exact jn.2.2.2.2.1
    have c1 := wl_c (w := w) (m1 := m3) (f := tmF w m t) (t := t) (L := leastV m (m.1 206 5)) (by omega) (fun i hi => by
      rw [e51]
      obtain ⟨q1, q2⟩ := net_t jn ja hA hi
      exact ⟨q1, (e3.2.2.2.2.2 _ q2).2.1.1⟩) (fun i hi => mean_rng J (by have := (net_t jn ja hA hi).2; omega))
    have hAM := meF_mA (mA_all e3) g2
    obtain ⟨G, g, hG⟩ := least_r (w := w) (m := m) (M := M') ju (mA_ag ju hAM)
    rw [hAM.2.1] at hG
    have g2' : meF (rf_i m3 206 0 0) (stc (stc M' 228 g) 235 G) := meF_c (meF_c g2 (by omega)) (by omega)
    have hN := nA_me e3 g2' (fun a ha => g3 a ha)
    have c2 := wl_r (w := w) (M := stc (stc M' 228 g) 235 G) (f := tmF w m t) (t := t) (L := leastV m (m.1 206 5)) (by omega) (fun i hi => by
      rw [hN.1 243 (by omega)]
      obtain ⟨q1, q2⟩ := net_t jn ja hA hi
      exact ⟨q1, hN.2.2.2 _ q2⟩)
    rw [ey] at c1 c2
    have p64' : (rf_i m3 206 0 0).1 206 64 = m.1 206 64 := by rw [rf_i_c, if_pos rfl, pu_ne (by decide), all_c e3 206 (by omega)]
    have f1 := fin_all J e3 g2'
    have c3 : g_X14_isWell w M' (y 1) = some (wlI (tmF w m t) (leastV m (m.1 206 5)) 3 0, stc (stc M' 228 g) 235 G) := by
      unfold g_X14_isWell; rw [hG]; exact c2
    rcases wl01 (f := tmF w m t) (L := leastV m (m.1 206 5)) 3 0 with z | z
    · rw [z] at c1 c3
      simp only [wp_b, wp_bv, wp_g, wp_ite, wp_some, X7_isTriangle, X14_isTriangle, bi_eq0, q64, h1, e1, d10, hF, c1, p64', g1, c3, o1, not_true, false_implies, not_false_eq_true, true_implies, true_and, and_true, decide_true]
      exact f1
    · rw [z] at c1 c3
      simp only [wp_b, wp_bv, wp_g, wp_ite, wp_some, X7_isTriangle, X14_isTriangle, bi_eq0, q64, h1, e1, d10, hF, c1, p64', g1, c3, o1, not_true, false_implies, not_false_eq_true, true_implies, true_and, and_true, decide_true]
      exact f1
  · simp only [wp_b, wp_bv, wp_g, wp_ite, wp_some, X7_isTriangle, X14_isTriangle, bi_eq0, q64, h1, p64, not_true, false_implies, not_false_eq_true, true_implies, true_and, and_true, decide_true]
    exact cache_i0 J jc
end PBWide
