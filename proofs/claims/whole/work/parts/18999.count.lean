/-! counts -/
section PBCount
theorem all_keep {w : rf_w} {m m2 : rf_m} (h : allF w m m2) : keep m m2 :=
  ⟨fun c hc => h.1 c (by omega) (by omega) (by omega) (by omega) (by omega) (by omega) (by omega) (by omega), h.2.1, fun k hk => by rw [h.1 206 (by decide) (by decide) (by decide) (by decide) (by decide) (by decide) (by decide) (by decide)], h.2.2.2.1, h.2.2.2.2.1⟩
theorem all_18 {w : rf_w} {m m2 m' : rf_m} (h : allF w m m2) (e : ∀ c, c ≠ 18 → m'.1 c = m2.1 c) : allF w m m' := by
  obtain ⟨h0, h1, h2, h3, h4, h5⟩ := h
  refine ⟨fun c q1 q2 q3 q4 q5 q6 q7 q8 => by rw [e c q1]; exact h0 c q1 q2 q3 q4 q5 q6 q7 q8, fun k hk => by rw [e 26 (by decide)]; exact h1 k hk, by rw [e 26 (by decide)]; exact h2, fun r hr k hk => by rw [e 32 (by decide)]; exact h3 r hr k hk, fun a ha => by rw [e 34 (by decide)]; exact h4 a ha, fun a ha => ⟨by rw [e 40 (by decide)]; exact (h5 a ha).1, fre_of (h5 a ha).2 (e 31 (by decide)) (e 32 (by decide)) (e 34 (by decide))⟩⟩
theorem mA_all {w : rf_w} {m m2 : rf_m} (h : allF w m m2) : mA m (rf_i m2 206 0 0) := by
  obtain ⟨b0, _⟩ := h
  have e206 : m2.1 206 = m.1 206 := b0 206 (by decide) (by decide) (by decide) (by decide) (by decide) (by decide) (by decide) (by decide)
  refine ⟨fun c hc => ?_, ?_, ?_, ?_, ?_, ?_⟩
  · rw [rf_i_c, if_neg (by omega)]
    exact b0 c (by omega) (by omega) (by omega) (by omega) (by omega) (by omega) (by omega) (by omega)
  all_goals rw [rf_i_c, if_pos rfl, pu_ne (by decide), e206]
theorem fin_all {c : Nat} {w : rf_w} {m m2 M : rf_m} (J : JCnt c w m) (h : allF w m m2) (hM : meF (rf_i m2 206 0 0) M) : JCnt c w M ∧ JCache w M := by
  have e : ∀ c, c ≠ 206 → c ≠ 226 → c ≠ 227 → c ≠ 228 → c ≠ 235 → c ≠ 248 → M.1 c = m2.1 c := fun c h1 h2 h3 h4 h5 h6 => by rw [hM.1 c h1 h2 h3 h4 h5 h6, rf_i_c, if_neg h1]
  have hk2 := all_keep h
  have hk : keep m M := by
    refine ⟨fun c hc => ?_, fun k hk => ?_, fun k hk => ?_, fun r hr k hk => ?_, fun a ha => ?_⟩
    · rw [e c (by omega) (by omega) (by omega) (by omega) (by omega) (by omega)]; exact hk2.1 c hc
    · rw [e 26 (by decide) (by decide) (by decide) (by decide) (by decide) (by decide)]; exact hk2.2.1 k hk
    · rw [hM.2.1 k (by omega), rf_i_c, if_pos rfl, pu_ne (by omega)]; exact hk2.2.2.1 k hk
    · rw [e 32 (by decide) (by decide) (by decide) (by decide) (by decide) (by decide)]; exact hk2.2.2.2.1 r hr k hk
    · rw [e 34 (by decide) (by decide) (by decide) (by decide) (by decide) (by decide)]; exact hk2.2.2.2.2 a ha
  refine ⟨keep_cnt hk J, keep_cache hk J (fun a ha _ => ?_) (fun _ a ha => ?_)⟩
  · exact fre_of (h.2.2.2.2.2 a ha).2 (e 31 (by decide) (by decide) (by decide) (by decide) (by decide) (by decide)) (e 32 (by decide) (by decide) (by decide) (by decide) (by decide) (by decide)) (e 34 (by decide) (by decide) (by decide) (by decide) (by decide) (by decide))
  · rw [e 40 (by decide) (by decide) (by decide) (by decide) (by decide) (by decide)]
    exact (h.2.2.2.2.2 a ha).1
theorem goF_me {M M' : rf_m} (h : goF M M') : meF M M' := ⟨fun c h1 h2 h3 h4 h5 _ => h.1 c h1 h2 h3 h4 h5, h.2.1, h.2.2⟩
noncomputable def agS (w : rf_w) (m : rf_m) : Nat → Nat → Int32 → Int32
  | 0, _, x => x
  | n + 1, i, x => agS w m n (i + 1) (x + agV w m i)
theorem againOnes_c {c : Nat} {w : rf_w} {m m2 : rf_m} (J : JCnt c w m) (h : allF w m m2) : ∃ m', g_X3_againOnes w m2 (m.1 206 5) = some (agS w m (m.1 206 16).toNatClampNeg 0 0, m') ∧ ∀ c, c ≠ 18 → m'.1 c = m2.1 c := by
  have h80 := ang80 J.2.2.2.2.1
  have hR := of_tn J.2.2.2.2.1.2.1.1
  have o1 : ¬ (1 : Int32) = 0 := by decide
  have key : ∀ n f i x (m1 : rf_m), i + n = (m.1 206 16).toNatClampNeg → n < f → (∀ c, c ≠ 18 → m1.1 c = m2.1 c) → ∃ m', g_X3_againOnes_4 w f (m.1 206 5) x (Int32.ofNat i) m1 = some (agS w m n i x, m') ∧ ∀ c, c ≠ 18 → m'.1 c = m2.1 c := by
    intro n
    induction n with
    | zero =>
      intro f i x m1 hi hf he
      obtain ⟨f, rfl⟩ : ∃ g, f = g + 1 := ⟨f - 1, by omega⟩
      show ∃ m', g_X3_againOnes_4_b w _ _ _ _ m1 = _ ∧ _
      unfold g_X3_againOnes_4_b
      have e6 : m1.1 26 6 = m.1 206 16 := by rw [he 26 (by decide), h.2.1 6 (by decide)]; exact J.2.2.2.2.1.1
      rw [e6, show i = (m.1 206 16).toNatClampNeg by omega, hR, if_pos (Int32.le_refl _)]
      exact ⟨m1, rfl, he⟩
    | succ n ih =>
      intro f i x m1 hi hf he
      obtain ⟨f, rfl⟩ : ∃ g, f = g + 1 := ⟨f - 1, by omega⟩
      show ∃ m', g_X3_againOnes_4_b w (g_X3_againOnes_4 w f) _ _ _ m1 = _ ∧ _
      unfold g_X3_againOnes_4_b g_X3_againOnes_24
      have e6 : m1.1 26 6 = m.1 206 16 := by rw [he 26 (by decide), h.2.1 6 (by decide)]; exact J.2.2.2.2.1.1
      have h1 : ¬ m.1 206 16 ≤ Int32.ofNat i := by rw [← hR]; exact nle (by omega) (by omega)
      have ha1 := all_18 h he
      obtain ⟨m', e1, e2⟩ := isAgain_c (a := i) J (by omega) (all_keep ha1) (ha1.2.2.2.2.2 i (by omega)).2.1
      rw [e6, if_neg h1, e1]
      simp only [rf_b]
      have he' : ∀ c, c ≠ 18 → m'.1 c = m2.1 c := fun c hc => by rw [e2 c hc, he c hc]
      show ∃ m'', _ = some (agS w m n (i + 1) (x + agV w m i), m'') ∧ _
      rcases agV01 (w := w) (m := m) (a := i) with q | q
      · rw [q, if_pos rfl, of_succ, Int32.add_zero]
        exact ih f (i + 1) x m' (by omega) (by omega) he'
      · rw [q, if_neg o1, of_succ]
        exact ih f (i + 1) (x + 1) m' (by omega) (by omega) he'
  exact key (m.1 206 16).toNatClampNeg rf_fuel 0 0 m2 (by omega) (by unfold rf_fuel; omega) (fun _ _ => rfl)
theorem againOnes_r {c : Nat} {w : rf_w} {m M : rf_m} (J : JCnt c w m) (hA : mA m M) : ∃ M', g_X14_count_145 w rf_fuel 0 0 M = some (agS w m (m.1 206 16).toNatClampNeg 0 0, M') ∧ goF M M' := by
  have h80 := ang80 J.2.2.2.2.1
  have hR := of_tn J.2.2.2.2.1.2.1.1
  have o1 : ¬ (1 : Int32) = 0 := by decide
  have key : ∀ n f i x (M1 : rf_m), i + n = (m.1 206 16).toNatClampNeg → n < f → goF M M1 → ∃ M', g_X14_count_145 w f x (Int32.ofNat i) M1 = some (agS w m n i x, M') ∧ goF M M' := by
    intro n
    induction n with
    | zero =>
      intro f i x M1 hi hf he
      obtain ⟨f, rfl⟩ : ∃ g, f = g + 1 := ⟨f - 1, by omega⟩
      show ∃ m', g_X14_count_145_b w _ _ _ M1 = _ ∧ _
      unfold g_X14_count_145_b
      rw [(goF_mA hA he).2.2.1, show i = (m.1 206 16).toNatClampNeg by omega, hR, if_pos (Int32.le_refl _)]
      exact ⟨M1, rfl, he⟩
    | succ n ih =>
      intro f i x M1 hi hf he
      obtain ⟨f, rfl⟩ : ∃ g, f = g + 1 := ⟨f - 1, by omega⟩
      show ∃ m', g_X14_count_145_b w (g_X14_count_145 w f) _ _ M1 = _ ∧ _
      unfold g_X14_count_145_b g_X14_count_167
      have h1 : ¬ m.1 206 16 ≤ Int32.ofNat i := by rw [← hR]; exact nle (by omega) (by omega)
      obtain ⟨M', e1, e2⟩ := isAgain_r (a := i) J (by omega) (goF_mA hA he)
      rw [(goF_mA hA he).2.2.1, if_neg h1, e1]
      simp only [rf_b]
      show ∃ m'', _ = some (agS w m n (i + 1) (x + agV w m i), m'') ∧ _
      rcases agV01 (w := w) (m := m) (a := i) with q | q
      · rw [q, if_pos rfl, of_succ]
        exact ih f (i + 1) (x + 0) M' (by omega) (by omega) (goF_trans he e2)
      · rw [q, if_neg o1, of_succ]
        exact ih f (i + 1) (x + 1) M' (by omega) (by omega) (goF_trans he e2)
  exact key (m.1 206 16).toNatClampNeg rf_fuel 0 0 M (by omega) (by unfold rf_fuel; omega) (goF_refl M)
/-- the numbers that count tells -/
def JNum (m : rf_m) : Prop := m.1 1 4 = m.1 206 4 ∧ m.1 26 6 = m.1 206 16 ∧ m.1 26 7 = m.1 206 17 ∧ m.1 13 3 = m.1 206 39 ∧ m.1 41 1 = m.1 206 55 ∧ m.1 50 0 = m.1 206 64 ∧ m.1 50 1 = m.1 206 65 ∧ m.1 26 5 = m.1 206 15 ∧ m.1 193 0 = m.1 206 126 ∧ m.1 193 1 = m.1 206 136 ∧ m.1 184 1 = m.1 206 116 ∧ m.1 0 10 = m.1 206 5 ∧ m.1 13 2 = m.1 206 44
theorem k55 {c : Nat} {w : rf_w} {m : rf_m} {y : Nat → Int32} (J : JCnt c w m) (jc : JCache w m) (jn : JNum m) : wp (g_lc_55 w m y) (fun r => r.1 = w ∧ JCnt c w r.2 ∧ JCache w r.2) := by
  obtain ⟨n0, n1, n2, n3, n4, n5, n6, n7, n8, n9, n10, n11, n12⟩ := jn
  unfold g_lc_55 g_X11_count g_X14_count
  have fin := cache_i0 J jc
  have hi : ∀ k, k ≠ 0 → (rf_i m 206 0 0).1 206 k = m.1 206 k := fun k hk => by rw [rf_i_c, if_pos rfl, pu_ne hk]
  have t : ∀ {v : Int32} {u : Int32}, v = u → wp (rf_g (decide (v = u)) (some (w, rf_i m 206 0 0))) (fun r => r.1 = w ∧ JCnt c w r.2 ∧ JCache w r.2) := fun h => by
    rw [wp_g, wp_some]; exact ⟨decide_eq_true h, rfl, fin⟩
  by_cases h0 : y 1 = 0
  · simp only [if_pos h0, rf_b]; exact t (by rw [hi _ (by decide)]; exact n0)
  simp only [if_neg h0]
  by_cases h1 : y 1 = 1
  · simp only [if_pos h1, rf_b]; exact t (by rw [hi _ (by decide)]; exact n1)
  simp only [if_neg h1]
  by_cases h2 : y 1 = 2
  · simp only [if_pos h2, rf_b]; exact t (by rw [hi _ (by decide)]; exact n2)
  simp only [if_neg h2]
  by_cases h3 : y 1 = 3
  · simp only [if_pos h3, rf_b]; exact t (by rw [hi _ (by decide)]; exact n3)
  simp only [if_neg h3]
  by_cases h4 : y 1 = 4
  · simp only [if_pos h4, rf_b]; exact t (by rw [hi _ (by decide)]; exact n4)
  simp only [if_neg h4]
  by_cases h5 : y 1 = 5
  · simp only [if_pos h5, rf_b]; exact t (by rw [hi _ (by decide)]; exact n5)
  simp only [if_neg h5]
  by_cases h6 : y 1 = 6
  · simp only [if_pos h6, rf_b]; exact t (by rw [hi _ (by decide)]; exact n6)
  simp only [if_neg h6]
  by_cases h7 : y 1 = 7
  · simp only [if_pos h7, rf_b]; exact t (by rw [hi _ (by decide)]; exact n7)
  simp only [if_neg h7]
  by_cases h8 : y 1 = 8
  · simp only [if_pos h8, rf_b]; exact t (by rw [hi _ (by decide)]; exact n8)
  simp only [if_neg h8]
  by_cases h9 : y 1 = 9
  · simp only [if_pos h9, rf_b]; exact t (by rw [hi _ (by decide)]; exact n9)
  simp only [if_neg h9]
  by_cases h10 : y 1 = 10
  · simp only [if_pos h10, rf_b]; exact t (by rw [hi _ (by decide)]; exact n10)
  simp only [if_neg h10]
  by_cases h11 : y 1 = 11
  · simp only [if_pos h11, rf_b]; exact t (by rw [hi _ (by decide)]; exact n11)
  simp only [if_neg h11]
  by_cases h12 : y 1 = 12
  · simp only [if_pos h12, rf_b]; exact t (by rw [hi _ (by decide)]; exact n12)
  simp only [if_neg h12]
  by_cases h13 : y 1 = 13
  · simp only [if_pos h13]
    obtain ⟨m2, e1, e2⟩ := freshenAll_c J jc
    have d10 : m2.1 0 10 = m.1 206 5 := by rw [e2.1 0 (by decide) (by decide) (by decide) (by decide) (by decide) (by decide) (by decide) (by decide)]; exact n11
    obtain ⟨m', f1, f2⟩ := againOnes_c J e2
    have e2' := all_18 e2 f2
    obtain ⟨M', g1, g2⟩ := againOnes_r J (mA_all e2')
    rw [e1]
    simp only [rf_bv]
    rw [d10, f1]
    simp only [rf_b]
    rw [g1]
    simp only
    rw [wp_g, wp_some]
    exact ⟨decide_eq_true trivial, rfl, fin_all J e2' (goF_me g2)⟩
  simp only [if_neg h13, rf_b]
  rw [wp_g, wp_some]; exact ⟨decide_eq_true trivial, rfl, fin⟩
end PBCount
