/-! freshening one and all; the reference's means -/
section PBAll
/-- all that counting rests on -/
def JCnt (c : Nat) (w : rf_w) (m : rf_m) : Prop := c ≤ 512 ∧ JRead m ∧ JStr c w m ∧ JRule w m ∧ JAng m ∧ JMark m ∧ JDay m
theorem bas_refl (m : rf_m) : bas m m := ⟨fun _ _ _ _ _ _ _ _ => rfl, fun _ _ _ _ => rfl, fun _ _ => rfl⟩
theorem ang80 {m : rf_m} (ja : JAng m) : (m.1 206 16).toNatClampNeg ≤ 80 := tn_le ja.2.1.1 ja.2.1.2 (by decide)
theorem freshen_c {c a : Nat} {w : rf_w} {m m1 : rf_m} (J : JCnt c w m) (ha : a < (m.1 206 16).toNatClampNeg) (h : frB w m m1) : ∃ m2, g_X3_freshen w m1 (Int32.ofNat a) = some m2 ∧ frB w m m2 ∧ fre w m m2 a ∧ m2.1 40 a = 0 ∧ (∀ b, b ≠ a → m2.1 40 b = m1.1 40 b) ∧ m2.1 26 = m1.1 26 := by
  obtain ⟨hc, j, js, ju, ja, jm, jd⟩ := J
  have h80 := ang80 ja
  unfold g_X3_freshen
  rw [gof (by omega) (by decide), g_t, tn_of (by omega)]
  by_cases z : m1.1 40 a = 0
  · rw [if_pos z]
    exact ⟨m1, rfl, h, h.2 a ha z, z, fun _ _ => rfl, rfl⟩
  · rw [if_neg z]
    obtain ⟨m2, h1, h2⟩ := recount_c (w := w) (d := 9999) hc j js ju ja jm ha h.1
    rw [h1]
    obtain ⟨f1, f2, f3⟩ := rc_fr j (by omega) h h2
    refine ⟨m2, rfl, f1, f1.2 a ha f2, f2, f3, ?_⟩
    exact h2.1 26 (by decide) (by decide) (by decide) (by decide) (by decide) (by decide) (by decide)
/-- all is fresh -/
def allF (w : rf_w) (m m2 : rf_m) : Prop := (∀ c, c ≠ 18 → c ≠ 25 → c ≠ 26 → c ≠ 31 → c ≠ 32 → c ≠ 34 → c ≠ 35 → c ≠ 40 → m2.1 c = m.1 c) ∧ (∀ k, k ≠ 19 → m2.1 26 k = m.1 26 k) ∧ m2.1 26 19 = 0 ∧ (∀ r, r < 1200 → ∀ k, k < 5 → m2.1 32 (9 * r + k) = m.1 32 (9 * r + k)) ∧ (∀ a, a < 80 → m2.1 34 (9 * a + 6) = m.1 34 (9 * a + 6)) ∧ ∀ a, a < (m.1 206 16).toNatClampNeg → m2.1 40 a = 0 ∧ fre w m m2 a
theorem freshenAll_c {c : Nat} {w : rf_w} {m : rf_m} (J : JCnt c w m) (jc : JCache w m) : ∃ m2, g_X3_freshenAll w m = some m2 ∧ allF w m m2 := by
  have J' := J
  obtain ⟨hc, j, js, ju, ja, jm, jd⟩ := J
  have h80 := ang80 ja
  have hR := of_tn ja.2.1.1
  unfold g_X3_freshenAll
  by_cases z : m.1 26 19 = 0
  · rw [if_pos z]
    refine ⟨m, rfl, fun _ _ _ _ _ _ _ _ _ => rfl, fun _ _ => rfl, z, fun _ _ _ _ => rfl, fun _ _ => rfl, fun a ha => ?_⟩
    have := jc.2 z a ha
    exact ⟨this, jc.1 a ha this⟩
  · rw [if_neg z]
    have key : ∀ n f i (mi : rf_m), i + n = (m.1 206 16).toNatClampNeg → n < f → frB w m mi → (∀ b, b < i → mi.1 40 b = 0) → ∃ m2, g_X3_freshenAll_10 w f (Int32.ofNat i) mi = some m2 ∧ allF w m m2 := by
      intro n
      induction n with
      | zero =>
        intro f i mi hi hf hB hz
        obtain ⟨f, rfl⟩ : ∃ g, f = g + 1 := ⟨f - 1, by omega⟩
        show ∃ m2, g_X3_freshenAll_10_b w _ _ mi = _ ∧ _
        unfold g_X3_freshenAll_10_b
        obtain ⟨⟨b0, b1, b2⟩, hf⟩ := hB
        have e26 : mi.1 26 = m.1 26 := b0 26 (by decide) (by decide) (by decide) (by decide) (by decide) (by decide) (by decide)
        rw [e26, ja.1, show i = (m.1 206 16).toNatClampNeg by omega, hR, if_pos (Int32.le_refl _)]
        refine ⟨_, rfl, fun c h1 h2 h3 h4 h5 h6 h7 h8 => by rw [rf_i_c, if_neg h3]; exact b0 c h1 h2 h4 h5 h6 h7 h8, fun k hk => by rw [rf_i_c, if_pos rfl, pu_ne hk, e26], by rw [rf_i_c, if_pos rfl, pu_at], fun r hr k hk => by rw [rf_i_c, if_neg (by decide)]; exact b1 r hr k hk, fun a ha => by rw [rf_i_c, if_neg (by decide)]; exact b2 a ha, fun a ha => ?_⟩
        have z40 : mi.1 40 a = 0 := hz a (by omega)
        refine ⟨by rw [rf_i_c, if_neg (by decide)]; exact z40, ?_⟩
        obtain ⟨t, f⟩ := hf a ha z40
        refine ⟨?_, fun r hr => ?_⟩
        · unfold tal at t ⊢
          rw [rf_i_c, if_neg (by decide), rf_i_c, if_neg (by decide)]; exact t
        · have := f r hr
          unfold fact4 at this ⊢
          rw [rf_i_c, if_neg (by decide)]; exact this
      | succ n ih =>
        intro f i mi hi hf hB hz
        obtain ⟨f, rfl⟩ : ∃ g, f = g + 1 := ⟨f - 1, by omega⟩
        show ∃ m2, g_X3_freshenAll_10_b w (g_X3_freshenAll_10 w f) _ mi = _ ∧ _
        unfold g_X3_freshenAll_10_b g_X3_freshenAll_35
        have hil : i < (m.1 206 16).toNatClampNeg := by omega
        have e26 : mi.1 26 = m.1 26 := hB.1.1 26 (by decide) (by decide) (by decide) (by decide) (by decide) (by decide) (by decide)
        have nl : ¬ m.1 206 16 ≤ Int32.ofNat i := by rw [← hR]; exact nle hil (by omega)
        rw [e26, ja.1, if_neg nl, gof (by omega) (by decide), g_t, tn_of (by omega), of_succ]
        by_cases q : mi.1 40 i = 0
        · rw [if_pos q]
          refine ih f (i + 1) mi (by omega) (by omega) hB (fun b hb => ?_)
          by_cases e : b = i
          · rw [e]; exact q
          · exact hz b (by omega)
        · rw [if_neg q]
          obtain ⟨m2, h1, h2⟩ := recount_c (w := w) (d := 9999) hc j js ju ja jm hil hB.1
          rw [h1]
          simp only [rf_bv]
          obtain ⟨f1, f2, f3⟩ := rc_fr j (by omega) hB h2
          refine ih f (i + 1) m2 (by omega) (by omega) f1 (fun b hb => ?_)
          by_cases e : b = i
          · rw [e]; exact f2
          · rw [f3 b e]; exact hz b (by omega)
    exact key (m.1 206 16).toNatClampNeg rf_fuel 0 m (by omega) (by unfold rf_fuel; omega) ⟨bas_refl m, jc.1⟩ (fun b hb => by omega)
theorem now_r {c a : Nat} {w : rf_w} {m M : rf_m} (J : JCnt c w m) (ha : a < (m.1 206 16).toNatClampNeg) (hA : mA m M) : ∃ M', g_X14_now w M (Int32.ofNat a) = some M' ∧ goF M M' ∧ goP w m M' 9999 a := by
  obtain ⟨hc, j, js, ju, ja, jm, jd⟩ := J
  obtain ⟨M', h1, h2, h3⟩ := goes_r (w := w) (d := 10000) hc j js ju ja jm ha hA
  rw [day_go jd js] at h3
  refine ⟨M', ?_, h2, h3⟩
  unfold g_X14_now
  rw [h1]
  rfl
/-- as the means leave it -/
def meF (M M' : rf_m) : Prop := (∀ c, c ≠ 206 → c ≠ 226 → c ≠ 227 → c ≠ 228 → c ≠ 235 → c ≠ 248 → M'.1 c = M.1 c) ∧ (∀ k, k < 33 ∨ 38 < k → M'.1 206 k = M.1 206 k) ∧ M'.2 = M.2
theorem meF_mA {m M M' : rf_m} (h : mA m M) (g : meF M M') : mA m M' := by
  obtain ⟨h0, h1, h2, h3, h4, h5⟩ := h
  obtain ⟨g0, g1, g2⟩ := g
  exact ⟨fun c hc => by rw [g0 c (by omega) (by omega) (by omega) (by omega) (by omega) (by omega)]; exact h0 c hc, by rw [g1 5 (by omega)]; exact h1, by rw [g1 16 (by omega)]; exact h2, by rw [g1 17 (by omega)]; exact h3, by rw [g1 18 (by omega)]; exact h4, by rw [g1 39 (by omega)]; exact h5⟩
theorem allMeans_r {c : Nat} {w : rf_w} {m M : rf_m} (J : JCnt c w m) (hA : mA m M) : ∃ M', g_X14_allMeans w M = some M' ∧ meF M M' ∧ ∀ a, a < (m.1 206 16).toNatClampNeg → M'.1 248 a = meanV w m 9999 a := by
  have h80 := ang80 J.2.2.2.2.1
  have hR := of_tn J.2.2.2.2.1.2.1.1
  have key : ∀ n f i (Mi : rf_m), i + n = (m.1 206 16).toNatClampNeg → n < f → meF M Mi → (∀ b, b < i → Mi.1 248 b = meanV w m 9999 b) → ∃ M', g_X14_allMeans_2 w f (Int32.ofNat i) Mi = some M' ∧ meF M M' ∧ ∀ a, a < (m.1 206 16).toNatClampNeg → M'.1 248 a = meanV w m 9999 a := by
    intro n
    induction n with
    | zero =>
      intro f i Mi hi hf hG hm
      obtain ⟨f, rfl⟩ : ∃ g, f = g + 1 := ⟨f - 1, by omega⟩
      show ∃ M', g_X14_allMeans_2_b w _ _ Mi = _ ∧ _
      unfold g_X14_allMeans_2_b
      have e16 : Mi.1 206 16 = m.1 206 16 := (meF_mA hA hG).2.2.1
      rw [e16, show i = (m.1 206 16).toNatClampNeg by omega, hR, if_pos (Int32.le_refl _)]
      exact ⟨Mi, rfl, hG, fun a ha => hm a (by omega)⟩
    | succ n ih =>
      intro f i Mi hi hf hG hm
      obtain ⟨f, rfl⟩ : ∃ g, f = g + 1 := ⟨f - 1, by omega⟩
      show ∃ M', g_X14_allMeans_2_b w (g_X14_allMeans_2 w f) _ Mi = _ ∧ _
      unfold g_X14_allMeans_2_b g_X14_meanOf
      have hil : i < (m.1 206 16).toNatClampNeg := by omega
      have hAi := meF_mA hA hG
      have e16 : Mi.1 206 16 = m.1 206 16 := hAi.2.2.1
      have nl : ¬ m.1 206 16 ≤ Int32.ofNat i := by rw [← hR]; exact nle hil (by omega)
      obtain ⟨M1, h1, h2, h3⟩ := now_r J hil hAi
      rw [e16, if_neg nl, h1]
      simp only [rf_bv, rf_b]
      rw [gof (by omega) (by decide), g_t, tn_of (by omega), of_succ, h3.2.2.2.1]
      refine ih f (i + 1) _ (by omega) (by omega) ?_ (fun b hb => ?_)
      · refine ⟨fun x q1 q2 q3 q4 q5 q6 => ?_, fun k hk => ?_, ?_⟩
        · rw [rf_i_c, if_neg q6, h2.1 x q1 q2 q3 q4 q5, hG.1 x q1 q2 q3 q4 q5 q6]
        · rw [rf_i_c, if_neg (by decide), h2.2.1 k hk, hG.2.1 k hk]
        · rw [rf_i_l, h2.2.2, hG.2.2]
      · rw [rf_i_c, if_pos rfl]
        by_cases e : b = i
        · rw [e, pu_at]
        · rw [pu_ne e, h2.1 248 (by decide) (by decide) (by decide) (by decide) (by decide)]; exact hm b (by omega)
  exact key (m.1 206 16).toNatClampNeg rf_fuel 0 M (by omega) (by unfold rf_fuel; omega) ⟨fun _ _ _ _ _ _ _ => rfl, fun _ _ => rfl, rfl⟩ (fun b hb => by omega)
end PBAll
