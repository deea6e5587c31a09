/-! the reference's whole numbers: its methods (written by wip/tool/gen_words.py) -/
section PBWordsI
theorem ad_249_249 {w : rf_w} {m : rf_m} {p : Nat} {x y : Int} (hp : p + 6 ≤ 6) (hx : wd (m.1 249) p x) (hy : wd (m.1 249) p y) : ∃ F, g_X14_adds__249_249 w m (Int32.ofNat p) (Int32.ofNat p) = some (stc m 249 F) ∧ wF p (m.1 249) F ∧ wd F p (x + y) := by
  obtain ⟨FU, hF, hFb⟩ := fuel_ex
  have key : ∀ r f i, i + r = 6 → r < f → g_X14_adds__249_249_6 w f (Int32.ofNat p) (Int32.ofNat p) (adL (m.1 249) (m.1 249) p p i).1 (Int32.ofNat i) (stc m 249 (adL (m.1 249) (m.1 249) p p i).2) = some (stc m 249 (adL (m.1 249) (m.1 249) p p 6).2) := by
    intro r
    induction r with
    | zero =>
      intro f i hi hf
      obtain ⟨f, rfl⟩ : ∃ g, f = g + 1 := ⟨f - 1, by omega⟩
      have e : i = 6 := by omega
      subst e
      show g_X14_adds__249_249_6_b w _ _ _ _ _ _ = _
      unfold g_X14_adds__249_249_6_b
      have z : (6 : Int32) ≤ Int32.ofNat 6 := by decide
      rw [if_pos z]
    | succ r ih =>
      intro f i hi hf
      obtain ⟨f, rfl⟩ : ∃ g, f = g + 1 := ⟨f - 1, by omega⟩
      have i1 := ih f (i + 1) (by omega) (by omega)
      have oa := (adL_v (f := m.1 249) (g := m.1 249) (p := p) (q := p) i).2.1
      have z : ¬ (6 : Int32) ≤ Int32.ofNat i := nle (R := 6) (by omega) (by decide)
      have ap : Int32.ofNat p + Int32.ofNat i = Int32.ofNat (p + i) := (Int32.ofNat_add p i).symm
      have ra : (stc m 249 (adL (m.1 249) (m.1 249) p p i).2).1 249 (p + i) = m.1 249 (p + i) := by rw [stc_at]; exact oa (p + i) (Or.inr (Nat.le_refl _))
      show g_X14_adds__249_249_6_b w (g_X14_adds__249_249_6 w f) _ _ _ _ _ = _
      unfold g_X14_adds__249_249_6_b rf_vl
      rw [if_neg z, ap, gof (n := p + i) (by omega) (by decide), g_t, g_t]
      dsimp only
      rw [g_t, tn_of (n := p + i) (by omega), ra, of_succ, stc_i, stc_at, stc_stc]
      exact i1
  have k := key 6 FU 0 (by omega) (by omega)
  have z : stc m 249 (adL (m.1 249) (m.1 249) p p 0).2 = m := stc_self
  rw [z] at k
  refine ⟨_, ?_, adL_6 hx hy⟩
  unfold g_X14_adds__249_249
  rw [hF]
  exact k
theorem ad_249_251 {w : rf_w} {m : rf_m} {p q : Nat} {x y : Int} (hp : p + 6 ≤ 6) (hq : q + 6 ≤ 6) (hx : wd (m.1 249) p x) (hy : wd (m.1 251) q y) : ∃ F, g_X14_adds__249_251 w m (Int32.ofNat p) (Int32.ofNat q) = some (stc m 249 F) ∧ wF p (m.1 249) F ∧ wd F p (x + y) := by
  obtain ⟨FU, hF, hFb⟩ := fuel_ex
  have key : ∀ r f i, i + r = 6 → r < f → g_X14_adds__249_251_6 w f (Int32.ofNat p) (Int32.ofNat q) (adL (m.1 249) (m.1 251) p q i).1 (Int32.ofNat i) (stc m 249 (adL (m.1 249) (m.1 251) p q i).2) = some (stc m 249 (adL (m.1 249) (m.1 251) p q 6).2) := by
    intro r
    induction r with
    | zero =>
      intro f i hi hf
      obtain ⟨f, rfl⟩ : ∃ g, f = g + 1 := ⟨f - 1, by omega⟩
      have e : i = 6 := by omega
      subst e
      show g_X14_adds__249_251_6_b w _ _ _ _ _ _ = _
      unfold g_X14_adds__249_251_6_b
      have z : (6 : Int32) ≤ Int32.ofNat 6 := by decide
      rw [if_pos z]
    | succ r ih =>
      intro f i hi hf
      obtain ⟨f, rfl⟩ : ∃ g, f = g + 1 := ⟨f - 1, by omega⟩
      have i1 := ih f (i + 1) (by omega) (by omega)
      have oa := (adL_v (f := m.1 249) (g := m.1 251) (p := p) (q := q) i).2.1
      have z : ¬ (6 : Int32) ≤ Int32.ofNat i := nle (R := 6) (by omega) (by decide)
      have ap : Int32.ofNat p + Int32.ofNat i = Int32.ofNat (p + i) := (Int32.ofNat_add p i).symm
      have aq : Int32.ofNat q + Int32.ofNat i = Int32.ofNat (q + i) := (Int32.ofNat_add q i).symm
      have ra : (stc m 249 (adL (m.1 249) (m.1 251) p q i).2).1 249 (p + i) = m.1 249 (p + i) := by rw [stc_at]; exact oa (p + i) (Or.inr (Nat.le_refl _))
      have rb : (stc m 249 (adL (m.1 249) (m.1 251) p q i).2).1 251 (q + i) = m.1 251 (q + i) := by rw [stc_ne (by decide)]
      show g_X14_adds__249_251_6_b w (g_X14_adds__249_251_6 w f) _ _ _ _ _ = _
      unfold g_X14_adds__249_251_6_b rf_vl
      rw [if_neg z, ap, aq, gof (n := p + i) (by omega) (by decide), g_t, gof (n := q + i) (by omega) (by decide), g_t]
      dsimp only
      rw [g_t, tn_of (n := p + i) (by omega), tn_of (n := q + i) (by omega), ra, rb, of_succ, stc_i, stc_at, stc_stc]
      exact i1
  have k := key 6 FU 0 (by omega) (by omega)
  have z : stc m 249 (adL (m.1 249) (m.1 251) p q 0).2 = m := stc_self
  rw [z] at k
  refine ⟨_, ?_, adL_6 hx hy⟩
  unfold g_X14_adds__249_251
  rw [hF]
  exact k
theorem ad_250_250 {w : rf_w} {m : rf_m} {p : Nat} {x y : Int} (hp : p + 6 ≤ 6) (hx : wd (m.1 250) p x) (hy : wd (m.1 250) p y) : ∃ F, g_X14_adds__250_250 w m (Int32.ofNat p) (Int32.ofNat p) = some (stc m 250 F) ∧ wF p (m.1 250) F ∧ wd F p (x + y) := by
  obtain ⟨FU, hF, hFb⟩ := fuel_ex
  have key : ∀ r f i, i + r = 6 → r < f → g_X14_adds__250_250_6 w f (Int32.ofNat p) (Int32.ofNat p) (adL (m.1 250) (m.1 250) p p i).1 (Int32.ofNat i) (stc m 250 (adL (m.1 250) (m.1 250) p p i).2) = some (stc m 250 (adL (m.1 250) (m.1 250) p p 6).2) := by
    intro r
    induction r with
    | zero =>
      intro f i hi hf
      obtain ⟨f, rfl⟩ : ∃ g, f = g + 1 := ⟨f - 1, by omega⟩
      have e : i = 6 := by omega
      subst e
      show g_X14_adds__250_250_6_b w _ _ _ _ _ _ = _
      unfold g_X14_adds__250_250_6_b
      have z : (6 : Int32) ≤ Int32.ofNat 6 := by decide
      rw [if_pos z]
    | succ r ih =>
      intro f i hi hf
      obtain ⟨f, rfl⟩ : ∃ g, f = g + 1 := ⟨f - 1, by omega⟩
      have i1 := ih f (i + 1) (by omega) (by omega)
      have oa := (adL_v (f := m.1 250) (g := m.1 250) (p := p) (q := p) i).2.1
      have z : ¬ (6 : Int32) ≤ Int32.ofNat i := nle (R := 6) (by omega) (by decide)
      have ap : Int32.ofNat p + Int32.ofNat i = Int32.ofNat (p + i) := (Int32.ofNat_add p i).symm
      have ra : (stc m 250 (adL (m.1 250) (m.1 250) p p i).2).1 250 (p + i) = m.1 250 (p + i) := by rw [stc_at]; exact oa (p + i) (Or.inr (Nat.le_refl _))
      show g_X14_adds__250_250_6_b w (g_X14_adds__250_250_6 w f) _ _ _ _ _ = _
      unfold g_X14_adds__250_250_6_b rf_vl
      rw [if_neg z, ap, gof (n := p + i) (by omega) (by decide), g_t, g_t]
      dsimp only
      rw [g_t, tn_of (n := p + i) (by omega), ra, of_succ, stc_i, stc_at, stc_stc]
      exact i1
  have k := key 6 FU 0 (by omega) (by omega)
  have z : stc m 250 (adL (m.1 250) (m.1 250) p p 0).2 = m := stc_self
  rw [z] at k
  refine ⟨_, ?_, adL_6 hx hy⟩
  unfold g_X14_adds__250_250
  rw [hF]
  exact k
theorem ad_250_251 {w : rf_w} {m : rf_m} {p q : Nat} {x y : Int} (hp : p + 6 ≤ 6) (hq : q + 6 ≤ 6) (hx : wd (m.1 250) p x) (hy : wd (m.1 251) q y) : ∃ F, g_X14_adds__250_251 w m (Int32.ofNat p) (Int32.ofNat q) = some (stc m 250 F) ∧ wF p (m.1 250) F ∧ wd F p (x + y) := by
  obtain ⟨FU, hF, hFb⟩ := fuel_ex
  have key : ∀ r f i, i + r = 6 → r < f → g_X14_adds__250_251_6 w f (Int32.ofNat p) (Int32.ofNat q) (adL (m.1 250) (m.1 251) p q i).1 (Int32.ofNat i) (stc m 250 (adL (m.1 250) (m.1 251) p q i).2) = some (stc m 250 (adL (m.1 250) (m.1 251) p q 6).2) := by
    intro r
    induction r with
    | zero =>
      intro f i hi hf
      obtain ⟨f, rfl⟩ : ∃ g, f = g + 1 := ⟨f - 1, by omega⟩
      have e : i = 6 := by omega
      subst e
      show g_X14_adds__250_251_6_b w _ _ _ _ _ _ = _
      unfold g_X14_adds__250_251_6_b
      have z : (6 : Int32) ≤ Int32.ofNat 6 := by decide
      rw [if_pos z]
    | succ r ih =>
      intro f i hi hf
      obtain ⟨f, rfl⟩ : ∃ g, f = g + 1 := ⟨f - 1, by omega⟩
      have i1 := ih f (i + 1) (by omega) (by omega)
      have oa := (adL_v (f := m.1 250) (g := m.1 251) (p := p) (q := q) i).2.1
      have z : ¬ (6 : Int32) ≤ Int32.ofNat i := nle (R := 6) (by omega) (by decide)
      have ap : Int32.ofNat p + Int32.ofNat i = Int32.ofNat (p + i) := (Int32.ofNat_add p i).symm
      have aq : Int32.ofNat q + Int32.ofNat i = Int32.ofNat (q + i) := (Int32.ofNat_add q i).symm
      have ra : (stc m 250 (adL (m.1 250) (m.1 251) p q i).2).1 250 (p + i) = m.1 250 (p + i) := by rw [stc_at]; exact oa (p + i) (Or.inr (Nat.le_refl _))
      have rb : (stc m 250 (adL (m.1 250) (m.1 251) p q i).2).1 251 (q + i) = m.1 251 (q + i) := by rw [stc_ne (by decide)]
      show g_X14_adds__250_251_6_b w (g_X14_adds__250_251_6 w f) _ _ _ _ _ = _
      unfold g_X14_adds__250_251_6_b rf_vl
      rw [if_neg z, ap, aq, gof (n := p + i) (by omega) (by decide), g_t, gof (n := q + i) (by omega) (by decide), g_t]
      dsimp only
      rw [g_t, tn_of (n := p + i) (by omega), tn_of (n := q + i) (by omega), ra, rb, of_succ, stc_i, stc_at, stc_stc]
      exact i1
  have k := key 6 FU 0 (by omega) (by omega)
  have z : stc m 250 (adL (m.1 250) (m.1 251) p q 0).2 = m := stc_self
  rw [z] at k
  refine ⟨_, ?_, adL_6 hx hy⟩
  unfold g_X14_adds__250_251
  rw [hF]
  exact k
theorem ad_252_257 {w : rf_w} {m : rf_m} {p q : Nat} {x y : Int} (hp : p + 6 ≤ 6) (hq : q + 6 ≤ 6) (hx : wd (m.1 252) p x) (hy : wd (m.1 257) q y) : ∃ F, g_X14_adds__252_257 w m (Int32.ofNat p) (Int32.ofNat q) = some (stc m 252 F) ∧ wF p (m.1 252) F ∧ wd F p (x + y) := by
  obtain ⟨FU, hF, hFb⟩ := fuel_ex
  have key : ∀ r f i, i + r = 6 → r < f → g_X14_adds__252_257_6 w f (Int32.ofNat p) (Int32.ofNat q) (adL (m.1 252) (m.1 257) p q i).1 (Int32.ofNat i) (stc m 252 (adL (m.1 252) (m.1 257) p q i).2) = some (stc m 252 (adL (m.1 252) (m.1 257) p q 6).2) := by
    intro r
    induction r with
    | zero =>
      intro f i hi hf
      obtain ⟨f, rfl⟩ : ∃ g, f = g + 1 := ⟨f - 1, by omega⟩
      have e : i = 6 := by omega
      subst e
      show g_X14_adds__252_257_6_b w _ _ _ _ _ _ = _
      unfold g_X14_adds__252_257_6_b
      have z : (6 : Int32) ≤ Int32.ofNat 6 := by decide
      rw [if_pos z]
    | succ r ih =>
      intro f i hi hf
      obtain ⟨f, rfl⟩ : ∃ g, f = g + 1 := ⟨f - 1, by omega⟩
      have i1 := ih f (i + 1) (by omega) (by omega)
      have oa := (adL_v (f := m.1 252) (g := m.1 257) (p := p) (q := q) i).2.1
      have z : ¬ (6 : Int32) ≤ Int32.ofNat i := nle (R := 6) (by omega) (by decide)
      have ap : Int32.ofNat p + Int32.ofNat i = Int32.ofNat (p + i) := (Int32.ofNat_add p i).symm
      have aq : Int32.ofNat q + Int32.ofNat i = Int32.ofNat (q + i) := (Int32.ofNat_add q i).symm
      have ra : (stc m 252 (adL (m.1 252) (m.1 257) p q i).2).1 252 (p + i) = m.1 252 (p + i) := by rw [stc_at]; exact oa (p + i) (Or.inr (Nat.le_refl _))
      have rb : (stc m 252 (adL (m.1 252) (m.1 257) p q i).2).1 257 (q + i) = m.1 257 (q + i) := by rw [stc_ne (by decide)]
      show g_X14_adds__252_257_6_b w (g_X14_adds__252_257_6 w f) _ _ _ _ _ = _
      unfold g_X14_adds__252_257_6_b rf_vl
      rw [if_neg z, ap, aq, gof (n := p + i) (by omega) (by decide), g_t, gof (n := q + i) (by omega) (by decide), g_t]
      dsimp only
      rw [g_t, tn_of (n := p + i) (by omega), tn_of (n := q + i) (by omega), ra, rb, of_succ, stc_i, stc_at, stc_stc]
      exact i1
  have k := key 6 FU 0 (by omega) (by omega)
  have z : stc m 252 (adL (m.1 252) (m.1 257) p q 0).2 = m := stc_self
  rw [z] at k
  refine ⟨_, ?_, adL_6 hx hy⟩
  unfold g_X14_adds__252_257
  rw [hF]
  exact k
theorem ad_256_257 {w : rf_w} {m : rf_m} {p q : Nat} {x y : Int} (hp : p + 6 ≤ 384) (hq : q + 6 ≤ 6) (hx : wd (m.1 256) p x) (hy : wd (m.1 257) q y) : ∃ F, g_X14_adds__256_257 w m (Int32.ofNat p) (Int32.ofNat q) = some (stc m 256 F) ∧ wF p (m.1 256) F ∧ wd F p (x + y) := by
  obtain ⟨FU, hF, hFb⟩ := fuel_ex
  have key : ∀ r f i, i + r = 6 → r < f → g_X14_adds__256_257_6 w f (Int32.ofNat p) (Int32.ofNat q) (adL (m.1 256) (m.1 257) p q i).1 (Int32.ofNat i) (stc m 256 (adL (m.1 256) (m.1 257) p q i).2) = some (stc m 256 (adL (m.1 256) (m.1 257) p q 6).2) := by
    intro r
    induction r with
    | zero =>
      intro f i hi hf
      obtain ⟨f, rfl⟩ : ∃ g, f = g + 1 := ⟨f - 1, by omega⟩
      have e : i = 6 := by omega
      subst e
      show g_X14_adds__256_257_6_b w _ _ _ _ _ _ = _
      unfold g_X14_adds__256_257_6_b
      have z : (6 : Int32) ≤ Int32.ofNat 6 := by decide
      rw [if_pos z]
    | succ r ih =>
      intro f i hi hf
      obtain ⟨f, rfl⟩ : ∃ g, f = g + 1 := ⟨f - 1, by omega⟩
      have i1 := ih f (i + 1) (by omega) (by omega)
      have oa := (adL_v (f := m.1 256) (g := m.1 257) (p := p) (q := q) i).2.1
      have z : ¬ (6 : Int32) ≤ Int32.ofNat i := nle (R := 6) (by omega) (by decide)
      have ap : Int32.ofNat p + Int32.ofNat i = Int32.ofNat (p + i) := (Int32.ofNat_add p i).symm
      have aq : Int32.ofNat q + Int32.ofNat i = Int32.ofNat (q + i) := (Int32.ofNat_add q i).symm
      have ra : (stc m 256 (adL (m.1 256) (m.1 257) p q i).2).1 256 (p + i) = m.1 256 (p + i) := by rw [stc_at]; exact oa (p + i) (Or.inr (Nat.le_refl _))
      have rb : (stc m 256 (adL (m.1 256) (m.1 257) p q i).2).1 257 (q + i) = m.1 257 (q + i) := by rw [stc_ne (by decide)]
      show g_X14_adds__256_257_6_b w (g_X14_adds__256_257_6 w f) _ _ _ _ _ = _
      unfold g_X14_adds__256_257_6_b rf_vl
      rw [if_neg z, ap, aq, gof (n := p + i) (by omega) (by decide), g_t, gof (n := q + i) (by omega) (by decide), g_t]
      dsimp only
      rw [g_t, tn_of (n := p + i) (by omega), tn_of (n := q + i) (by omega), ra, rb, of_succ, stc_i, stc_at, stc_stc]
      exact i1
  have k := key 6 FU 0 (by omega) (by omega)
  have z : stc m 256 (adL (m.1 256) (m.1 257) p q 0).2 = m := stc_self
  rw [z] at k
  refine ⟨_, ?_, adL_6 hx hy⟩
  unfold g_X14_adds__256_257
  rw [hF]
  exact k
theorem ad_264_258 {w : rf_w} {m : rf_m} {p q : Nat} {x y : Int} (hp : p + 6 ≤ 480) (hq : q + 6 ≤ 36) (hx : wd (m.1 264) p x) (hy : wd (m.1 258) q y) : ∃ F, g_X14_adds__264_258 w m (Int32.ofNat p) (Int32.ofNat q) = some (stc m 264 F) ∧ wF p (m.1 264) F ∧ wd F p (x + y) := by
  obtain ⟨FU, hF, hFb⟩ := fuel_ex
  have key : ∀ r f i, i + r = 6 → r < f → g_X14_adds__264_258_6 w f (Int32.ofNat p) (Int32.ofNat q) (adL (m.1 264) (m.1 258) p q i).1 (Int32.ofNat i) (stc m 264 (adL (m.1 264) (m.1 258) p q i).2) = some (stc m 264 (adL (m.1 264) (m.1 258) p q 6).2) := by
    intro r
    induction r with
    | zero =>
      intro f i hi hf
      obtain ⟨f, rfl⟩ : ∃ g, f = g + 1 := ⟨f - 1, by omega⟩
      have e : i = 6 := by omega
      subst e
      show g_X14_adds__264_258_6_b w _ _ _ _ _ _ = _
      unfold g_X14_adds__264_258_6_b
      have z : (6 : Int32) ≤ Int32.ofNat 6 := by decide
      rw [if_pos z]
    | succ r ih =>
      intro f i hi hf
      obtain ⟨f, rfl⟩ : ∃ g, f = g + 1 := ⟨f - 1, by omega⟩
      have i1 := ih f (i + 1) (by omega) (by omega)
      have oa := (adL_v (f := m.1 264) (g := m.1 258) (p := p) (q := q) i).2.1
      have z : ¬ (6 : Int32) ≤ Int32.ofNat i := nle (R := 6) (by omega) (by decide)
      have ap : Int32.ofNat p + Int32.ofNat i = Int32.ofNat (p + i) := (Int32.ofNat_add p i).symm
      have aq : Int32.ofNat q + Int32.ofNat i = Int32.ofNat (q + i) := (Int32.ofNat_add q i).symm
      have ra : (stc m 264 (adL (m.1 264) (m.1 258) p q i).2).1 264 (p + i) = m.1 264 (p + i) := by rw [stc_at]; exact oa (p + i) (Or.inr (Nat.le_refl _))
      have rb : (stc m 264 (adL (m.1 264) (m.1 258) p q i).2).1 258 (q + i) = m.1 258 (q + i) := by rw [stc_ne (by decide)]
      show g_X14_adds__264_258_6_b w (g_X14_adds__264_258_6 w f) _ _ _ _ _ = _
      unfold g_X14_adds__264_258_6_b rf_vl
      rw [if_neg z, ap, aq, gof (n := p + i) (by omega) (by decide), g_t, gof (n := q + i) (by omega) (by decide), g_t]
      dsimp only
      rw [g_t, tn_of (n := p + i) (by omega), tn_of (n := q + i) (by omega), ra, rb, of_succ, stc_i, stc_at, stc_stc]
      exact i1
  have k := key 6 FU 0 (by omega) (by omega)
  have z : stc m 264 (adL (m.1 264) (m.1 258) p q 0).2 = m := stc_self
  rw [z] at k
  refine ⟨_, ?_, adL_6 hx hy⟩
  unfold g_X14_adds__264_258
  rw [hF]
  exact k
theorem cp_251_253 {w : rf_w} {m : rf_m} {p q : Nat} {x : Int} (hp : p + 6 ≤ 6) (hq : q + 6 ≤ 6) (hx : wd (m.1 253) q x) : ∃ F, g_X14_copies__251_253 w m (Int32.ofNat p) (Int32.ofNat q) = some (stc m 251 F) ∧ wF p (m.1 251) F ∧ wd F p x := by
  obtain ⟨FU, hF, hFb⟩ := fuel_ex
  have key : ∀ r f i, i + r = 6 → r < f → g_X14_copies__251_253_3 w f (Int32.ofNat p) (Int32.ofNat q) (Int32.ofNat i) (stc m 251 (cpL (m.1 251) (m.1 253) p q i)) = some (stc m 251 (cpL (m.1 251) (m.1 253) p q 6)) := by
    intro r
    induction r with
    | zero =>
      intro f i hi hf
      obtain ⟨f, rfl⟩ : ∃ g, f = g + 1 := ⟨f - 1, by omega⟩
      have e : i = 6 := by omega
      subst e
      show g_X14_copies__251_253_3_b w _ _ _ _ _ = _
      unfold g_X14_copies__251_253_3_b
      have z : (6 : Int32) ≤ Int32.ofNat 6 := by decide
      rw [if_pos z]
    | succ r ih =>
      intro f i hi hf
      obtain ⟨f, rfl⟩ : ∃ g, f = g + 1 := ⟨f - 1, by omega⟩
      have i1 := ih f (i + 1) (by omega) (by omega)
      have z : ¬ (6 : Int32) ≤ Int32.ofNat i := nle (R := 6) (by omega) (by decide)
      have ap : Int32.ofNat p + Int32.ofNat i = Int32.ofNat (p + i) := (Int32.ofNat_add p i).symm
      have aq : Int32.ofNat q + Int32.ofNat i = Int32.ofNat (q + i) := (Int32.ofNat_add q i).symm
      have rb : (stc m 251 (cpL (m.1 251) (m.1 253) p q i)).1 253 (q + i) = m.1 253 (q + i) := by rw [stc_ne (by decide)]
      show g_X14_copies__251_253_3_b w (g_X14_copies__251_253_3 w f) _ _ _ _ = _
      unfold g_X14_copies__251_253_3_b
      rw [if_neg z, ap, aq, gof (n := q + i) (by omega) (by decide), g_t, gof (n := p + i) (by omega) (by decide), g_t, tn_of (n := p + i) (by omega), tn_of (n := q + i) (by omega), rb, of_succ, stc_i, stc_at, stc_stc]
      exact i1
  have k := key 6 FU 0 (by omega) (by omega)
  have z : stc m 251 (cpL (m.1 251) (m.1 253) p q 0) = m := stc_self
  rw [z] at k
  refine ⟨_, ?_, cpL_6.1, wd_c hx cpL_6.2⟩
  unfold g_X14_copies__251_253
  rw [hF]
  exact k
theorem cp_251_266 {w : rf_w} {m : rf_m} {p q : Nat} {x : Int} (hp : p + 6 ≤ 6) (hq : q + 6 ≤ 6) (hx : wd (m.1 266) q x) : ∃ F, g_X14_copies__251_266 w m (Int32.ofNat p) (Int32.ofNat q) = some (stc m 251 F) ∧ wF p (m.1 251) F ∧ wd F p x := by
  obtain ⟨FU, hF, hFb⟩ := fuel_ex
  have key : ∀ r f i, i + r = 6 → r < f → g_X14_copies__251_266_3 w f (Int32.ofNat p) (Int32.ofNat q) (Int32.ofNat i) (stc m 251 (cpL (m.1 251) (m.1 266) p q i)) = some (stc m 251 (cpL (m.1 251) (m.1 266) p q 6)) := by
    intro r
    induction r with
    | zero =>
      intro f i hi hf
      obtain ⟨f, rfl⟩ : ∃ g, f = g + 1 := ⟨f - 1, by omega⟩
      have e : i = 6 := by omega
      subst e
      show g_X14_copies__251_266_3_b w _ _ _ _ _ = _
      unfold g_X14_copies__251_266_3_b
      have z : (6 : Int32) ≤ Int32.ofNat 6 := by decide
      rw [if_pos z]
    | succ r ih =>
      intro f i hi hf
      obtain ⟨f, rfl⟩ : ∃ g, f = g + 1 := ⟨f - 1, by omega⟩
      have i1 := ih f (i + 1) (by omega) (by omega)
      have z : ¬ (6 : Int32) ≤ Int32.ofNat i := nle (R := 6) (by omega) (by decide)
      have ap : Int32.ofNat p + Int32.ofNat i = Int32.ofNat (p + i) := (Int32.ofNat_add p i).symm
      have aq : Int32.ofNat q + Int32.ofNat i = Int32.ofNat (q + i) := (Int32.ofNat_add q i).symm
      have rb : (stc m 251 (cpL (m.1 251) (m.1 266) p q i)).1 266 (q + i) = m.1 266 (q + i) := by rw [stc_ne (by decide)]
      show g_X14_copies__251_266_3_b w (g_X14_copies__251_266_3 w f) _ _ _ _ = _
      unfold g_X14_copies__251_266_3_b
      rw [if_neg z, ap, aq, gof (n := q + i) (by omega) (by decide), g_t, gof (n := p + i) (by omega) (by decide), g_t, tn_of (n := p + i) (by omega), tn_of (n := q + i) (by omega), rb, of_succ, stc_i, stc_at, stc_stc]
      exact i1
  have k := key 6 FU 0 (by omega) (by omega)
  have z : stc m 251 (cpL (m.1 251) (m.1 266) p q 0) = m := stc_self
  rw [z] at k
  refine ⟨_, ?_, cpL_6.1, wd_c hx cpL_6.2⟩
  unfold g_X14_copies__251_266
  rw [hF]
  exact k
theorem cp_251_267 {w : rf_w} {m : rf_m} {p q : Nat} {x : Int} (hp : p + 6 ≤ 6) (hq : q + 6 ≤ 6) (hx : wd (m.1 267) q x) : ∃ F, g_X14_copies__251_267 w m (Int32.ofNat p) (Int32.ofNat q) = some (stc m 251 F) ∧ wF p (m.1 251) F ∧ wd F p x := by
  obtain ⟨FU, hF, hFb⟩ := fuel_ex
  have key : ∀ r f i, i + r = 6 → r < f → g_X14_copies__251_267_3 w f (Int32.ofNat p) (Int32.ofNat q) (Int32.ofNat i) (stc m 251 (cpL (m.1 251) (m.1 267) p q i)) = some (stc m 251 (cpL (m.1 251) (m.1 267) p q 6)) := by
    intro r
    induction r with
    | zero =>
      intro f i hi hf
      obtain ⟨f, rfl⟩ : ∃ g, f = g + 1 := ⟨f - 1, by omega⟩
      have e : i = 6 := by omega
      subst e
      show g_X14_copies__251_267_3_b w _ _ _ _ _ = _
      unfold g_X14_copies__251_267_3_b
      have z : (6 : Int32) ≤ Int32.ofNat 6 := by decide
      rw [if_pos z]
    | succ r ih =>
      intro f i hi hf
      obtain ⟨f, rfl⟩ : ∃ g, f = g + 1 := ⟨f - 1, by omega⟩
      have i1 := ih f (i + 1) (by omega) (by omega)
      have z : ¬ (6 : Int32) ≤ Int32.ofNat i := nle (R := 6) (by omega) (by decide)
      have ap : Int32.ofNat p + Int32.ofNat i = Int32.ofNat (p + i) := (Int32.ofNat_add p i).symm
      have aq : Int32.ofNat q + Int32.ofNat i = Int32.ofNat (q + i) := (Int32.ofNat_add q i).symm
      have rb : (stc m 251 (cpL (m.1 251) (m.1 267) p q i)).1 267 (q + i) = m.1 267 (q + i) := by rw [stc_ne (by decide)]
      show g_X14_copies__251_267_3_b w (g_X14_copies__251_267_3 w f) _ _ _ _ = _
      unfold g_X14_copies__251_267_3_b
      rw [if_neg z, ap, aq, gof (n := q + i) (by omega) (by decide), g_t, gof (n := p + i) (by omega) (by decide), g_t, tn_of (n := p + i) (by omega), tn_of (n := q + i) (by omega), rb, of_succ, stc_i, stc_at, stc_stc]
      exact i1
  have k := key 6 FU 0 (by omega) (by omega)
  have z : stc m 251 (cpL (m.1 251) (m.1 267) p q 0) = m := stc_self
  rw [z] at k
  refine ⟨_, ?_, cpL_6.1, wd_c hx cpL_6.2⟩
  unfold g_X14_copies__251_267
  rw [hF]
  exact k
theorem cp_252_257 {w : rf_w} {m : rf_m} {p q : Nat} {x : Int} (hp : p + 6 ≤ 6) (hq : q + 6 ≤ 6) (hx : wd (m.1 257) q x) : ∃ F, g_X14_copies__252_257 w m (Int32.ofNat p) (Int32.ofNat q) = some (stc m 252 F) ∧ wF p (m.1 252) F ∧ wd F p x := by
  obtain ⟨FU, hF, hFb⟩ := fuel_ex
  have key : ∀ r f i, i + r = 6 → r < f → g_X14_copies__252_257_3 w f (Int32.ofNat p) (Int32.ofNat q) (Int32.ofNat i) (stc m 252 (cpL (m.1 252) (m.1 257) p q i)) = some (stc m 252 (cpL (m.1 252) (m.1 257) p q 6)) := by
    intro r
    induction r with
    | zero =>
      intro f i hi hf
      obtain ⟨f, rfl⟩ : ∃ g, f = g + 1 := ⟨f - 1, by omega⟩
      have e : i = 6 := by omega
      subst e
      show g_X14_copies__252_257_3_b w _ _ _ _ _ = _
      unfold g_X14_copies__252_257_3_b
      have z : (6 : Int32) ≤ Int32.ofNat 6 := by decide
      rw [if_pos z]
    | succ r ih =>
      intro f i hi hf
      obtain ⟨f, rfl⟩ : ∃ g, f = g + 1 := ⟨f - 1, by omega⟩
      have i1 := ih f (i + 1) (by omega) (by omega)
      have z : ¬ (6 : Int32) ≤ Int32.ofNat i := nle (R := 6) (by omega) (by decide)
      have ap : Int32.ofNat p + Int32.ofNat i = Int32.ofNat (p + i) := (Int32.ofNat_add p i).symm
      have aq : Int32.ofNat q + Int32.ofNat i = Int32.ofNat (q + i) := (Int32.ofNat_add q i).symm
      have rb : (stc m 252 (cpL (m.1 252) (m.1 257) p q i)).1 257 (q + i) = m.1 257 (q + i) := by rw [stc_ne (by decide)]
      show g_X14_copies__252_257_3_b w (g_X14_copies__252_257_3 w f) _ _ _ _ = _
      unfold g_X14_copies__252_257_3_b
      rw [if_neg z, ap, aq, gof (n := q + i) (by omega) (by decide), g_t, gof (n := p + i) (by omega) (by decide), g_t, tn_of (n := p + i) (by omega), tn_of (n := q + i) (by omega), rb, of_succ, stc_i, stc_at, stc_stc]
      exact i1
  have k := key 6 FU 0 (by omega) (by omega)
  have z : stc m 252 (cpL (m.1 252) (m.1 257) p q 0) = m := stc_self
  rw [z] at k
  refine ⟨_, ?_, cpL_6.1, wd_c hx cpL_6.2⟩
  unfold g_X14_copies__252_257
  rw [hF]
  exact k
theorem cp_253_259 {w : rf_w} {m : rf_m} {p q : Nat} {x : Int} (hp : p + 6 ≤ 6) (hq : q + 6 ≤ 6) (hx : wd (m.1 259) q x) : ∃ F, g_X14_copies__253_259 w m (Int32.ofNat p) (Int32.ofNat q) = some (stc m 253 F) ∧ wF p (m.1 253) F ∧ wd F p x := by
  obtain ⟨FU, hF, hFb⟩ := fuel_ex
  have key : ∀ r f i, i + r = 6 → r < f → g_X14_copies__253_259_3 w f (Int32.ofNat p) (Int32.ofNat q) (Int32.ofNat i) (stc m 253 (cpL (m.1 253) (m.1 259) p q i)) = some (stc m 253 (cpL (m.1 253) (m.1 259) p q 6)) := by
    intro r
    induction r with
    | zero =>
      intro f i hi hf
      obtain ⟨f, rfl⟩ : ∃ g, f = g + 1 := ⟨f - 1, by omega⟩
      have e : i = 6 := by omega
      subst e
      show g_X14_copies__253_259_3_b w _ _ _ _ _ = _
      unfold g_X14_copies__253_259_3_b
      have z : (6 : Int32) ≤ Int32.ofNat 6 := by decide
      rw [if_pos z]
    | succ r ih =>
      intro f i hi hf
      obtain ⟨f, rfl⟩ : ∃ g, f = g + 1 := ⟨f - 1, by omega⟩
      have i1 := ih f (i + 1) (by omega) (by omega)
      have z : ¬ (6 : Int32) ≤ Int32.ofNat i := nle (R := 6) (by omega) (by decide)
      have ap : Int32.ofNat p + Int32.ofNat i = Int32.ofNat (p + i) := (Int32.ofNat_add p i).symm
      have aq : Int32.ofNat q + Int32.ofNat i = Int32.ofNat (q + i) := (Int32.ofNat_add q i).symm
      have rb : (stc m 253 (cpL (m.1 253) (m.1 259) p q i)).1 259 (q + i) = m.1 259 (q + i) := by rw [stc_ne (by decide)]
      show g_X14_copies__253_259_3_b w (g_X14_copies__253_259_3 w f) _ _ _ _ = _
      unfold g_X14_copies__253_259_3_b
      rw [if_neg z, ap, aq, gof (n := q + i) (by omega) (by decide), g_t, gof (n := p + i) (by omega) (by decide), g_t, tn_of (n := p + i) (by omega), tn_of (n := q + i) (by omega), rb, of_succ, stc_i, stc_at, stc_stc]
      exact i1
  have k := key 6 FU 0 (by omega) (by omega)
  have z : stc m 253 (cpL (m.1 253) (m.1 259) p q 0) = m := stc_self
  rw [z] at k
  refine ⟨_, ?_, cpL_6.1, wd_c hx cpL_6.2⟩
  unfold g_X14_copies__253_259
  rw [hF]
  exact k
theorem cp_258_256 {w : rf_w} {m : rf_m} {p q : Nat} {x : Int} (hp : p + 6 ≤ 36) (hq : q + 6 ≤ 384) (hx : wd (m.1 256) q x) : ∃ F, g_X14_copies__258_256 w m (Int32.ofNat p) (Int32.ofNat q) = some (stc m 258 F) ∧ wF p (m.1 258) F ∧ wd F p x := by
  obtain ⟨FU, hF, hFb⟩ := fuel_ex
  have key : ∀ r f i, i + r = 6 → r < f → g_X14_copies__258_256_3 w f (Int32.ofNat p) (Int32.ofNat q) (Int32.ofNat i) (stc m 258 (cpL (m.1 258) (m.1 256) p q i)) = some (stc m 258 (cpL (m.1 258) (m.1 256) p q 6)) := by
    intro r
    induction r with
    | zero =>
      intro f i hi hf
      obtain ⟨f, rfl⟩ : ∃ g, f = g + 1 := ⟨f - 1, by omega⟩
      have e : i = 6 := by omega
      subst e
      show g_X14_copies__258_256_3_b w _ _ _ _ _ = _
      unfold g_X14_copies__258_256_3_b
      have z : (6 : Int32) ≤ Int32.ofNat 6 := by decide
      rw [if_pos z]
    | succ r ih =>
      intro f i hi hf
      obtain ⟨f, rfl⟩ : ∃ g, f = g + 1 := ⟨f - 1, by omega⟩
      have i1 := ih f (i + 1) (by omega) (by omega)
      have z : ¬ (6 : Int32) ≤ Int32.ofNat i := nle (R := 6) (by omega) (by decide)
      have ap : Int32.ofNat p + Int32.ofNat i = Int32.ofNat (p + i) := (Int32.ofNat_add p i).symm
      have aq : Int32.ofNat q + Int32.ofNat i = Int32.ofNat (q + i) := (Int32.ofNat_add q i).symm
      have rb : (stc m 258 (cpL (m.1 258) (m.1 256) p q i)).1 256 (q + i) = m.1 256 (q + i) := by rw [stc_ne (by decide)]
      show g_X14_copies__258_256_3_b w (g_X14_copies__258_256_3 w f) _ _ _ _ = _
      unfold g_X14_copies__258_256_3_b
      rw [if_neg z, ap, aq, gof (n := q + i) (by omega) (by decide), g_t, gof (n := p + i) (by omega) (by decide), g_t, tn_of (n := p + i) (by omega), tn_of (n := q + i) (by omega), rb, of_succ, stc_i, stc_at, stc_stc]
      exact i1
  have k := key 6 FU 0 (by omega) (by omega)
  have z : stc m 258 (cpL (m.1 258) (m.1 256) p q 0) = m := stc_self
  rw [z] at k
  refine ⟨_, ?_, cpL_6.1, wd_c hx cpL_6.2⟩
  unfold g_X14_copies__258_256
  rw [hF]
  exact k
theorem cp_259_260 {w : rf_w} {m : rf_m} {p q : Nat} {x : Int} (hp : p + 6 ≤ 6) (hq : q + 6 ≤ 6) (hx : wd (m.1 260) q x) : ∃ F, g_X14_copies__259_260 w m (Int32.ofNat p) (Int32.ofNat q) = some (stc m 259 F) ∧ wF p (m.1 259) F ∧ wd F p x := by
  obtain ⟨FU, hF, hFb⟩ := fuel_ex
  have key : ∀ r f i, i + r = 6 → r < f → g_X14_copies__259_260_3 w f (Int32.ofNat p) (Int32.ofNat q) (Int32.ofNat i) (stc m 259 (cpL (m.1 259) (m.1 260) p q i)) = some (stc m 259 (cpL (m.1 259) (m.1 260) p q 6)) := by
    intro r
    induction r with
    | zero =>
      intro f i hi hf
      obtain ⟨f, rfl⟩ : ∃ g, f = g + 1 := ⟨f - 1, by omega⟩
      have e : i = 6 := by omega
      subst e
      show g_X14_copies__259_260_3_b w _ _ _ _ _ = _
      unfold g_X14_copies__259_260_3_b
      have z : (6 : Int32) ≤ Int32.ofNat 6 := by decide
      rw [if_pos z]
    | succ r ih =>
      intro f i hi hf
      obtain ⟨f, rfl⟩ : ∃ g, f = g + 1 := ⟨f - 1, by omega⟩
      have i1 := ih f (i + 1) (by omega) (by omega)
      have z : ¬ (6 : Int32) ≤ Int32.ofNat i := nle (R := 6) (by omega) (by decide)
      have ap : Int32.ofNat p + Int32.ofNat i = Int32.ofNat (p + i) := (Int32.ofNat_add p i).symm
      have aq : Int32.ofNat q + Int32.ofNat i = Int32.ofNat (q + i) := (Int32.ofNat_add q i).symm
      have rb : (stc m 259 (cpL (m.1 259) (m.1 260) p q i)).1 260 (q + i) = m.1 260 (q + i) := by rw [stc_ne (by decide)]
      show g_X14_copies__259_260_3_b w (g_X14_copies__259_260_3 w f) _ _ _ _ = _
      unfold g_X14_copies__259_260_3_b
      rw [if_neg z, ap, aq, gof (n := q + i) (by omega) (by decide), g_t, gof (n := p + i) (by omega) (by decide), g_t, tn_of (n := p + i) (by omega), tn_of (n := q + i) (by omega), rb, of_succ, stc_i, stc_at, stc_stc]
      exact i1
  have k := key 6 FU 0 (by omega) (by omega)
  have z : stc m 259 (cpL (m.1 259) (m.1 260) p q 0) = m := stc_self
  rw [z] at k
  refine ⟨_, ?_, cpL_6.1, wd_c hx cpL_6.2⟩
  unfold g_X14_copies__259_260
  rw [hF]
  exact k
theorem cp_260_256 {w : rf_w} {m : rf_m} {p q : Nat} {x : Int} (hp : p + 6 ≤ 6) (hq : q + 6 ≤ 384) (hx : wd (m.1 256) q x) : ∃ F, g_X14_copies__260_256 w m (Int32.ofNat p) (Int32.ofNat q) = some (stc m 260 F) ∧ wF p (m.1 260) F ∧ wd F p x := by
  obtain ⟨FU, hF, hFb⟩ := fuel_ex
  have key : ∀ r f i, i + r = 6 → r < f → g_X14_copies__260_256_3 w f (Int32.ofNat p) (Int32.ofNat q) (Int32.ofNat i) (stc m 260 (cpL (m.1 260) (m.1 256) p q i)) = some (stc m 260 (cpL (m.1 260) (m.1 256) p q 6)) := by
    intro r
    induction r with
    | zero =>
      intro f i hi hf
      obtain ⟨f, rfl⟩ : ∃ g, f = g + 1 := ⟨f - 1, by omega⟩
      have e : i = 6 := by omega
      subst e
      show g_X14_copies__260_256_3_b w _ _ _ _ _ = _
      unfold g_X14_copies__260_256_3_b
      have z : (6 : Int32) ≤ Int32.ofNat 6 := by decide
      rw [if_pos z]
    | succ r ih =>
      intro f i hi hf
      obtain ⟨f, rfl⟩ : ∃ g, f = g + 1 := ⟨f - 1, by omega⟩
      have i1 := ih f (i + 1) (by omega) (by omega)
      have z : ¬ (6 : Int32) ≤ Int32.ofNat i := nle (R := 6) (by omega) (by decide)
      have ap : Int32.ofNat p + Int32.ofNat i = Int32.ofNat (p + i) := (Int32.ofNat_add p i).symm
      have aq : Int32.ofNat q + Int32.ofNat i = Int32.ofNat (q + i) := (Int32.ofNat_add q i).symm
      have rb : (stc m 260 (cpL (m.1 260) (m.1 256) p q i)).1 256 (q + i) = m.1 256 (q + i) := by rw [stc_ne (by decide)]
      show g_X14_copies__260_256_3_b w (g_X14_copies__260_256_3 w f) _ _ _ _ = _
      unfold g_X14_copies__260_256_3_b
      rw [if_neg z, ap, aq, gof (n := q + i) (by omega) (by decide), g_t, gof (n := p + i) (by omega) (by decide), g_t, tn_of (n := p + i) (by omega), tn_of (n := q + i) (by omega), rb, of_succ, stc_i, stc_at, stc_stc]
      exact i1
  have k := key 6 FU 0 (by omega) (by omega)
  have z : stc m 260 (cpL (m.1 260) (m.1 256) p q 0) = m := stc_self
  rw [z] at k
  refine ⟨_, ?_, cpL_6.1, wd_c hx cpL_6.2⟩
  unfold g_X14_copies__260_256
  rw [hF]
  exact k
theorem cp_264_257 {w : rf_w} {m : rf_m} {p q : Nat} {x : Int} (hp : p + 6 ≤ 480) (hq : q + 6 ≤ 6) (hx : wd (m.1 257) q x) : ∃ F, g_X14_copies__264_257 w m (Int32.ofNat p) (Int32.ofNat q) = some (stc m 264 F) ∧ wF p (m.1 264) F ∧ wd F p x := by
  obtain ⟨FU, hF, hFb⟩ := fuel_ex
  have key : ∀ r f i, i + r = 6 → r < f → g_X14_copies__264_257_3 w f (Int32.ofNat p) (Int32.ofNat q) (Int32.ofNat i) (stc m 264 (cpL (m.1 264) (m.1 257) p q i)) = some (stc m 264 (cpL (m.1 264) (m.1 257) p q 6)) := by
    intro r
    induction r with
    | zero =>
      intro f i hi hf
      obtain ⟨f, rfl⟩ : ∃ g, f = g + 1 := ⟨f - 1, by omega⟩
      have e : i = 6 := by omega
      subst e
      show g_X14_copies__264_257_3_b w _ _ _ _ _ = _
      unfold g_X14_copies__264_257_3_b
      have z : (6 : Int32) ≤ Int32.ofNat 6 := by decide
      rw [if_pos z]
    | succ r ih =>
      intro f i hi hf
      obtain ⟨f, rfl⟩ : ∃ g, f = g + 1 := ⟨f - 1, by omega⟩
      have i1 := ih f (i + 1) (by omega) (by omega)
      have z : ¬ (6 : Int32) ≤ Int32.ofNat i := nle (R := 6) (by omega) (by decide)
      have ap : Int32.ofNat p + Int32.ofNat i = Int32.ofNat (p + i) := (Int32.ofNat_add p i).symm
      have aq : Int32.ofNat q + Int32.ofNat i = Int32.ofNat (q + i) := (Int32.ofNat_add q i).symm
      have rb : (stc m 264 (cpL (m.1 264) (m.1 257) p q i)).1 257 (q + i) = m.1 257 (q + i) := by rw [stc_ne (by decide)]
      show g_X14_copies__264_257_3_b w (g_X14_copies__264_257_3 w f) _ _ _ _ = _
      unfold g_X14_copies__264_257_3_b
      rw [if_neg z, ap, aq, gof (n := q + i) (by omega) (by decide), g_t, gof (n := p + i) (by omega) (by decide), g_t, tn_of (n := p + i) (by omega), tn_of (n := q + i) (by omega), rb, of_succ, stc_i, stc_at, stc_stc]
      exact i1
  have k := key 6 FU 0 (by omega) (by omega)
  have z : stc m 264 (cpL (m.1 264) (m.1 257) p q 0) = m := stc_self
  rw [z] at k
  refine ⟨_, ?_, cpL_6.1, wd_c hx cpL_6.2⟩
  unfold g_X14_copies__264_257
  rw [hF]
  exact k
theorem cp_266_250 {w : rf_w} {m : rf_m} {p q : Nat} {x : Int} (hp : p + 6 ≤ 6) (hq : q + 6 ≤ 6) (hx : wd (m.1 250) q x) : ∃ F, g_X14_copies__266_250 w m (Int32.ofNat p) (Int32.ofNat q) = some (stc m 266 F) ∧ wF p (m.1 266) F ∧ wd F p x := by
  obtain ⟨FU, hF, hFb⟩ := fuel_ex
  have key : ∀ r f i, i + r = 6 → r < f → g_X14_copies__266_250_3 w f (Int32.ofNat p) (Int32.ofNat q) (Int32.ofNat i) (stc m 266 (cpL (m.1 266) (m.1 250) p q i)) = some (stc m 266 (cpL (m.1 266) (m.1 250) p q 6)) := by
    intro r
    induction r with
    | zero =>
      intro f i hi hf
      obtain ⟨f, rfl⟩ : ∃ g, f = g + 1 := ⟨f - 1, by omega⟩
      have e : i = 6 := by omega
      subst e
      show g_X14_copies__266_250_3_b w _ _ _ _ _ = _
      unfold g_X14_copies__266_250_3_b
      have z : (6 : Int32) ≤ Int32.ofNat 6 := by decide
      rw [if_pos z]
    | succ r ih =>
      intro f i hi hf
      obtain ⟨f, rfl⟩ : ∃ g, f = g + 1 := ⟨f - 1, by omega⟩
      have i1 := ih f (i + 1) (by omega) (by omega)
      have z : ¬ (6 : Int32) ≤ Int32.ofNat i := nle (R := 6) (by omega) (by decide)
      have ap : Int32.ofNat p + Int32.ofNat i = Int32.ofNat (p + i) := (Int32.ofNat_add p i).symm
      have aq : Int32.ofNat q + Int32.ofNat i = Int32.ofNat (q + i) := (Int32.ofNat_add q i).symm
      have rb : (stc m 266 (cpL (m.1 266) (m.1 250) p q i)).1 250 (q + i) = m.1 250 (q + i) := by rw [stc_ne (by decide)]
      show g_X14_copies__266_250_3_b w (g_X14_copies__266_250_3 w f) _ _ _ _ = _
      unfold g_X14_copies__266_250_3_b
      rw [if_neg z, ap, aq, gof (n := q + i) (by omega) (by decide), g_t, gof (n := p + i) (by omega) (by decide), g_t, tn_of (n := p + i) (by omega), tn_of (n := q + i) (by omega), rb, of_succ, stc_i, stc_at, stc_stc]
      exact i1
  have k := key 6 FU 0 (by omega) (by omega)
  have z : stc m 266 (cpL (m.1 266) (m.1 250) p q 0) = m := stc_self
  rw [z] at k
  refine ⟨_, ?_, cpL_6.1, wd_c hx cpL_6.2⟩
  unfold g_X14_copies__266_250
  rw [hF]
  exact k
theorem cp_266_264 {w : rf_w} {m : rf_m} {p q : Nat} {x : Int} (hp : p + 6 ≤ 6) (hq : q + 6 ≤ 480) (hx : wd (m.1 264) q x) : ∃ F, g_X14_copies__266_264 w m (Int32.ofNat p) (Int32.ofNat q) = some (stc m 266 F) ∧ wF p (m.1 266) F ∧ wd F p x := by
  obtain ⟨FU, hF, hFb⟩ := fuel_ex
  have key : ∀ r f i, i + r = 6 → r < f → g_X14_copies__266_264_3 w f (Int32.ofNat p) (Int32.ofNat q) (Int32.ofNat i) (stc m 266 (cpL (m.1 266) (m.1 264) p q i)) = some (stc m 266 (cpL (m.1 266) (m.1 264) p q 6)) := by
    intro r
    induction r with
    | zero =>
      intro f i hi hf
      obtain ⟨f, rfl⟩ : ∃ g, f = g + 1 := ⟨f - 1, by omega⟩
      have e : i = 6 := by omega
      subst e
      show g_X14_copies__266_264_3_b w _ _ _ _ _ = _
      unfold g_X14_copies__266_264_3_b
      have z : (6 : Int32) ≤ Int32.ofNat 6 := by decide
      rw [if_pos z]
    | succ r ih =>
      intro f i hi hf
      obtain ⟨f, rfl⟩ : ∃ g, f = g + 1 := ⟨f - 1, by omega⟩
      have i1 := ih f (i + 1) (by omega) (by omega)
      have z : ¬ (6 : Int32) ≤ Int32.ofNat i := nle (R := 6) (by omega) (by decide)
      have ap : Int32.ofNat p + Int32.ofNat i = Int32.ofNat (p + i) := (Int32.ofNat_add p i).symm
      have aq : Int32.ofNat q + Int32.ofNat i = Int32.ofNat (q + i) := (Int32.ofNat_add q i).symm
      have rb : (stc m 266 (cpL (m.1 266) (m.1 264) p q i)).1 264 (q + i) = m.1 264 (q + i) := by rw [stc_ne (by decide)]
      show g_X14_copies__266_264_3_b w (g_X14_copies__266_264_3 w f) _ _ _ _ = _
      unfold g_X14_copies__266_264_3_b
      rw [if_neg z, ap, aq, gof (n := q + i) (by omega) (by decide), g_t, gof (n := p + i) (by omega) (by decide), g_t, tn_of (n := p + i) (by omega), tn_of (n := q + i) (by omega), rb, of_succ, stc_i, stc_at, stc_stc]
      exact i1
  have k := key 6 FU 0 (by omega) (by omega)
  have z : stc m 266 (cpL (m.1 266) (m.1 264) p q 0) = m := stc_self
  rw [z] at k
  refine ⟨_, ?_, cpL_6.1, wd_c hx cpL_6.2⟩
  unfold g_X14_copies__266_264
  rw [hF]
  exact k
theorem cp_267_259 {w : rf_w} {m : rf_m} {p q : Nat} {x : Int} (hp : p + 6 ≤ 6) (hq : q + 6 ≤ 6) (hx : wd (m.1 259) q x) : ∃ F, g_X14_copies__267_259 w m (Int32.ofNat p) (Int32.ofNat q) = some (stc m 267 F) ∧ wF p (m.1 267) F ∧ wd F p x := by
  obtain ⟨FU, hF, hFb⟩ := fuel_ex
  have key : ∀ r f i, i + r = 6 → r < f → g_X14_copies__267_259_3 w f (Int32.ofNat p) (Int32.ofNat q) (Int32.ofNat i) (stc m 267 (cpL (m.1 267) (m.1 259) p q i)) = some (stc m 267 (cpL (m.1 267) (m.1 259) p q 6)) := by
    intro r
    induction r with
    | zero =>
      intro f i hi hf
      obtain ⟨f, rfl⟩ : ∃ g, f = g + 1 := ⟨f - 1, by omega⟩
      have e : i = 6 := by omega
      subst e
      show g_X14_copies__267_259_3_b w _ _ _ _ _ = _
      unfold g_X14_copies__267_259_3_b
      have z : (6 : Int32) ≤ Int32.ofNat 6 := by decide
      rw [if_pos z]
    | succ r ih =>
      intro f i hi hf
      obtain ⟨f, rfl⟩ : ∃ g, f = g + 1 := ⟨f - 1, by omega⟩
      have i1 := ih f (i + 1) (by omega) (by omega)
      have z : ¬ (6 : Int32) ≤ Int32.ofNat i := nle (R := 6) (by omega) (by decide)
      have ap : Int32.ofNat p + Int32.ofNat i = Int32.ofNat (p + i) := (Int32.ofNat_add p i).symm
      have aq : Int32.ofNat q + Int32.ofNat i = Int32.ofNat (q + i) := (Int32.ofNat_add q i).symm
      have rb : (stc m 267 (cpL (m.1 267) (m.1 259) p q i)).1 259 (q + i) = m.1 259 (q + i) := by rw [stc_ne (by decide)]
      show g_X14_copies__267_259_3_b w (g_X14_copies__267_259_3 w f) _ _ _ _ = _
      unfold g_X14_copies__267_259_3_b
      rw [if_neg z, ap, aq, gof (n := q + i) (by omega) (by decide), g_t, gof (n := p + i) (by omega) (by decide), g_t, tn_of (n := p + i) (by omega), tn_of (n := q + i) (by omega), rb, of_succ, stc_i, stc_at, stc_stc]
      exact i1
  have k := key 6 FU 0 (by omega) (by omega)
  have z : stc m 267 (cpL (m.1 267) (m.1 259) p q 0) = m := stc_self
  rw [z] at k
  refine ⟨_, ?_, cpL_6.1, wd_c hx cpL_6.2⟩
  unfold g_X14_copies__267_259
  rw [hF]
  exact k
theorem cp_267_266 {w : rf_w} {m : rf_m} {p q : Nat} {x : Int} (hp : p + 6 ≤ 6) (hq : q + 6 ≤ 6) (hx : wd (m.1 266) q x) : ∃ F, g_X14_copies__267_266 w m (Int32.ofNat p) (Int32.ofNat q) = some (stc m 267 F) ∧ wF p (m.1 267) F ∧ wd F p x := by
  obtain ⟨FU, hF, hFb⟩ := fuel_ex
  have key : ∀ r f i, i + r = 6 → r < f → g_X14_copies__267_266_3 w f (Int32.ofNat p) (Int32.ofNat q) (Int32.ofNat i) (stc m 267 (cpL (m.1 267) (m.1 266) p q i)) = some (stc m 267 (cpL (m.1 267) (m.1 266) p q 6)) := by
    intro r
    induction r with
    | zero =>
      intro f i hi hf
      obtain ⟨f, rfl⟩ : ∃ g, f = g + 1 := ⟨f - 1, by omega⟩
      have e : i = 6 := by omega
      subst e
      show g_X14_copies__267_266_3_b w _ _ _ _ _ = _
      unfold g_X14_copies__267_266_3_b
      have z : (6 : Int32) ≤ Int32.ofNat 6 := by decide
      rw [if_pos z]
    | succ r ih =>
      intro f i hi hf
      obtain ⟨f, rfl⟩ : ∃ g, f = g + 1 := ⟨f - 1, by omega⟩
      have i1 := ih f (i + 1) (by omega) (by omega)
      have z : ¬ (6 : Int32) ≤ Int32.ofNat i := nle (R := 6) (by omega) (by decide)
      have ap : Int32.ofNat p + Int32.ofNat i = Int32.ofNat (p + i) := (Int32.ofNat_add p i).symm
      have aq : Int32.ofNat q + Int32.ofNat i = Int32.ofNat (q + i) := (Int32.ofNat_add q i).symm
      have rb : (stc m 267 (cpL (m.1 267) (m.1 266) p q i)).1 266 (q + i) = m.1 266 (q + i) := by rw [stc_ne (by decide)]
      show g_X14_copies__267_266_3_b w (g_X14_copies__267_266_3 w f) _ _ _ _ = _
      unfold g_X14_copies__267_266_3_b
      rw [if_neg z, ap, aq, gof (n := q + i) (by omega) (by decide), g_t, gof (n := p + i) (by omega) (by decide), g_t, tn_of (n := p + i) (by omega), tn_of (n := q + i) (by omega), rb, of_succ, stc_i, stc_at, stc_stc]
      exact i1
  have k := key 6 FU 0 (by omega) (by omega)
  have z : stc m 267 (cpL (m.1 267) (m.1 266) p q 0) = m := stc_self
  rw [z] at k
  refine ⟨_, ?_, cpL_6.1, wd_c hx cpL_6.2⟩
  unfold g_X14_copies__267_266
  rw [hF]
  exact k
theorem st_249 {w : rf_w} {m : rf_m} {p : Nat} {v : Int64} (hp : p + 6 ≤ 6) : ∃ F, g_X14_set__249 w m (Int32.ofNat p) v = some (stc m 249 F) ∧ wF p (m.1 249) F ∧ wd F p v.toInt := by
  obtain ⟨FU, hF, hFb⟩ := fuel_ex
  have key : ∀ r f i, i + r = 6 → r < f → g_X14_set__249_3 w f (Int32.ofNat p) v (Int32.ofNat i) (stc m 249 (stL (m.1 249) p v i)) = some (stc m 249 (stL (m.1 249) p v 6)) := by
    intro r
    induction r with
    | zero =>
      intro f i hi hf
      obtain ⟨f, rfl⟩ : ∃ g, f = g + 1 := ⟨f - 1, by omega⟩
      have e : i = 6 := by omega
      subst e
      show g_X14_set__249_3_b w _ _ _ _ _ = _
      unfold g_X14_set__249_3_b
      have z : (6 : Int32) ≤ Int32.ofNat 6 := by decide
      rw [if_pos z]
    | succ r ih =>
      intro f i hi hf
      obtain ⟨f, rfl⟩ : ∃ g, f = g + 1 := ⟨f - 1, by omega⟩
      have i1 := ih f (i + 1) (by omega) (by omega)
      have z : ¬ (6 : Int32) ≤ Int32.ofNat i := nle (R := 6) (by omega) (by decide)
      have ap : Int32.ofNat p + Int32.ofNat i = Int32.ofNat (p + i) := (Int32.ofNat_add p i).symm
      have fin : ∀ s2 : Int32, s2 = (if i = 0 then Int64.toInt32 v else if i = 1 then Int64.toInt32 (v >>> (Int32.toInt64 32 &&& 63)) else if 0 ≤ v.toInt then 0 else -1) → g_X14_set__249_50 w (g_X14_set__249_3 w f) (Int32.ofNat p) v (Int32.ofNat i) (Int32.ofNat (p + i)) s2 (stc m 249 (stL (m.1 249) p v i)) = some (stc m 249 (stL (m.1 249) p v 6)) := fun s2 h => by
        unfold g_X14_set__249_50
        rw [gof (n := p + i) (by omega) (by decide), g_t, tn_of (n := p + i) (by omega), of_succ, stc_i, stc_at, stc_stc, h]
        exact i1
      show g_X14_set__249_3_b w (g_X14_set__249_3 w f) _ _ _ _ = _
      unfold g_X14_set__249_3_b
      rw [if_neg z, ap]
      by_cases c0 : i = 0
      · have c0' : Int32.ofNat i = 0 := by rw [c0]; rfl
        rw [if_pos c0']
        exact fin _ (if_pos c0).symm
      · have c0' : ¬ Int32.ofNat i = 0 := fun h => c0 ((of_inj (b := 0) (by omega) (by omega)).mp h)
        rw [if_neg c0']
        by_cases c1 : i = 1
        · have c1' : Int32.ofNat i = 1 := by rw [c1]; rfl
          rw [if_pos c1']
          exact fin _ (by rw [if_neg c0, if_pos c1])
        · have c1' : ¬ Int32.ofNat i = 1 := fun h => c1 ((of_inj (b := 1) (by omega) (by omega)).mp h)
          rw [if_neg c1']
          by_cases c2 : (0 : Int32) ≤ lg_cmp v 0
          · have c2' := cmp_nn.mp c2
            rw [l_0] at c2'
            rw [if_pos c2]
            exact fin _ (by rw [if_neg c0, if_neg c1, if_pos c2'])
          · have c2' : ¬ (0 : Int64).toInt ≤ v.toInt := fun h => c2 (cmp_nn.mpr h)
            rw [l_0] at c2'
            rw [if_neg c2]
            exact fin _ (by rw [if_neg c0, if_neg c1, if_neg c2'])
  have k := key 6 FU 0 (by omega) (by omega)
  have z : stc m 249 (stL (m.1 249) p v 0) = m := stc_self
  rw [z] at k
  refine ⟨_, ?_, stL_6⟩
  unfold g_X14_set__249
  rw [hF]
  exact k
theorem st_250 {w : rf_w} {m : rf_m} {p : Nat} {v : Int64} (hp : p + 6 ≤ 6) : ∃ F, g_X14_set__250 w m (Int32.ofNat p) v = some (stc m 250 F) ∧ wF p (m.1 250) F ∧ wd F p v.toInt := by
  obtain ⟨FU, hF, hFb⟩ := fuel_ex
  have key : ∀ r f i, i + r = 6 → r < f → g_X14_set__250_3 w f (Int32.ofNat p) v (Int32.ofNat i) (stc m 250 (stL (m.1 250) p v i)) = some (stc m 250 (stL (m.1 250) p v 6)) := by
    intro r
    induction r with
    | zero =>
      intro f i hi hf
      obtain ⟨f, rfl⟩ : ∃ g, f = g + 1 := ⟨f - 1, by omega⟩
      have e : i = 6 := by omega
      subst e
      show g_X14_set__250_3_b w _ _ _ _ _ = _
      unfold g_X14_set__250_3_b
      have z : (6 : Int32) ≤ Int32.ofNat 6 := by decide
      rw [if_pos z]
    | succ r ih =>
      intro f i hi hf
      obtain ⟨f, rfl⟩ : ∃ g, f = g + 1 := ⟨f - 1, by omega⟩
      have i1 := ih f (i + 1) (by omega) (by omega)
      have z : ¬ (6 : Int32) ≤ Int32.ofNat i := nle (R := 6) (by omega) (by decide)
      have ap : Int32.ofNat p + Int32.ofNat i = Int32.ofNat (p + i) := (Int32.ofNat_add p i).symm
      have fin : ∀ s2 : Int32, s2 = (if i = 0 then Int64.toInt32 v else if i = 1 then Int64.toInt32 (v >>> (Int32.toInt64 32 &&& 63)) else if 0 ≤ v.toInt then 0 else -1) → g_X14_set__250_50 w (g_X14_set__250_3 w f) (Int32.ofNat p) v (Int32.ofNat i) (Int32.ofNat (p + i)) s2 (stc m 250 (stL (m.1 250) p v i)) = some (stc m 250 (stL (m.1 250) p v 6)) := fun s2 h => by
        unfold g_X14_set__250_50
        rw [gof (n := p + i) (by omega) (by decide), g_t, tn_of (n := p + i) (by omega), of_succ, stc_i, stc_at, stc_stc, h]
        exact i1
      show g_X14_set__250_3_b w (g_X14_set__250_3 w f) _ _ _ _ = _
      unfold g_X14_set__250_3_b
      rw [if_neg z, ap]
      by_cases c0 : i = 0
      · have c0' : Int32.ofNat i = 0 := by rw [c0]; rfl
        rw [if_pos c0']
        exact fin _ (if_pos c0).symm
      · have c0' : ¬ Int32.ofNat i = 0 := fun h => c0 ((of_inj (b := 0) (by omega) (by omega)).mp h)
        rw [if_neg c0']
        by_cases c1 : i = 1
        · have c1' : Int32.ofNat i = 1 := by rw [c1]; rfl
          rw [if_pos c1']
          exact fin _ (by rw [if_neg c0, if_pos c1])
        · have c1' : ¬ Int32.ofNat i = 1 := fun h => c1 ((of_inj (b := 1) (by omega) (by omega)).mp h)
          rw [if_neg c1']
          by_cases c2 : (0 : Int32) ≤ lg_cmp v 0
          · have c2' := cmp_nn.mp c2
            rw [l_0] at c2'
            rw [if_pos c2]
            exact fin _ (by rw [if_neg c0, if_neg c1, if_pos c2'])
          · have c2' : ¬ (0 : Int64).toInt ≤ v.toInt := fun h => c2 (cmp_nn.mpr h)
            rw [l_0] at c2'
            rw [if_neg c2]
            exact fin _ (by rw [if_neg c0, if_neg c1, if_neg c2'])
  have k := key 6 FU 0 (by omega) (by omega)
  have z : stc m 250 (stL (m.1 250) p v 0) = m := stc_self
  rw [z] at k
  refine ⟨_, ?_, stL_6⟩
  unfold g_X14_set__250
  rw [hF]
  exact k
theorem st_251 {w : rf_w} {m : rf_m} {p : Nat} {v : Int64} (hp : p + 6 ≤ 6) : ∃ F, g_X14_set__251 w m (Int32.ofNat p) v = some (stc m 251 F) ∧ wF p (m.1 251) F ∧ wd F p v.toInt := by
  obtain ⟨FU, hF, hFb⟩ := fuel_ex
  have key : ∀ r f i, i + r = 6 → r < f → g_X14_set__251_3 w f (Int32.ofNat p) v (Int32.ofNat i) (stc m 251 (stL (m.1 251) p v i)) = some (stc m 251 (stL (m.1 251) p v 6)) := by
    intro r
    induction r with
    | zero =>
      intro f i hi hf
      obtain ⟨f, rfl⟩ : ∃ g, f = g + 1 := ⟨f - 1, by omega⟩
      have e : i = 6 := by omega
      subst e
      show g_X14_set__251_3_b w _ _ _ _ _ = _
      unfold g_X14_set__251_3_b
      have z : (6 : Int32) ≤ Int32.ofNat 6 := by decide
      rw [if_pos z]
    | succ r ih =>
      intro f i hi hf
      obtain ⟨f, rfl⟩ : ∃ g, f = g + 1 := ⟨f - 1, by omega⟩
      have i1 := ih f (i + 1) (by omega) (by omega)
      have z : ¬ (6 : Int32) ≤ Int32.ofNat i := nle (R := 6) (by omega) (by decide)
      have ap : Int32.ofNat p + Int32.ofNat i = Int32.ofNat (p + i) := (Int32.ofNat_add p i).symm
      have fin : ∀ s2 : Int32, s2 = (if i = 0 then Int64.toInt32 v else if i = 1 then Int64.toInt32 (v >>> (Int32.toInt64 32 &&& 63)) else if 0 ≤ v.toInt then 0 else -1) → g_X14_set__251_50 w (g_X14_set__251_3 w f) (Int32.ofNat p) v (Int32.ofNat i) (Int32.ofNat (p + i)) s2 (stc m 251 (stL (m.1 251) p v i)) = some (stc m 251 (stL (m.1 251) p v 6)) := fun s2 h => by
        unfold g_X14_set__251_50
        rw [gof (n := p + i) (by omega) (by decide), g_t, tn_of (n := p + i) (by omega), of_succ, stc_i, stc_at, stc_stc, h]
        exact i1
      show g_X14_set__251_3_b w (g_X14_set__251_3 w f) _ _ _ _ = _
      unfold g_X14_set__251_3_b
      rw [if_neg z, ap]
      by_cases c0 : i = 0
      · have c0' : Int32.ofNat i = 0 := by rw [c0]; rfl
        rw [if_pos c0']
        exact fin _ (if_pos c0).symm
      · have c0' : ¬ Int32.ofNat i = 0 := fun h => c0 ((of_inj (b := 0) (by omega) (by omega)).mp h)
        rw [if_neg c0']
        by_cases c1 : i = 1
        · have c1' : Int32.ofNat i = 1 := by rw [c1]; rfl
          rw [if_pos c1']
          exact fin _ (by rw [if_neg c0, if_pos c1])
        · have c1' : ¬ Int32.ofNat i = 1 := fun h => c1 ((of_inj (b := 1) (by omega) (by omega)).mp h)
          rw [if_neg c1']
          by_cases c2 : (0 : Int32) ≤ lg_cmp v 0
          · have c2' := cmp_nn.mp c2
            rw [l_0] at c2'
            rw [if_pos c2]
            exact fin _ (by rw [if_neg c0, if_neg c1, if_pos c2'])
          · have c2' : ¬ (0 : Int64).toInt ≤ v.toInt := fun h => c2 (cmp_nn.mpr h)
            rw [l_0] at c2'
            rw [if_neg c2]
            exact fin _ (by rw [if_neg c0, if_neg c1, if_neg c2'])
  have k := key 6 FU 0 (by omega) (by omega)
  have z : stc m 251 (stL (m.1 251) p v 0) = m := stc_self
  rw [z] at k
  refine ⟨_, ?_, stL_6⟩
  unfold g_X14_set__251
  rw [hF]
  exact k
theorem st_252 {w : rf_w} {m : rf_m} {p : Nat} {v : Int64} (hp : p + 6 ≤ 6) : ∃ F, g_X14_set__252 w m (Int32.ofNat p) v = some (stc m 252 F) ∧ wF p (m.1 252) F ∧ wd F p v.toInt := by
  obtain ⟨FU, hF, hFb⟩ := fuel_ex
  have key : ∀ r f i, i + r = 6 → r < f → g_X14_set__252_3 w f (Int32.ofNat p) v (Int32.ofNat i) (stc m 252 (stL (m.1 252) p v i)) = some (stc m 252 (stL (m.1 252) p v 6)) := by
    intro r
    induction r with
    | zero =>
      intro f i hi hf
      obtain ⟨f, rfl⟩ : ∃ g, f = g + 1 := ⟨f - 1, by omega⟩
      have e : i = 6 := by omega
      subst e
      show g_X14_set__252_3_b w _ _ _ _ _ = _
      unfold g_X14_set__252_3_b
      have z : (6 : Int32) ≤ Int32.ofNat 6 := by decide
      rw [if_pos z]
    | succ r ih =>
      intro f i hi hf
      obtain ⟨f, rfl⟩ : ∃ g, f = g + 1 := ⟨f - 1, by omega⟩
      have i1 := ih f (i + 1) (by omega) (by omega)
      have z : ¬ (6 : Int32) ≤ Int32.ofNat i := nle (R := 6) (by omega) (by decide)
      have ap : Int32.ofNat p + Int32.ofNat i = Int32.ofNat (p + i) := (Int32.ofNat_add p i).symm
      have fin : ∀ s2 : Int32, s2 = (if i = 0 then Int64.toInt32 v else if i = 1 then Int64.toInt32 (v >>> (Int32.toInt64 32 &&& 63)) else if 0 ≤ v.toInt then 0 else -1) → g_X14_set__252_50 w (g_X14_set__252_3 w f) (Int32.ofNat p) v (Int32.ofNat i) (Int32.ofNat (p + i)) s2 (stc m 252 (stL (m.1 252) p v i)) = some (stc m 252 (stL (m.1 252) p v 6)) := fun s2 h => by
        unfold g_X14_set__252_50
        rw [gof (n := p + i) (by omega) (by decide), g_t, tn_of (n := p + i) (by omega), of_succ, stc_i, stc_at, stc_stc, h]
        exact i1
      show g_X14_set__252_3_b w (g_X14_set__252_3 w f) _ _ _ _ = _
      unfold g_X14_set__252_3_b
      rw [if_neg z, ap]
      by_cases c0 : i = 0
      · have c0' : Int32.ofNat i = 0 := by rw [c0]; rfl
        rw [if_pos c0']
        exact fin _ (if_pos c0).symm
      · have c0' : ¬ Int32.ofNat i = 0 := fun h => c0 ((of_inj (b := 0) (by omega) (by omega)).mp h)
        rw [if_neg c0']
        by_cases c1 : i = 1
        · have c1' : Int32.ofNat i = 1 := by rw [c1]; rfl
          rw [if_pos c1']
          exact fin _ (by rw [if_neg c0, if_pos c1])
        · have c1' : ¬ Int32.ofNat i = 1 := fun h => c1 ((of_inj (b := 1) (by omega) (by omega)).mp h)
          rw [if_neg c1']
          by_cases c2 : (0 : Int32) ≤ lg_cmp v 0
          · have c2' := cmp_nn.mp c2
            rw [l_0] at c2'
            rw [if_pos c2]
            exact fin _ (by rw [if_neg c0, if_neg c1, if_pos c2'])
          · have c2' : ¬ (0 : Int64).toInt ≤ v.toInt := fun h => c2 (cmp_nn.mpr h)
            rw [l_0] at c2'
            rw [if_neg c2]
            exact fin _ (by rw [if_neg c0, if_neg c1, if_neg c2'])
  have k := key 6 FU 0 (by omega) (by omega)
  have z : stc m 252 (stL (m.1 252) p v 0) = m := stc_self
  rw [z] at k
  refine ⟨_, ?_, stL_6⟩
  unfold g_X14_set__252
  rw [hF]
  exact k
theorem st_256 {w : rf_w} {m : rf_m} {p : Nat} {v : Int64} (hp : p + 6 ≤ 384) : ∃ F, g_X14_set__256 w m (Int32.ofNat p) v = some (stc m 256 F) ∧ wF p (m.1 256) F ∧ wd F p v.toInt := by
  obtain ⟨FU, hF, hFb⟩ := fuel_ex
  have key : ∀ r f i, i + r = 6 → r < f → g_X14_set__256_3 w f (Int32.ofNat p) v (Int32.ofNat i) (stc m 256 (stL (m.1 256) p v i)) = some (stc m 256 (stL (m.1 256) p v 6)) := by
    intro r
    induction r with
    | zero =>
      intro f i hi hf
      obtain ⟨f, rfl⟩ : ∃ g, f = g + 1 := ⟨f - 1, by omega⟩
      have e : i = 6 := by omega
      subst e
      show g_X14_set__256_3_b w _ _ _ _ _ = _
      unfold g_X14_set__256_3_b
      have z : (6 : Int32) ≤ Int32.ofNat 6 := by decide
      rw [if_pos z]
    | succ r ih =>
      intro f i hi hf
      obtain ⟨f, rfl⟩ : ∃ g, f = g + 1 := ⟨f - 1, by omega⟩
      have i1 := ih f (i + 1) (by omega) (by omega)
      have z : ¬ (6 : Int32) ≤ Int32.ofNat i := nle (R := 6) (by omega) (by decide)
      have ap : Int32.ofNat p + Int32.ofNat i = Int32.ofNat (p + i) := (Int32.ofNat_add p i).symm
      have fin : ∀ s2 : Int32, s2 = (if i = 0 then Int64.toInt32 v else if i = 1 then Int64.toInt32 (v >>> (Int32.toInt64 32 &&& 63)) else if 0 ≤ v.toInt then 0 else -1) → g_X14_set__256_50 w (g_X14_set__256_3 w f) (Int32.ofNat p) v (Int32.ofNat i) (Int32.ofNat (p + i)) s2 (stc m 256 (stL (m.1 256) p v i)) = some (stc m 256 (stL (m.1 256) p v 6)) := fun s2 h => by
        unfold g_X14_set__256_50
        rw [gof (n := p + i) (by omega) (by decide), g_t, tn_of (n := p + i) (by omega), of_succ, stc_i, stc_at, stc_stc, h]
        exact i1
      show g_X14_set__256_3_b w (g_X14_set__256_3 w f) _ _ _ _ = _
      unfold g_X14_set__256_3_b
      rw [if_neg z, ap]
      by_cases c0 : i = 0
      · have c0' : Int32.ofNat i = 0 := by rw [c0]; rfl
        rw [if_pos c0']
        exact fin _ (if_pos c0).symm
      · have c0' : ¬ Int32.ofNat i = 0 := fun h => c0 ((of_inj (b := 0) (by omega) (by omega)).mp h)
        rw [if_neg c0']
        by_cases c1 : i = 1
        · have c1' : Int32.ofNat i = 1 := by rw [c1]; rfl
          rw [if_pos c1']
          exact fin _ (by rw [if_neg c0, if_pos c1])
        · have c1' : ¬ Int32.ofNat i = 1 := fun h => c1 ((of_inj (b := 1) (by omega) (by omega)).mp h)
          rw [if_neg c1']
          by_cases c2 : (0 : Int32) ≤ lg_cmp v 0
          · have c2' := cmp_nn.mp c2
            rw [l_0] at c2'
            rw [if_pos c2]
            exact fin _ (by rw [if_neg c0, if_neg c1, if_pos c2'])
          · have c2' : ¬ (0 : Int64).toInt ≤ v.toInt := fun h => c2 (cmp_nn.mpr h)
            rw [l_0] at c2'
            rw [if_neg c2]
            exact fin _ (by rw [if_neg c0, if_neg c1, if_neg c2'])
  have k := key 6 FU 0 (by omega) (by omega)
  have z : stc m 256 (stL (m.1 256) p v 0) = m := stc_self
  rw [z] at k
  refine ⟨_, ?_, stL_6⟩
  unfold g_X14_set__256
  rw [hF]
  exact k
theorem st_264 {w : rf_w} {m : rf_m} {p : Nat} {v : Int64} (hp : p + 6 ≤ 480) : ∃ F, g_X14_set__264 w m (Int32.ofNat p) v = some (stc m 264 F) ∧ wF p (m.1 264) F ∧ wd F p v.toInt := by
  obtain ⟨FU, hF, hFb⟩ := fuel_ex
  have key : ∀ r f i, i + r = 6 → r < f → g_X14_set__264_3 w f (Int32.ofNat p) v (Int32.ofNat i) (stc m 264 (stL (m.1 264) p v i)) = some (stc m 264 (stL (m.1 264) p v 6)) := by
    intro r
    induction r with
    | zero =>
      intro f i hi hf
      obtain ⟨f, rfl⟩ : ∃ g, f = g + 1 := ⟨f - 1, by omega⟩
      have e : i = 6 := by omega
      subst e
      show g_X14_set__264_3_b w _ _ _ _ _ = _
      unfold g_X14_set__264_3_b
      have z : (6 : Int32) ≤ Int32.ofNat 6 := by decide
      rw [if_pos z]
    | succ r ih =>
      intro f i hi hf
      obtain ⟨f, rfl⟩ : ∃ g, f = g + 1 := ⟨f - 1, by omega⟩
      have i1 := ih f (i + 1) (by omega) (by omega)
      have z : ¬ (6 : Int32) ≤ Int32.ofNat i := nle (R := 6) (by omega) (by decide)
      have ap : Int32.ofNat p + Int32.ofNat i = Int32.ofNat (p + i) := (Int32.ofNat_add p i).symm
      have fin : ∀ s2 : Int32, s2 = (if i = 0 then Int64.toInt32 v else if i = 1 then Int64.toInt32 (v >>> (Int32.toInt64 32 &&& 63)) else if 0 ≤ v.toInt then 0 else -1) → g_X14_set__264_50 w (g_X14_set__264_3 w f) (Int32.ofNat p) v (Int32.ofNat i) (Int32.ofNat (p + i)) s2 (stc m 264 (stL (m.1 264) p v i)) = some (stc m 264 (stL (m.1 264) p v 6)) := fun s2 h => by
        unfold g_X14_set__264_50
        rw [gof (n := p + i) (by omega) (by decide), g_t, tn_of (n := p + i) (by omega), of_succ, stc_i, stc_at, stc_stc, h]
        exact i1
      show g_X14_set__264_3_b w (g_X14_set__264_3 w f) _ _ _ _ = _
      unfold g_X14_set__264_3_b
      rw [if_neg z, ap]
      by_cases c0 : i = 0
      · have c0' : Int32.ofNat i = 0 := by rw [c0]; rfl
        rw [if_pos c0']
        exact fin _ (if_pos c0).symm
      · have c0' : ¬ Int32.ofNat i = 0 := fun h => c0 ((of_inj (b := 0) (by omega) (by omega)).mp h)
        rw [if_neg c0']
        by_cases c1 : i = 1
        · have c1' : Int32.ofNat i = 1 := by rw [c1]; rfl
          rw [if_pos c1']
          exact fin _ (by rw [if_neg c0, if_pos c1])
        · have c1' : ¬ Int32.ofNat i = 1 := fun h => c1 ((of_inj (b := 1) (by omega) (by omega)).mp h)
          rw [if_neg c1']
          by_cases c2 : (0 : Int32) ≤ lg_cmp v 0
          · have c2' := cmp_nn.mp c2
            rw [l_0] at c2'
            rw [if_pos c2]
            exact fin _ (by rw [if_neg c0, if_neg c1, if_pos c2'])
          · have c2' : ¬ (0 : Int64).toInt ≤ v.toInt := fun h => c2 (cmp_nn.mpr h)
            rw [l_0] at c2'
            rw [if_neg c2]
            exact fin _ (by rw [if_neg c0, if_neg c1, if_neg c2'])
  have k := key 6 FU 0 (by omega) (by omega)
  have z : stc m 264 (stL (m.1 264) p v 0) = m := stc_self
  rw [z] at k
  refine ⟨_, ?_, stL_6⟩
  unfold g_X14_set__264
  rw [hF]
  exact k
theorem tn_249 {w : rf_w} {m : rf_m} {p : Nat} {x : Int} (hp : p + 6 ≤ 6) (hx : wd (m.1 249) p x) : ∃ F, g_X14_turns__249 w m (Int32.ofNat p) = some (stc m 249 F) ∧ wF p (m.1 249) F ∧ wd F p (- x) := by
  obtain ⟨FU, hF, hFb⟩ := fuel_ex
  have key : ∀ r f i, i + r = 6 → r < f → g_X14_turns__249_5 w f (Int32.ofNat p) (tnL (m.1 249) p i).1 (Int32.ofNat i) (stc m 249 (tnL (m.1 249) p i).2) = some (stc m 249 (tnL (m.1 249) p 6).2) := by
    intro r
    induction r with
    | zero =>
      intro f i hi hf
      obtain ⟨f, rfl⟩ : ∃ g, f = g + 1 := ⟨f - 1, by omega⟩
      have e : i = 6 := by omega
      subst e
      show g_X14_turns__249_5_b w _ _ _ _ _ = _
      unfold g_X14_turns__249_5_b
      have z : (6 : Int32) ≤ Int32.ofNat 6 := by decide
      rw [if_pos z]
    | succ r ih =>
      intro f i hi hf
      obtain ⟨f, rfl⟩ : ∃ g, f = g + 1 := ⟨f - 1, by omega⟩
      have i1 := ih f (i + 1) (by omega) (by omega)
      have oa := (tnL_v (f := m.1 249) (p := p) i).2.1
      have z : ¬ (6 : Int32) ≤ Int32.ofNat i := nle (R := 6) (by omega) (by decide)
      have ap : Int32.ofNat p + Int32.ofNat i = Int32.ofNat (p + i) := (Int32.ofNat_add p i).symm
      have ra : (stc m 249 (tnL (m.1 249) p i).2).1 249 (p + i) = m.1 249 (p + i) := by rw [stc_at]; exact oa (p + i) (Or.inr (Nat.le_refl _))
      show g_X14_turns__249_5_b w (g_X14_turns__249_5 w f) _ _ _ _ = _
      unfold g_X14_turns__249_5_b rf_vl
      rw [if_neg z, ap, gof (n := p + i) (by omega) (by decide), g_t]
      dsimp only
      rw [g_t, tn_of (n := p + i) (by omega), ra, of_succ, stc_i, stc_at, stc_stc]
      exact i1
  have k := key 6 FU 0 (by omega) (by omega)
  have z : stc m 249 (tnL (m.1 249) p 0).2 = m := stc_self
  rw [z] at k
  refine ⟨_, ?_, tnL_6 hx⟩
  unfold g_X14_turns__249
  rw [hF]
  exact k
theorem tn_251 {w : rf_w} {m : rf_m} {p : Nat} {x : Int} (hp : p + 6 ≤ 6) (hx : wd (m.1 251) p x) : ∃ F, g_X14_turns__251 w m (Int32.ofNat p) = some (stc m 251 F) ∧ wF p (m.1 251) F ∧ wd F p (- x) := by
  obtain ⟨FU, hF, hFb⟩ := fuel_ex
  have key : ∀ r f i, i + r = 6 → r < f → g_X14_turns__251_5 w f (Int32.ofNat p) (tnL (m.1 251) p i).1 (Int32.ofNat i) (stc m 251 (tnL (m.1 251) p i).2) = some (stc m 251 (tnL (m.1 251) p 6).2) := by
    intro r
    induction r with
    | zero =>
      intro f i hi hf
      obtain ⟨f, rfl⟩ : ∃ g, f = g + 1 := ⟨f - 1, by omega⟩
      have e : i = 6 := by omega
      subst e
      show g_X14_turns__251_5_b w _ _ _ _ _ = _
      unfold g_X14_turns__251_5_b
      have z : (6 : Int32) ≤ Int32.ofNat 6 := by decide
      rw [if_pos z]
    | succ r ih =>
      intro f i hi hf
      obtain ⟨f, rfl⟩ : ∃ g, f = g + 1 := ⟨f - 1, by omega⟩
      have i1 := ih f (i + 1) (by omega) (by omega)
      have oa := (tnL_v (f := m.1 251) (p := p) i).2.1
      have z : ¬ (6 : Int32) ≤ Int32.ofNat i := nle (R := 6) (by omega) (by decide)
      have ap : Int32.ofNat p + Int32.ofNat i = Int32.ofNat (p + i) := (Int32.ofNat_add p i).symm
      have ra : (stc m 251 (tnL (m.1 251) p i).2).1 251 (p + i) = m.1 251 (p + i) := by rw [stc_at]; exact oa (p + i) (Or.inr (Nat.le_refl _))
      show g_X14_turns__251_5_b w (g_X14_turns__251_5 w f) _ _ _ _ = _
      unfold g_X14_turns__251_5_b rf_vl
      rw [if_neg z, ap, gof (n := p + i) (by omega) (by decide), g_t]
      dsimp only
      rw [g_t, tn_of (n := p + i) (by omega), ra, of_succ, stc_i, stc_at, stc_stc]
      exact i1
  have k := key 6 FU 0 (by omega) (by omega)
  have z : stc m 251 (tnL (m.1 251) p 0).2 = m := stc_self
  rw [z] at k
  refine ⟨_, ?_, tnL_6 hx⟩
  unfold g_X14_turns__251
  rw [hF]
  exact k
theorem tn_252 {w : rf_w} {m : rf_m} {p : Nat} {x : Int} (hp : p + 6 ≤ 6) (hx : wd (m.1 252) p x) : ∃ F, g_X14_turns__252 w m (Int32.ofNat p) = some (stc m 252 F) ∧ wF p (m.1 252) F ∧ wd F p (- x) := by
  obtain ⟨FU, hF, hFb⟩ := fuel_ex
  have key : ∀ r f i, i + r = 6 → r < f → g_X14_turns__252_5 w f (Int32.ofNat p) (tnL (m.1 252) p i).1 (Int32.ofNat i) (stc m 252 (tnL (m.1 252) p i).2) = some (stc m 252 (tnL (m.1 252) p 6).2) := by
    intro r
    induction r with
    | zero =>
      intro f i hi hf
      obtain ⟨f, rfl⟩ : ∃ g, f = g + 1 := ⟨f - 1, by omega⟩
      have e : i = 6 := by omega
      subst e
      show g_X14_turns__252_5_b w _ _ _ _ _ = _
      unfold g_X14_turns__252_5_b
      have z : (6 : Int32) ≤ Int32.ofNat 6 := by decide
      rw [if_pos z]
    | succ r ih =>
      intro f i hi hf
      obtain ⟨f, rfl⟩ : ∃ g, f = g + 1 := ⟨f - 1, by omega⟩
      have i1 := ih f (i + 1) (by omega) (by omega)
      have oa := (tnL_v (f := m.1 252) (p := p) i).2.1
      have z : ¬ (6 : Int32) ≤ Int32.ofNat i := nle (R := 6) (by omega) (by decide)
      have ap : Int32.ofNat p + Int32.ofNat i = Int32.ofNat (p + i) := (Int32.ofNat_add p i).symm
      have ra : (stc m 252 (tnL (m.1 252) p i).2).1 252 (p + i) = m.1 252 (p + i) := by rw [stc_at]; exact oa (p + i) (Or.inr (Nat.le_refl _))
      show g_X14_turns__252_5_b w (g_X14_turns__252_5 w f) _ _ _ _ = _
      unfold g_X14_turns__252_5_b rf_vl
      rw [if_neg z, ap, gof (n := p + i) (by omega) (by decide), g_t]
      dsimp only
      rw [g_t, tn_of (n := p + i) (by omega), ra, of_succ, stc_i, stc_at, stc_stc]
      exact i1
  have k := key 6 FU 0 (by omega) (by omega)
  have z : stc m 252 (tnL (m.1 252) p 0).2 = m := stc_self
  rw [z] at k
  refine ⟨_, ?_, tnL_6 hx⟩
  unfold g_X14_turns__252
  rw [hF]
  exact k
theorem tn_257 {w : rf_w} {m : rf_m} {p : Nat} {x : Int} (hp : p + 6 ≤ 6) (hx : wd (m.1 257) p x) : ∃ F, g_X14_turns__257 w m (Int32.ofNat p) = some (stc m 257 F) ∧ wF p (m.1 257) F ∧ wd F p (- x) := by
  obtain ⟨FU, hF, hFb⟩ := fuel_ex
  have key : ∀ r f i, i + r = 6 → r < f → g_X14_turns__257_5 w f (Int32.ofNat p) (tnL (m.1 257) p i).1 (Int32.ofNat i) (stc m 257 (tnL (m.1 257) p i).2) = some (stc m 257 (tnL (m.1 257) p 6).2) := by
    intro r
    induction r with
    | zero =>
      intro f i hi hf
      obtain ⟨f, rfl⟩ : ∃ g, f = g + 1 := ⟨f - 1, by omega⟩
      have e : i = 6 := by omega
      subst e
      show g_X14_turns__257_5_b w _ _ _ _ _ = _
      unfold g_X14_turns__257_5_b
      have z : (6 : Int32) ≤ Int32.ofNat 6 := by decide
      rw [if_pos z]
    | succ r ih =>
      intro f i hi hf
      obtain ⟨f, rfl⟩ : ∃ g, f = g + 1 := ⟨f - 1, by omega⟩
      have i1 := ih f (i + 1) (by omega) (by omega)
      have oa := (tnL_v (f := m.1 257) (p := p) i).2.1
      have z : ¬ (6 : Int32) ≤ Int32.ofNat i := nle (R := 6) (by omega) (by decide)
      have ap : Int32.ofNat p + Int32.ofNat i = Int32.ofNat (p + i) := (Int32.ofNat_add p i).symm
      have ra : (stc m 257 (tnL (m.1 257) p i).2).1 257 (p + i) = m.1 257 (p + i) := by rw [stc_at]; exact oa (p + i) (Or.inr (Nat.le_refl _))
      show g_X14_turns__257_5_b w (g_X14_turns__257_5 w f) _ _ _ _ = _
      unfold g_X14_turns__257_5_b rf_vl
      rw [if_neg z, ap, gof (n := p + i) (by omega) (by decide), g_t]
      dsimp only
      rw [g_t, tn_of (n := p + i) (by omega), ra, of_succ, stc_i, stc_at, stc_stc]
      exact i1
  have k := key 6 FU 0 (by omega) (by omega)
  have z : stc m 257 (tnL (m.1 257) p 0).2 = m := stc_self
  rw [z] at k
  refine ⟨_, ?_, tnL_6 hx⟩
  unfold g_X14_turns__257
  rw [hF]
  exact k
theorem tn_266 {w : rf_w} {m : rf_m} {p : Nat} {x : Int} (hp : p + 6 ≤ 6) (hx : wd (m.1 266) p x) : ∃ F, g_X14_turns__266 w m (Int32.ofNat p) = some (stc m 266 F) ∧ wF p (m.1 266) F ∧ wd F p (- x) := by
  obtain ⟨FU, hF, hFb⟩ := fuel_ex
  have key : ∀ r f i, i + r = 6 → r < f → g_X14_turns__266_5 w f (Int32.ofNat p) (tnL (m.1 266) p i).1 (Int32.ofNat i) (stc m 266 (tnL (m.1 266) p i).2) = some (stc m 266 (tnL (m.1 266) p 6).2) := by
    intro r
    induction r with
    | zero =>
      intro f i hi hf
      obtain ⟨f, rfl⟩ : ∃ g, f = g + 1 := ⟨f - 1, by omega⟩
      have e : i = 6 := by omega
      subst e
      show g_X14_turns__266_5_b w _ _ _ _ _ = _
      unfold g_X14_turns__266_5_b
      have z : (6 : Int32) ≤ Int32.ofNat 6 := by decide
      rw [if_pos z]
    | succ r ih =>
      intro f i hi hf
      obtain ⟨f, rfl⟩ : ∃ g, f = g + 1 := ⟨f - 1, by omega⟩
      have i1 := ih f (i + 1) (by omega) (by omega)
      have oa := (tnL_v (f := m.1 266) (p := p) i).2.1
      have z : ¬ (6 : Int32) ≤ Int32.ofNat i := nle (R := 6) (by omega) (by decide)
      have ap : Int32.ofNat p + Int32.ofNat i = Int32.ofNat (p + i) := (Int32.ofNat_add p i).symm
      have ra : (stc m 266 (tnL (m.1 266) p i).2).1 266 (p + i) = m.1 266 (p + i) := by rw [stc_at]; exact oa (p + i) (Or.inr (Nat.le_refl _))
      show g_X14_turns__266_5_b w (g_X14_turns__266_5 w f) _ _ _ _ = _
      unfold g_X14_turns__266_5_b rf_vl
      rw [if_neg z, ap, gof (n := p + i) (by omega) (by decide), g_t]
      dsimp only
      rw [g_t, tn_of (n := p + i) (by omega), ra, of_succ, stc_i, stc_at, stc_stc]
      exact i1
  have k := key 6 FU 0 (by omega) (by omega)
  have z : stc m 266 (tnL (m.1 266) p 0).2 = m := stc_self
  rw [z] at k
  refine ⟨_, ?_, tnL_6 hx⟩
  unfold g_X14_turns__266
  rw [hF]
  exact k
theorem tm_252_264 {w : rf_w} {m : rf_m} {p q : Nat} {x : Int} {by_ : Int32} (hp : p + 6 ≤ 6) (hq : q + 6 ≤ 480) (hx : wd (m.1 264) q x) : ∃ F, g_X14_times__252_264 w m (Int32.ofNat p) (Int32.ofNat q) by_ = some (stc m 252 F) ∧ wF p (m.1 252) F ∧ wd F p (x * by_.toInt) := by
  obtain ⟨FU, hF, hFb⟩ := fuel_ex
  have rb := rngI by_
  have key : ∀ b : Int64, 0 ≤ b.toInt → b.toInt ≤ 2147483648 → ∀ r f i, i + r = 6 → r < f → g_X14_times__252_264_14 w f (Int32.ofNat p) (Int32.ofNat q) by_ b (tmL (m.1 252) (m.1 264) p q b i).1 (Int32.ofNat i) (stc m 252 (tmL (m.1 252) (m.1 264) p q b i).2) = (if (0 : Int32) ≤ by_ then some (stc m 252 (tmL (m.1 252) (m.1 264) p q b 6).2) else rf_bv (g_X14_turns__252 w (stc m 252 (tmL (m.1 252) (m.1 264) p q b 6).2) (Int32.ofNat p)) fun m0 => some m0) := by
    intro b b0 b1 r
    induction r with
    | zero =>
      intro f i hi hf
      obtain ⟨f, rfl⟩ : ∃ g, f = g + 1 := ⟨f - 1, by omega⟩
      have e : i = 6 := by omega
      subst e
      show g_X14_times__252_264_14_b w _ _ _ _ _ _ _ _ = _
      unfold g_X14_times__252_264_14_b
      have z : (6 : Int32) ≤ Int32.ofNat 6 := by decide
      rw [if_pos z]
    | succ r ih =>
      intro f i hi hf
      obtain ⟨f, rfl⟩ : ∃ g, f = g + 1 := ⟨f - 1, by omega⟩
      have i1 := ih f (i + 1) (by omega) (by omega)
      have z : ¬ (6 : Int32) ≤ Int32.ofNat i := nle (R := 6) (by omega) (by decide)
      have ap : Int32.ofNat p + Int32.ofNat i = Int32.ofNat (p + i) := (Int32.ofNat_add p i).symm
      have aq : Int32.ofNat q + Int32.ofNat i = Int32.ofNat (q + i) := (Int32.ofNat_add q i).symm
      have rb : (stc m 252 (tmL (m.1 252) (m.1 264) p q b i).2).1 264 (q + i) = m.1 264 (q + i) := by rw [stc_ne (by decide)]
      show g_X14_times__252_264_14_b w (g_X14_times__252_264_14 w f) _ _ _ _ _ _ _ = _
      unfold g_X14_times__252_264_14_b rf_vl
      rw [if_neg z, ap, aq, gof (n := q + i) (by omega) (by decide), g_t]
      dsimp only
      rw [gof (n := p + i) (by omega) (by decide), g_t, tn_of (n := p + i) (by omega), tn_of (n := q + i) (by omega), rb, of_succ, stc_i, stc_at, stc_stc]
      exact i1
  have z : ∀ b, stc m 252 (tmL (m.1 252) (m.1 264) p q b 0).2 = m := fun _ => stc_self
  unfold g_X14_times__252_264 g_absL
  by_cases c : (0 : Int32) ≤ lg_cmp (Int32.toInt64 by_) 0
  · have c' := cmp_nn.mp c
    rw [l_0, i2l] at c'
    have c2 : (0 : Int32) ≤ by_ := by rw [i_le, i_0]; exact c'
    have k := key (Int32.toInt64 by_) (by rw [i2l]; exact c') (by rw [i2l]; omega) 6 FU 0 (by omega) (by omega)
    rw [z, if_pos c2] at k
    have t := tmL_6 (f := m.1 252) (g := m.1 264) (p := p) (q := q) (b := Int32.toInt64 by_) (by rw [i2l]; exact c') (by rw [i2l]; omega) hx
    rw [i2l] at t
    refine ⟨_, ?_, t⟩
    rw [if_pos c, b_sm, hF]
    exact k
  · have c' : ¬ (0 : Int64).toInt ≤ (Int32.toInt64 by_).toInt := fun h => c (cmp_nn.mpr h)
    rw [l_0, i2l] at c'
    have c2 : ¬ (0 : Int32) ≤ by_ := fun h => by rw [i_le, i_0] at h; exact c' h
    have ng : (-(Int32.toInt64 by_)).toInt = - by_.toInt := by rw [Int64.toInt_neg, i2l, bm64 (by omega) (by omega)]
    have k := key (-(Int32.toInt64 by_)) (by rw [ng]; omega) (by rw [ng]; omega) 6 FU 0 (by omega) (by omega)
    rw [z, if_neg c2] at k
    have t := tmL_6 (f := m.1 252) (g := m.1 264) (p := p) (q := q) (b := -(Int32.toInt64 by_)) (by rw [ng]; omega) (by rw [ng]; omega) hx
    rw [ng] at t
    obtain ⟨F, f1, f2, f3⟩ := tn_252 (w := w) (m := stc m 252 (tmL (m.1 252) (m.1 264) p q (-(Int32.toInt64 by_)) 6).2) (p := p) hp (by rw [stc_at]; exact t.2)
    rw [stc_at] at f2
    rw [f1, bv_sm, stc_stc] at k
    refine ⟨F, ?_, fun j hj => (f2 j hj).trans (t.1 j hj), ?_⟩
    · rw [if_neg c, b_sm, hF]
      exact k
    · have e : x * by_.toInt = - (x * - by_.toInt) := by grind
      rw [e]
      exact f3
theorem tm_257_252 {w : rf_w} {m : rf_m} {p q : Nat} {x : Int} {by_ : Int32} (hp : p + 6 ≤ 6) (hq : q + 6 ≤ 6) (hx : wd (m.1 252) q x) : ∃ F, g_X14_times__257_252 w m (Int32.ofNat p) (Int32.ofNat q) by_ = some (stc m 257 F) ∧ wF p (m.1 257) F ∧ wd F p (x * by_.toInt) := by
  obtain ⟨FU, hF, hFb⟩ := fuel_ex
  have rb := rngI by_
  have key : ∀ b : Int64, 0 ≤ b.toInt → b.toInt ≤ 2147483648 → ∀ r f i, i + r = 6 → r < f → g_X14_times__257_252_14 w f (Int32.ofNat p) (Int32.ofNat q) by_ b (tmL (m.1 257) (m.1 252) p q b i).1 (Int32.ofNat i) (stc m 257 (tmL (m.1 257) (m.1 252) p q b i).2) = (if (0 : Int32) ≤ by_ then some (stc m 257 (tmL (m.1 257) (m.1 252) p q b 6).2) else rf_bv (g_X14_turns__257 w (stc m 257 (tmL (m.1 257) (m.1 252) p q b 6).2) (Int32.ofNat p)) fun m0 => some m0) := by
    intro b b0 b1 r
    induction r with
    | zero =>
      intro f i hi hf
      obtain ⟨f, rfl⟩ : ∃ g, f = g + 1 := ⟨f - 1, by omega⟩
      have e : i = 6 := by omega
      subst e
      show g_X14_times__257_252_14_b w _ _ _ _ _ _ _ _ = _
      unfold g_X14_times__257_252_14_b
      have z : (6 : Int32) ≤ Int32.ofNat 6 := by decide
      rw [if_pos z]
    | succ r ih =>
      intro f i hi hf
      obtain ⟨f, rfl⟩ : ∃ g, f = g + 1 := ⟨f - 1, by omega⟩
      have i1 := ih f (i + 1) (by omega) (by omega)
      have z : ¬ (6 : Int32) ≤ Int32.ofNat i := nle (R := 6) (by omega) (by decide)
      have ap : Int32.ofNat p + Int32.ofNat i = Int32.ofNat (p + i) := (Int32.ofNat_add p i).symm
      have aq : Int32.ofNat q + Int32.ofNat i = Int32.ofNat (q + i) := (Int32.ofNat_add q i).symm
      have rb : (stc m 257 (tmL (m.1 257) (m.1 252) p q b i).2).1 252 (q + i) = m.1 252 (q + i) := by rw [stc_ne (by decide)]
      show g_X14_times__257_252_14_b w (g_X14_times__257_252_14 w f) _ _ _ _ _ _ _ = _
      unfold g_X14_times__257_252_14_b rf_vl
      rw [if_neg z, ap, aq, gof (n := q + i) (by omega) (by decide), g_t]
      dsimp only
      rw [gof (n := p + i) (by omega) (by decide), g_t, tn_of (n := p + i) (by omega), tn_of (n := q + i) (by omega), rb, of_succ, stc_i, stc_at, stc_stc]
      exact i1
  have z : ∀ b, stc m 257 (tmL (m.1 257) (m.1 252) p q b 0).2 = m := fun _ => stc_self
  unfold g_X14_times__257_252 g_absL
  by_cases c : (0 : Int32) ≤ lg_cmp (Int32.toInt64 by_) 0
  · have c' := cmp_nn.mp c
    rw [l_0, i2l] at c'
    have c2 : (0 : Int32) ≤ by_ := by rw [i_le, i_0]; exact c'
    have k := key (Int32.toInt64 by_) (by rw [i2l]; exact c') (by rw [i2l]; omega) 6 FU 0 (by omega) (by omega)
    rw [z, if_pos c2] at k
    have t := tmL_6 (f := m.1 257) (g := m.1 252) (p := p) (q := q) (b := Int32.toInt64 by_) (by rw [i2l]; exact c') (by rw [i2l]; omega) hx
    rw [i2l] at t
    refine ⟨_, ?_, t⟩
    rw [if_pos c, b_sm, hF]
    exact k
  · have c' : ¬ (0 : Int64).toInt ≤ (Int32.toInt64 by_).toInt := fun h => c (cmp_nn.mpr h)
    rw [l_0, i2l] at c'
    have c2 : ¬ (0 : Int32) ≤ by_ := fun h => by rw [i_le, i_0] at h; exact c' h
    have ng : (-(Int32.toInt64 by_)).toInt = - by_.toInt := by rw [Int64.toInt_neg, i2l, bm64 (by omega) (by omega)]
    have k := key (-(Int32.toInt64 by_)) (by rw [ng]; omega) (by rw [ng]; omega) 6 FU 0 (by omega) (by omega)
    rw [z, if_neg c2] at k
    have t := tmL_6 (f := m.1 257) (g := m.1 252) (p := p) (q := q) (b := -(Int32.toInt64 by_)) (by rw [ng]; omega) (by rw [ng]; omega) hx
    rw [ng] at t
    obtain ⟨F, f1, f2, f3⟩ := tn_257 (w := w) (m := stc m 257 (tmL (m.1 257) (m.1 252) p q (-(Int32.toInt64 by_)) 6).2) (p := p) hp (by rw [stc_at]; exact t.2)
    rw [stc_at] at f2
    rw [f1, bv_sm, stc_stc] at k
    refine ⟨F, ?_, fun j hj => (f2 j hj).trans (t.1 j hj), ?_⟩
    · rw [if_neg c, b_sm, hF]
      exact k
    · have e : x * by_.toInt = - (x * - by_.toInt) := by grind
      rw [e]
      exact f3
theorem tm_257_256 {w : rf_w} {m : rf_m} {p q : Nat} {x : Int} {by_ : Int32} (hp : p + 6 ≤ 6) (hq : q + 6 ≤ 384) (hx : wd (m.1 256) q x) : ∃ F, g_X14_times__257_256 w m (Int32.ofNat p) (Int32.ofNat q) by_ = some (stc m 257 F) ∧ wF p (m.1 257) F ∧ wd F p (x * by_.toInt) := by
  obtain ⟨FU, hF, hFb⟩ := fuel_ex
  have rb := rngI by_
  have key : ∀ b : Int64, 0 ≤ b.toInt → b.toInt ≤ 2147483648 → ∀ r f i, i + r = 6 → r < f → g_X14_times__257_256_14 w f (Int32.ofNat p) (Int32.ofNat q) by_ b (tmL (m.1 257) (m.1 256) p q b i).1 (Int32.ofNat i) (stc m 257 (tmL (m.1 257) (m.1 256) p q b i).2) = (if (0 : Int32) ≤ by_ then some (stc m 257 (tmL (m.1 257) (m.1 256) p q b 6).2) else rf_bv (g_X14_turns__257 w (stc m 257 (tmL (m.1 257) (m.1 256) p q b 6).2) (Int32.ofNat p)) fun m0 => some m0) := by
    intro b b0 b1 r
    induction r with
    | zero =>
      intro f i hi hf
      obtain ⟨f, rfl⟩ : ∃ g, f = g + 1 := ⟨f - 1, by omega⟩
      have e : i = 6 := by omega
      subst e
      show g_X14_times__257_256_14_b w _ _ _ _ _ _ _ _ = _
      unfold g_X14_times__257_256_14_b
      have z : (6 : Int32) ≤ Int32.ofNat 6 := by decide
      rw [if_pos z]
    | succ r ih =>
      intro f i hi hf
      obtain ⟨f, rfl⟩ : ∃ g, f = g + 1 := ⟨f - 1, by omega⟩
      have i1 := ih f (i + 1) (by omega) (by omega)
      have z : ¬ (6 : Int32) ≤ Int32.ofNat i := nle (R := 6) (by omega) (by decide)
      have ap : Int32.ofNat p + Int32.ofNat i = Int32.ofNat (p + i) := (Int32.ofNat_add p i).symm
      have aq : Int32.ofNat q + Int32.ofNat i = Int32.ofNat (q + i) := (Int32.ofNat_add q i).symm
      have rb : (stc m 257 (tmL (m.1 257) (m.1 256) p q b i).2).1 256 (q + i) = m.1 256 (q + i) := by rw [stc_ne (by decide)]
      show g_X14_times__257_256_14_b w (g_X14_times__257_256_14 w f) _ _ _ _ _ _ _ = _
      unfold g_X14_times__257_256_14_b rf_vl
      rw [if_neg z, ap, aq, gof (n := q + i) (by omega) (by decide), g_t]
      dsimp only
      rw [gof (n := p + i) (by omega) (by decide), g_t, tn_of (n := p + i) (by omega), tn_of (n := q + i) (by omega), rb, of_succ, stc_i, stc_at, stc_stc]
      exact i1
  have z : ∀ b, stc m 257 (tmL (m.1 257) (m.1 256) p q b 0).2 = m := fun _ => stc_self
  unfold g_X14_times__257_256 g_absL
  by_cases c : (0 : Int32) ≤ lg_cmp (Int32.toInt64 by_) 0
  · have c' := cmp_nn.mp c
    rw [l_0, i2l] at c'
    have c2 : (0 : Int32) ≤ by_ := by rw [i_le, i_0]; exact c'
    have k := key (Int32.toInt64 by_) (by rw [i2l]; exact c') (by rw [i2l]; omega) 6 FU 0 (by omega) (by omega)
    rw [z, if_pos c2] at k
    have t := tmL_6 (f := m.1 257) (g := m.1 256) (p := p) (q := q) (b := Int32.toInt64 by_) (by rw [i2l]; exact c') (by rw [i2l]; omega) hx
    rw [i2l] at t
    refine ⟨_, ?_, t⟩
    rw [if_pos c, b_sm, hF]
    exact k
  · have c' : ¬ (0 : Int64).toInt ≤ (Int32.toInt64 by_).toInt := fun h => c (cmp_nn.mpr h)
    rw [l_0, i2l] at c'
    have c2 : ¬ (0 : Int32) ≤ by_ := fun h => by rw [i_le, i_0] at h; exact c' h
    have ng : (-(Int32.toInt64 by_)).toInt = - by_.toInt := by rw [Int64.toInt_neg, i2l, bm64 (by omega) (by omega)]
    have k := key (-(Int32.toInt64 by_)) (by rw [ng]; omega) (by rw [ng]; omega) 6 FU 0 (by omega) (by omega)
    rw [z, if_neg c2] at k
    have t := tmL_6 (f := m.1 257) (g := m.1 256) (p := p) (q := q) (b := -(Int32.toInt64 by_)) (by rw [ng]; omega) (by rw [ng]; omega) hx
    rw [ng] at t
    obtain ⟨F, f1, f2, f3⟩ := tn_257 (w := w) (m := stc m 257 (tmL (m.1 257) (m.1 256) p q (-(Int32.toInt64 by_)) 6).2) (p := p) hp (by rw [stc_at]; exact t.2)
    rw [stc_at] at f2
    rw [f1, bv_sm, stc_stc] at k
    refine ⟨F, ?_, fun j hj => (f2 j hj).trans (t.1 j hj), ?_⟩
    · rw [if_neg c, b_sm, hF]
      exact k
    · have e : x * by_.toInt = - (x * - by_.toInt) := by grind
      rw [e]
      exact f3
theorem tm_257_258 {w : rf_w} {m : rf_m} {p q : Nat} {x : Int} {by_ : Int32} (hp : p + 6 ≤ 6) (hq : q + 6 ≤ 36) (hx : wd (m.1 258) q x) : ∃ F, g_X14_times__257_258 w m (Int32.ofNat p) (Int32.ofNat q) by_ = some (stc m 257 F) ∧ wF p (m.1 257) F ∧ wd F p (x * by_.toInt) := by
  obtain ⟨FU, hF, hFb⟩ := fuel_ex
  have rb := rngI by_
  have key : ∀ b : Int64, 0 ≤ b.toInt → b.toInt ≤ 2147483648 → ∀ r f i, i + r = 6 → r < f → g_X14_times__257_258_14 w f (Int32.ofNat p) (Int32.ofNat q) by_ b (tmL (m.1 257) (m.1 258) p q b i).1 (Int32.ofNat i) (stc m 257 (tmL (m.1 257) (m.1 258) p q b i).2) = (if (0 : Int32) ≤ by_ then some (stc m 257 (tmL (m.1 257) (m.1 258) p q b 6).2) else rf_bv (g_X14_turns__257 w (stc m 257 (tmL (m.1 257) (m.1 258) p q b 6).2) (Int32.ofNat p)) fun m0 => some m0) := by
    intro b b0 b1 r
    induction r with
    | zero =>
      intro f i hi hf
      obtain ⟨f, rfl⟩ : ∃ g, f = g + 1 := ⟨f - 1, by omega⟩
      have e : i = 6 := by omega
      subst e
      show g_X14_times__257_258_14_b w _ _ _ _ _ _ _ _ = _
      unfold g_X14_times__257_258_14_b
      have z : (6 : Int32) ≤ Int32.ofNat 6 := by decide
      rw [if_pos z]
    | succ r ih =>
      intro f i hi hf
      obtain ⟨f, rfl⟩ : ∃ g, f = g + 1 := ⟨f - 1, by omega⟩
      have i1 := ih f (i + 1) (by omega) (by omega)
      have z : ¬ (6 : Int32) ≤ Int32.ofNat i := nle (R := 6) (by omega) (by decide)
      have ap : Int32.ofNat p + Int32.ofNat i = Int32.ofNat (p + i) := (Int32.ofNat_add p i).symm
      have aq : Int32.ofNat q + Int32.ofNat i = Int32.ofNat (q + i) := (Int32.ofNat_add q i).symm
      have rb : (stc m 257 (tmL (m.1 257) (m.1 258) p q b i).2).1 258 (q + i) = m.1 258 (q + i) := by rw [stc_ne (by decide)]
      show g_X14_times__257_258_14_b w (g_X14_times__257_258_14 w f) _ _ _ _ _ _ _ = _
      unfold g_X14_times__257_258_14_b rf_vl
      rw [if_neg z, ap, aq, gof (n := q + i) (by omega) (by decide), g_t]
      dsimp only
      rw [gof (n := p + i) (by omega) (by decide), g_t, tn_of (n := p + i) (by omega), tn_of (n := q + i) (by omega), rb, of_succ, stc_i, stc_at, stc_stc]
      exact i1
  have z : ∀ b, stc m 257 (tmL (m.1 257) (m.1 258) p q b 0).2 = m := fun _ => stc_self
  unfold g_X14_times__257_258 g_absL
  by_cases c : (0 : Int32) ≤ lg_cmp (Int32.toInt64 by_) 0
  · have c' := cmp_nn.mp c
    rw [l_0, i2l] at c'
    have c2 : (0 : Int32) ≤ by_ := by rw [i_le, i_0]; exact c'
    have k := key (Int32.toInt64 by_) (by rw [i2l]; exact c') (by rw [i2l]; omega) 6 FU 0 (by omega) (by omega)
    rw [z, if_pos c2] at k
    have t := tmL_6 (f := m.1 257) (g := m.1 258) (p := p) (q := q) (b := Int32.toInt64 by_) (by rw [i2l]; exact c') (by rw [i2l]; omega) hx
    rw [i2l] at t
    refine ⟨_, ?_, t⟩
    rw [if_pos c, b_sm, hF]
    exact k
  · have c' : ¬ (0 : Int64).toInt ≤ (Int32.toInt64 by_).toInt := fun h => c (cmp_nn.mpr h)
    rw [l_0, i2l] at c'
    have c2 : ¬ (0 : Int32) ≤ by_ := fun h => by rw [i_le, i_0] at h; exact c' h
    have ng : (-(Int32.toInt64 by_)).toInt = - by_.toInt := by rw [Int64.toInt_neg, i2l, bm64 (by omega) (by omega)]
    have k := key (-(Int32.toInt64 by_)) (by rw [ng]; omega) (by rw [ng]; omega) 6 FU 0 (by omega) (by omega)
    rw [z, if_neg c2] at k
    have t := tmL_6 (f := m.1 257) (g := m.1 258) (p := p) (q := q) (b := -(Int32.toInt64 by_)) (by rw [ng]; omega) (by rw [ng]; omega) hx
    rw [ng] at t
    obtain ⟨F, f1, f2, f3⟩ := tn_257 (w := w) (m := stc m 257 (tmL (m.1 257) (m.1 258) p q (-(Int32.toInt64 by_)) 6).2) (p := p) hp (by rw [stc_at]; exact t.2)
    rw [stc_at] at f2
    rw [f1, bv_sm, stc_stc] at k
    refine ⟨F, ?_, fun j hj => (f2 j hj).trans (t.1 j hj), ?_⟩
    · rw [if_neg c, b_sm, hF]
      exact k
    · have e : x * by_.toInt = - (x * - by_.toInt) := by grind
      rw [e]
      exact f3
theorem tm_257_264 {w : rf_w} {m : rf_m} {p q : Nat} {x : Int} {by_ : Int32} (hp : p + 6 ≤ 6) (hq : q + 6 ≤ 480) (hx : wd (m.1 264) q x) : ∃ F, g_X14_times__257_264 w m (Int32.ofNat p) (Int32.ofNat q) by_ = some (stc m 257 F) ∧ wF p (m.1 257) F ∧ wd F p (x * by_.toInt) := by
  obtain ⟨FU, hF, hFb⟩ := fuel_ex
  have rb := rngI by_
  have key : ∀ b : Int64, 0 ≤ b.toInt → b.toInt ≤ 2147483648 → ∀ r f i, i + r = 6 → r < f → g_X14_times__257_264_14 w f (Int32.ofNat p) (Int32.ofNat q) by_ b (tmL (m.1 257) (m.1 264) p q b i).1 (Int32.ofNat i) (stc m 257 (tmL (m.1 257) (m.1 264) p q b i).2) = (if (0 : Int32) ≤ by_ then some (stc m 257 (tmL (m.1 257) (m.1 264) p q b 6).2) else rf_bv (g_X14_turns__257 w (stc m 257 (tmL (m.1 257) (m.1 264) p q b 6).2) (Int32.ofNat p)) fun m0 => some m0) := by
    intro b b0 b1 r
    induction r with
    | zero =>
      intro f i hi hf
      obtain ⟨f, rfl⟩ : ∃ g, f = g + 1 := ⟨f - 1, by omega⟩
      have e : i = 6 := by omega
      subst e
      show g_X14_times__257_264_14_b w _ _ _ _ _ _ _ _ = _
      unfold g_X14_times__257_264_14_b
      have z : (6 : Int32) ≤ Int32.ofNat 6 := by decide
      rw [if_pos z]
    | succ r ih =>
      intro f i hi hf
      obtain ⟨f, rfl⟩ : ∃ g, f = g + 1 := ⟨f - 1, by omega⟩
      have i1 := ih f (i + 1) (by omega) (by omega)
      have z : ¬ (6 : Int32) ≤ Int32.ofNat i := nle (R := 6) (by omega) (by decide)
      have ap : Int32.ofNat p + Int32.ofNat i = Int32.ofNat (p + i) := (Int32.ofNat_add p i).symm
      have aq : Int32.ofNat q + Int32.ofNat i = Int32.ofNat (q + i) := (Int32.ofNat_add q i).symm
      have rb : (stc m 257 (tmL (m.1 257) (m.1 264) p q b i).2).1 264 (q + i) = m.1 264 (q + i) := by rw [stc_ne (by decide)]
      show g_X14_times__257_264_14_b w (g_X14_times__257_264_14 w f) _ _ _ _ _ _ _ = _
      unfold g_X14_times__257_264_14_b rf_vl
      rw [if_neg z, ap, aq, gof (n := q + i) (by omega) (by decide), g_t]
      dsimp only
      rw [gof (n := p + i) (by omega) (by decide), g_t, tn_of (n := p + i) (by omega), tn_of (n := q + i) (by omega), rb, of_succ, stc_i, stc_at, stc_stc]
      exact i1
  have z : ∀ b, stc m 257 (tmL (m.1 257) (m.1 264) p q b 0).2 = m := fun _ => stc_self
  unfold g_X14_times__257_264 g_absL
  by_cases c : (0 : Int32) ≤ lg_cmp (Int32.toInt64 by_) 0
  · have c' := cmp_nn.mp c
    rw [l_0, i2l] at c'
    have c2 : (0 : Int32) ≤ by_ := by rw [i_le, i_0]; exact c'
    have k := key (Int32.toInt64 by_) (by rw [i2l]; exact c') (by rw [i2l]; omega) 6 FU 0 (by omega) (by omega)
    rw [z, if_pos c2] at k
    have t := tmL_6 (f := m.1 257) (g := m.1 264) (p := p) (q := q) (b := Int32.toInt64 by_) (by rw [i2l]; exact c') (by rw [i2l]; omega) hx
    rw [i2l] at t
    refine ⟨_, ?_, t⟩
    rw [if_pos c, b_sm, hF]
    exact k
  · have c' : ¬ (0 : Int64).toInt ≤ (Int32.toInt64 by_).toInt := fun h => c (cmp_nn.mpr h)
    rw [l_0, i2l] at c'
    have c2 : ¬ (0 : Int32) ≤ by_ := fun h => by rw [i_le, i_0] at h; exact c' h
    have ng : (-(Int32.toInt64 by_)).toInt = - by_.toInt := by rw [Int64.toInt_neg, i2l, bm64 (by omega) (by omega)]
    have k := key (-(Int32.toInt64 by_)) (by rw [ng]; omega) (by rw [ng]; omega) 6 FU 0 (by omega) (by omega)
    rw [z, if_neg c2] at k
    have t := tmL_6 (f := m.1 257) (g := m.1 264) (p := p) (q := q) (b := -(Int32.toInt64 by_)) (by rw [ng]; omega) (by rw [ng]; omega) hx
    rw [ng] at t
    obtain ⟨F, f1, f2, f3⟩ := tn_257 (w := w) (m := stc m 257 (tmL (m.1 257) (m.1 264) p q (-(Int32.toInt64 by_)) 6).2) (p := p) hp (by rw [stc_at]; exact t.2)
    rw [stc_at] at f2
    rw [f1, bv_sm, stc_stc] at k
    refine ⟨F, ?_, fun j hj => (f2 j hj).trans (t.1 j hj), ?_⟩
    · rw [if_neg c, b_sm, hF]
      exact k
    · have e : x * by_.toInt = - (x * - by_.toInt) := by grind
      rw [e]
      exact f3
theorem w6_0 {f : Nat → Int32} : w6 f 0 = 0 ↔ ∀ j, j < 6 → f j = 0 := by
  have key : ∀ n, wvx f 0 n = 0 ↔ ∀ j, j < n → f j = 0 := by
    intro n
    induction n with
    | zero => exact ⟨fun _ j hj => absurd hj (Nat.not_lt_zero _), fun _ => rfl⟩
    | succ n ih =>
      have r := wvx_rng (f := f) (p := 0) n
      have u := u32_rng (f (0 + n))
      have pp := pW_pos n
      have mm := Int.mul_nonneg u.1 (show 0 ≤ pW n by omega)
      have e : f (0 + n) = f n := by rw [Nat.zero_add]
      rw [wvx_s]
      constructor
      · intro h j hj
        by_cases q : j = n
        · subst q
          have : u32 (f (0 + j)) = 0 := by
            refine Classical.byContradiction fun z => ?_
            have := Int.mul_le_mul_of_nonneg_right (show 1 ≤ u32 (f (0 + j)) by omega) (show 0 ≤ pW j by omega)
            omega
          rw [e] at this
          rw [i_eq, i_0]
          unfold u32 at this
          have := rngI (f j)
          omega
        · exact ih.mp (by omega) j (by omega)
      · intro h
        have h1 := ih.mpr (fun j hj => h j (by omega))
        have h2 := h n (by omega)
        rw [h1, e, h2]
        have : u32 0 = 0 := rfl
        rw [this]
        omega
  exact key 6
theorem w6_neg {f : Nat → Int32} : 3138550867693340381917894711603833208051177722232017256448 ≤ w6 f 0 ↔ ¬ (0 : Int32) ≤ f 5 := by
  have q5 : pW 5 = 1461501637330902918203684832716283019655932542976 := by decide
  have r := wvx_rng (f := f) (p := 0) 5
  have e : w6 f 0 = wvx f 0 5 + u32 (f 5) * pW 5 := by
    show wvx f 0 5 + u32 (f (0 + 5)) * pW 5 = _
    rw [Nat.zero_add]
  have g := rngI (f 5)
  rw [e, i_le, i_0, q5]
  rw [q5] at r
  unfold u32
  omega
theorem wvx_lex {f g : Nat → Int32} (i : Nat) : (u32 (f i) = u32 (g i) → (wvx g 0 i ≤ wvx f 0 i ↔ wvx g 0 (i + 1) ≤ wvx f 0 (i + 1))) ∧ (u32 (f i) < u32 (g i) → ¬ wvx g 0 (i + 1) ≤ wvx f 0 (i + 1)) ∧ (u32 (g i) < u32 (f i) → wvx g 0 (i + 1) ≤ wvx f 0 (i + 1)) := by
  have rf := wvx_rng (f := f) (p := 0) i
  have rg := wvx_rng (f := g) (p := 0) i
  have pp := pW_pos i
  have ef : wvx f 0 (i + 1) = wvx f 0 i + u32 (f i) * pW i := by rw [wvx_s, Nat.zero_add]
  have eg : wvx g 0 (i + 1) = wvx g 0 i + u32 (g i) * pW i := by rw [wvx_s, Nat.zero_add]
  rw [ef, eg]
  refine ⟨fun h => by rw [h]; omega, fun h => ?_, fun h => ?_⟩
  · have := Int.mul_le_mul_of_nonneg_right (show u32 (f i) + 1 ≤ u32 (g i) by omega) (show 0 ≤ pW i by omega)
    have e : (u32 (f i) + 1) * pW i = u32 (f i) * pW i + pW i := by grind
    omega
  · have := Int.mul_le_mul_of_nonneg_right (show u32 (g i) + 1 ≤ u32 (f i) by omega) (show 0 ≤ pW i by omega)
    have e : (u32 (g i) + 1) * pW i = u32 (g i) * pW i + pW i := by grind
    omega
theorem half_s {X : Int} {i : Nat} : X / 2 ^ i = 2 * (X / 2 ^ (i + 1)) + X / 2 ^ i % 2 := by
  have e : X / 2 ^ (i + 1) = X / 2 ^ i / 2 := by
    have p2 : (2 : Int) ^ (i + 1) = 2 ^ i * 2 := Int.pow_succ 2 i
    have pp := p2_pos i
    have h := @Int.ediv_ediv X (2 ^ i) 2
    rw [if_neg (fun h => by omega), Int.sub_zero] at h
    rw [p2, h]
  rw [e]
  omega
/-- a bit that is 0 is told -/
theorem w6_or {f : Nat → Int32} {b : Int} {y : Int32} (he : w6 f 0 % 2 = 0) (hy : (b = 0 ∨ b = 1) ∧ y.toInt = b) : w6 (pu f 0 ((f 0) ||| y)) 0 = w6 f 0 + b := by
  have lo : ∀ g : Nat → Int32, w6 g 0 = u32 (g 0) + 4294967296 * wvx g 1 5 := by
    intro g
    have key : ∀ n, wvx g 0 (n + 1) = u32 (g 0) + 4294967296 * wvx g 1 n := by
      intro n
      induction n with
      | zero =>
        show 0 + u32 (g (0 + 0)) * 1 = u32 (g 0) + 4294967296 * 0
        rw [Nat.zero_add]
        omega
      | succ n ih =>
        rw [wvx_s, ih, wvx_s, show 0 + (n + 1) = 1 + n by omega]
        have pe : pW (n + 1) = pW n * 4294967296 := rfl
        rw [pe]
        grind
    exact key 5
  rw [lo, lo f, pu_at, wvx_c (f := pu f 0 ((f 0) ||| y)) (g := f) (p := 1) (q := 1) 5 (fun i _ => pu_ne (by omega))]
  rw [lo f] at he
  have ev : u32 (f 0) % 2 = 0 := by omega
  have key : u32 ((f 0) ||| y) = u32 (f 0) + b := by
    rcases hy with ⟨h | h, h2⟩
    · have : y = 0 := by rw [i_eq, h2, h]; rfl
      subst this
      have z : (f 0) ||| 0 = f 0 := Int32.toBitVec_inj.mp (by rw [Int32.toBitVec_or]; exact BitVec.or_zero)
      rw [z]
      omega
    · have : y = 1 := by rw [i_eq, h2, h]; rfl
      subst this
      rw [u32_nat, u32_nat] at *
      have n : ((f 0) ||| 1).toBitVec.toNat = (f 0).toBitVec.toNat + 1 := by
        rw [Int32.toBitVec_or, BitVec.toNat_or]
        have h1 : (1 : Int32).toBitVec.toNat = 1 := rfl
        rw [h1]
        have ee : (f 0).toBitVec.toNat % 2 = 0 := by omega
        have s := Nat.shiftLeft_add_eq_or_of_lt (i := 1) (b := 1) (by decide) ((f 0).toBitVec.toNat / 2)
        rw [Nat.shiftLeft_eq] at s
        have : (f 0).toBitVec.toNat / 2 * 2 ^ 1 = (f 0).toBitVec.toNat := by omega
        rw [this] at s
        exact s.symm
      rw [n, h]
      omega
  rw [key]
  omega
/-- one bit of six words -/
theorem w6_bit {f : Nat → Int32} {i : Nat} (hi : i < 192) : (w6 f 0 / 2 ^ i % 2 = 0 ∨ w6 f 0 / 2 ^ i % 2 = 1) ∧ ((((Int32.toUInt32 (f (i / 32)) >>> (Int32.toUInt32 (Int32.ofNat (i % 32)) &&& Int32.toUInt32 31)).toInt32) &&& 1)).toInt = w6 f 0 / 2 ^ i % 2 := by
  have b01 := Int.emod_two_eq (w6 f 0 / 2 ^ i)
  refine ⟨b01, ?_⟩
  -- the words below and above
  have sp : ∀ n j, wvx f 0 (j + n) = wvx f 0 j + pW j * wvx f j n := by
    intro n
    induction n with
    | zero => intro j; show wvx f 0 j = wvx f 0 j + pW j * 0; omega
    | succ n ih =>
      intro j
      show wvx f 0 (j + n) + u32 (f (0 + (j + n))) * pW (j + n) = _
      have pa : pW (j + n) = pW j * pW n := by
        clear ih
        induction n with
        | zero => exact (Int.mul_one _).symm
        | succ n ih2 =>
          show pW (j + n) * 4294967296 = pW j * (pW n * 4294967296)
          rw [ih2, Int.mul_assoc]
      rw [ih, wvx_s, pa, Nat.zero_add]
      grind
  have jl : i / 32 < 6 := by omega
  have s1 := sp (6 - i / 32) (i / 32)
  rw [show i / 32 + (6 - i / 32) = 6 by omega] at s1
  have lo : ∀ n, wvx f (i / 32) (n + 1) = u32 (f (i / 32)) + 4294967296 * wvx f (i / 32 + 1) n := by
    intro n
    induction n with
    | zero =>
      show 0 + u32 (f (i / 32 + 0)) * 1 = u32 (f (i / 32)) + 4294967296 * 0
      rw [Nat.add_zero]
      omega
    | succ n ih =>
      rw [wvx_s, ih, wvx_s, show i / 32 + (n + 1) = i / 32 + 1 + n by omega]
      have pe : pW (n + 1) = pW n * 4294967296 := rfl
      rw [pe]
      grind
  rw [show 6 - i / 32 = (5 - i / 32) + 1 by omega, lo] at s1
  have rl := wvx_rng (f := f) (p := 0) (i / 32)
  have s1 : w6 f 0 = wvx f 0 (i / 32) + pW (i / 32) * (u32 (f (i / 32)) + 4294967296 * wvx f (i / 32 + 1) (5 - i / 32)) := s1
  have pw : ∀ n, pW n = 2 ^ (32 * n) := by
    intro n
    induction n with
    | zero => rfl
    | succ n ih =>
      show pW n * 4294967296 = _
      rw [ih, show 32 * (n + 1) = 32 * n + 32 by omega, Int.pow_add]
      rfl
  have e2 : w6 f 0 / 2 ^ i = (u32 (f (i / 32)) + 4294967296 * wvx f (i / 32 + 1) (5 - i / 32)) / 2 ^ (i % 32) := by
    have p1 : (2 : Int) ^ i = pW (i / 32) * 2 ^ (i % 32) := by
      rw [pw, ← Int.pow_add, show 32 * (i / 32) + i % 32 = i by omega]
    have pp := pW_pos (i / 32)
    have h := @Int.ediv_ediv (w6 f 0) (pW (i / 32)) (2 ^ (i % 32))
    rw [if_neg (fun h => by omega), Int.sub_zero] at h
    rw [p1, ← h, s1, Int.add_mul_ediv_left _ _ (by omega), Int.ediv_eq_zero_of_lt rl.1 rl.2, Int.zero_add]
  have e3 : (u32 (f (i / 32)) + 4294967296 * wvx f (i / 32 + 1) (5 - i / 32)) / 2 ^ (i % 32) % 2 = u32 (f (i / 32)) / 2 ^ (i % 32) % 2 := by
    have p2 : (4294967296 : Int) = 2 ^ (i % 32) * (2 * 2 ^ (31 - i % 32)) := by
      have : (2 : Int) * 2 ^ (31 - i % 32) = 2 ^ (32 - i % 32) := by
        rw [show 32 - i % 32 = (31 - i % 32) + 1 by omega, Int.pow_succ]
        omega
      rw [this, ← Int.pow_add, show i % 32 + (32 - i % 32) = 32 by omega]
      rfl
    have pp := p2_pos (i % 32)
    have : u32 (f (i / 32)) + 4294967296 * wvx f (i / 32 + 1) (5 - i / 32) = u32 (f (i / 32)) + 2 ^ (i % 32) * (2 * (2 ^ (31 - i % 32) * wvx f (i / 32 + 1) (5 - i / 32))) := by
      rw [p2]
      generalize (2 : Int) ^ (i % 32) = E1
      generalize (2 : Int) ^ (31 - i % 32) = E2
      grind
    rw [this, Int.add_mul_ediv_left _ _ (by omega), Int.add_mul_emod_self_left]
  rw [e2, e3, u32_nat]
  have hb := bt_shr (a := f (i / 32)) (u := i % 32) (by omega)
  rw [hb]
  have tb : bt (f (i / 32)) (i % 32) = decide ((f (i / 32)).toBitVec.toNat / 2 ^ (i % 32) % 2 = 1) := by
    show (f (i / 32)).toBitVec.toNat.testBit (i % 32) = _
    exact Nat.testBit_eq_decide_div_mod_eq
  have cst : ((f (i / 32)).toBitVec.toNat : Int) / 2 ^ (i % 32) % 2 = (((f (i / 32)).toBitVec.toNat / 2 ^ (i % 32) % 2 : Nat) : Int) := by
    rw [Int.natCast_emod, Int.natCast_ediv, Int.natCast_pow]
    rfl
  rw [cst, tb]
  have r2 := Nat.mod_lt ((f (i / 32)).toBitVec.toNat / 2 ^ (i % 32)) (show 0 < 2 by decide)
  by_cases q : (f (i / 32)).toBitVec.toNat / 2 ^ (i % 32) % 2 = 1
  · rw [decide_eq_true q, if_pos rfl, q]; rfl
  · rw [decide_eq_false q, if_neg (by decide)]
    have : (f (i / 32)).toBitVec.toNat / 2 ^ (i % 32) % 2 = 0 := by omega
    rw [this]; rfl
theorem iz_250 {w : rf_w} {m : rf_m} : g_X14_isZero__250 w m 0 = some (bi (w6 (m.1 250) 0 = 0), m) := by
  obtain ⟨FU, hF, hFb⟩ := fuel_ex
  have o1 : ¬ (1 : Int32) = 0 := by decide
  have key : ∀ r f i, i + r = 6 → r < f → g_X14_isZero__250_4 w f 0 (bi (∀ j, j < i → m.1 250 j = 0)) (Int32.ofNat i) m = some (bi (w6 (m.1 250) 0 = 0), m) := by
    intro r
    induction r with
    | zero =>
      intro f i hi hf
      obtain ⟨f, rfl⟩ : ∃ g, f = g + 1 := ⟨f - 1, by omega⟩
      have e : i = 6 := by omega
      subst e
      show g_X14_isZero__250_4_b w _ _ _ _ m = _
      unfold g_X14_isZero__250_4_b
      have z : (6 : Int32) ≤ Int32.ofNat 6 := by decide
      rw [if_pos z, bi_01, g_t, bi_congr w6_0]
    | succ r ih =>
      intro f i hi hf
      obtain ⟨f, rfl⟩ : ∃ g, f = g + 1 := ⟨f - 1, by omega⟩
      have i1 := ih f (i + 1) (by omega) (by omega)
      have z : ¬ (6 : Int32) ≤ Int32.ofNat i := nle (R := 6) (by omega) (by decide)
      have az : (0 : Int32) + Int32.ofNat i = Int32.ofNat i := by grind
      have s1 : (∀ j, j < i + 1 → m.1 250 j = 0) ↔ ((∀ j, j < i → m.1 250 j = 0) ∧ m.1 250 i = 0) := ⟨fun h => ⟨fun j hj => h j (by omega), h i (by omega)⟩, fun h j hj => by
        by_cases e : j = i
        · rw [e]; exact h.2
        · exact h.1 j (by omega)⟩
      show g_X14_isZero__250_4_b w (g_X14_isZero__250_4 w f) _ _ _ m = _
      unfold g_X14_isZero__250_4_b g_X14_isZero__250_26 g_X14_isZero__250_27
      rw [if_neg z, az, gof (n := i) (by omega) (by decide), g_t, tn_of (n := i) (by omega), of_succ]
      by_cases h : ∀ j, j < i → m.1 250 j = 0
      · rw [bi_t h, if_neg o1]
        by_cases h2 : m.1 250 i = 0
        · rw [if_pos h2]
          rw [bi_t (s1.mpr ⟨h, h2⟩)] at i1
          exact i1
        · rw [if_neg h2]
          rw [bi_f (fun q => h2 (s1.mp q).2)] at i1
          exact i1
      · rw [bi_f h, if_pos rfl]
        rw [bi_f (fun q => h (s1.mp q).1)] at i1
        exact i1
  have k := key 6 FU 0 (by omega) (by omega)
  rw [bi_t (fun j hj => absurd hj (Nat.not_lt_zero _))] at k
  unfold g_X14_isZero__250
  rw [hF]
  exact k
theorem iz_260 {w : rf_w} {m : rf_m} : g_X14_isZero__260 w m 0 = some (bi (w6 (m.1 260) 0 = 0), m) := by
  obtain ⟨FU, hF, hFb⟩ := fuel_ex
  have o1 : ¬ (1 : Int32) = 0 := by decide
  have key : ∀ r f i, i + r = 6 → r < f → g_X14_isZero__260_4 w f 0 (bi (∀ j, j < i → m.1 260 j = 0)) (Int32.ofNat i) m = some (bi (w6 (m.1 260) 0 = 0), m) := by
    intro r
    induction r with
    | zero =>
      intro f i hi hf
      obtain ⟨f, rfl⟩ : ∃ g, f = g + 1 := ⟨f - 1, by omega⟩
      have e : i = 6 := by omega
      subst e
      show g_X14_isZero__260_4_b w _ _ _ _ m = _
      unfold g_X14_isZero__260_4_b
      have z : (6 : Int32) ≤ Int32.ofNat 6 := by decide
      rw [if_pos z, bi_01, g_t, bi_congr w6_0]
    | succ r ih =>
      intro f i hi hf
      obtain ⟨f, rfl⟩ : ∃ g, f = g + 1 := ⟨f - 1, by omega⟩
      have i1 := ih f (i + 1) (by omega) (by omega)
      have z : ¬ (6 : Int32) ≤ Int32.ofNat i := nle (R := 6) (by omega) (by decide)
      have az : (0 : Int32) + Int32.ofNat i = Int32.ofNat i := by grind
      have s1 : (∀ j, j < i + 1 → m.1 260 j = 0) ↔ ((∀ j, j < i → m.1 260 j = 0) ∧ m.1 260 i = 0) := ⟨fun h => ⟨fun j hj => h j (by omega), h i (by omega)⟩, fun h j hj => by
        by_cases e : j = i
        · rw [e]; exact h.2
        · exact h.1 j (by omega)⟩
      show g_X14_isZero__260_4_b w (g_X14_isZero__260_4 w f) _ _ _ m = _
      unfold g_X14_isZero__260_4_b g_X14_isZero__260_26 g_X14_isZero__260_27
      rw [if_neg z, az, gof (n := i) (by omega) (by decide), g_t, tn_of (n := i) (by omega), of_succ]
      by_cases h : ∀ j, j < i → m.1 260 j = 0
      · rw [bi_t h, if_neg o1]
        by_cases h2 : m.1 260 i = 0
        · rw [if_pos h2]
          rw [bi_t (s1.mpr ⟨h, h2⟩)] at i1
          exact i1
        · rw [if_neg h2]
          rw [bi_f (fun q => h2 (s1.mp q).2)] at i1
          exact i1
      · rw [bi_f h, if_pos rfl]
        rw [bi_f (fun q => h (s1.mp q).1)] at i1
        exact i1
  have k := key 6 FU 0 (by omega) (by omega)
  rw [bi_t (fun j hj => absurd hj (Nat.not_lt_zero _))] at k
  unfold g_X14_isZero__260
  rw [hF]
  exact k
theorem iz_266 {w : rf_w} {m : rf_m} : g_X14_isZero__266 w m 0 = some (bi (w6 (m.1 266) 0 = 0), m) := by
  obtain ⟨FU, hF, hFb⟩ := fuel_ex
  have o1 : ¬ (1 : Int32) = 0 := by decide
  have key : ∀ r f i, i + r = 6 → r < f → g_X14_isZero__266_4 w f 0 (bi (∀ j, j < i → m.1 266 j = 0)) (Int32.ofNat i) m = some (bi (w6 (m.1 266) 0 = 0), m) := by
    intro r
    induction r with
    | zero =>
      intro f i hi hf
      obtain ⟨f, rfl⟩ : ∃ g, f = g + 1 := ⟨f - 1, by omega⟩
      have e : i = 6 := by omega
      subst e
      show g_X14_isZero__266_4_b w _ _ _ _ m = _
      unfold g_X14_isZero__266_4_b
      have z : (6 : Int32) ≤ Int32.ofNat 6 := by decide
      rw [if_pos z, bi_01, g_t, bi_congr w6_0]
    | succ r ih =>
      intro f i hi hf
      obtain ⟨f, rfl⟩ : ∃ g, f = g + 1 := ⟨f - 1, by omega⟩
      have i1 := ih f (i + 1) (by omega) (by omega)
      have z : ¬ (6 : Int32) ≤ Int32.ofNat i := nle (R := 6) (by omega) (by decide)
      have az : (0 : Int32) + Int32.ofNat i = Int32.ofNat i := by grind
      have s1 : (∀ j, j < i + 1 → m.1 266 j = 0) ↔ ((∀ j, j < i → m.1 266 j = 0) ∧ m.1 266 i = 0) := ⟨fun h => ⟨fun j hj => h j (by omega), h i (by omega)⟩, fun h j hj => by
        by_cases e : j = i
        · rw [e]; exact h.2
        · exact h.1 j (by omega)⟩
      show g_X14_isZero__266_4_b w (g_X14_isZero__266_4 w f) _ _ _ m = _
      unfold g_X14_isZero__266_4_b g_X14_isZero__266_26 g_X14_isZero__266_27
      rw [if_neg z, az, gof (n := i) (by omega) (by decide), g_t, tn_of (n := i) (by omega), of_succ]
      by_cases h : ∀ j, j < i → m.1 266 j = 0
      · rw [bi_t h, if_neg o1]
        by_cases h2 : m.1 266 i = 0
        · rw [if_pos h2]
          rw [bi_t (s1.mpr ⟨h, h2⟩)] at i1
          exact i1
        · rw [if_neg h2]
          rw [bi_f (fun q => h2 (s1.mp q).2)] at i1
          exact i1
      · rw [bi_f h, if_pos rfl]
        rw [bi_f (fun q => h (s1.mp q).1)] at i1
        exact i1
  have k := key 6 FU 0 (by omega) (by omega)
  rw [bi_t (fun j hj => absurd hj (Nat.not_lt_zero _))] at k
  unfold g_X14_isZero__266
  rw [hF]
  exact k
theorem ib_252 {w : rf_w} {m : rf_m} : g_X14_isBelow__252 w m 0 = some (bi (3138550867693340381917894711603833208051177722232017256448 ≤ w6 (m.1 252) 0), m) := by
  unfold g_X14_isBelow__252
  have e : (0 : Int32) + 6 - 1 = Int32.ofNat 5 := by decide
  rw [e, gof (n := 5) (by decide) (by decide), g_t, tn_of (n := 5) (by decide)]
  by_cases c : (0 : Int32) ≤ m.1 252 5
  · rw [if_pos c, bi_f (fun h => (w6_neg.mp h) c)]
  · rw [if_neg c, bi_t (w6_neg.mpr c)]
theorem ib_266 {w : rf_w} {m : rf_m} : g_X14_isBelow__266 w m 0 = some (bi (3138550867693340381917894711603833208051177722232017256448 ≤ w6 (m.1 266) 0), m) := by
  unfold g_X14_isBelow__266
  have e : (0 : Int32) + 6 - 1 = Int32.ofNat 5 := by decide
  rw [e, gof (n := 5) (by decide) (by decide), g_t, tn_of (n := 5) (by decide)]
  by_cases c : (0 : Int32) ≤ m.1 266 5
  · rw [if_pos c, bi_f (fun h => (w6_neg.mp h) c)]
  · rw [if_neg c, bi_t (w6_neg.mpr c)]
theorem nl_250_253 {w : rf_w} {m : rf_m} : g_X14_isNoLess__250_253 w m 0 0 = some (bi (w6 (m.1 253) 0 ≤ w6 (m.1 250) 0), m) := by
  obtain ⟨FU, hF, hFb⟩ := fuel_ex
  have key : ∀ i f, i ≤ 6 → i < f → g_X14_isNoLess__250_253_3 w f 0 0 (Int32.ofNat i - 1) m = some (bi (wvx (m.1 253) 0 i ≤ wvx (m.1 250) 0 i), m) := by
    intro i
    induction i with
    | zero =>
      intro f _ hf
      obtain ⟨f, rfl⟩ : ∃ g, f = g + 1 := ⟨f - 1, by omega⟩
      show g_X14_isNoLess__250_253_3_b w _ _ _ _ m = _
      unfold g_X14_isNoLess__250_253_3_b
      have l0 : Int32.ofNat 0 - 1 < 0 := by decide
      rw [if_pos l0, bi_t (show wvx (m.1 253) 0 0 ≤ wvx (m.1 250) 0 0 from Int.le_refl 0)]
    | succ i ih =>
      intro f hi hf
      obtain ⟨f, rfl⟩ : ∃ g, f = g + 1 := ⟨f - 1, by omega⟩
      have l0 : ¬ Int32.ofNat i < 0 := fun z => by rw [i_lt, i_0, ofI (by omega)] at z; omega
      have az : (0 : Int32) + Int32.ofNat i = Int32.ofNat i := by grind
      have em : Int32.ofNat i + (-1) = Int32.ofNat i - 1 := by grind
      have wl := wvx_lex (f := m.1 250) (g := m.1 253) i
      show g_X14_isNoLess__250_253_3_b w (g_X14_isNoLess__250_253_3 w f) _ _ _ m = _
      unfold g_X14_isNoLess__250_253_3_b rf_vl
      rw [ofm1', if_neg l0, az, gof (n := i) (by omega) (by decide), g_t]
      dsimp only
      rw [g_t, tn_of (n := i) (by omega), em]
      by_cases c : lg_cmp ((Int32.toInt64 (m.1 250 i)) &&& 4294967295) ((Int32.toInt64 (m.1 253 i)) &&& 4294967295) = 0
      · have c' := l_eq.mp (cmp_eq0.mp c)
        rw [uM, uM] at c'
        rw [if_pos c, ih f (by omega) (by omega), bi_congr (wl.1 c')]
      · have c' : ¬ u32 (m.1 250 i) = u32 (m.1 253 i) := fun h => c (cmp_eq0.mpr (l_eq.mpr (by rw [uM, uM]; exact h)))
        rw [if_neg c]
        by_cases d : lg_cmp ((Int32.toInt64 (m.1 250 i)) &&& 4294967295) ((Int32.toInt64 (m.1 253 i)) &&& 4294967295) ≤ 0
        · have d' := cmp_le.mp d
          rw [uM, uM] at d'
          rw [if_pos d, bi_f (wl.2.1 (by omega))]
        · have d' : ¬ u32 (m.1 250 i) ≤ u32 (m.1 253 i) := fun h => d (cmp_le.mpr (by rw [uM, uM]; exact h))
          rw [if_neg d, bi_t (wl.2.2 (by omega))]
  unfold g_X14_isNoLess__250_253
  rw [hF]
  exact key 6 FU (by omega) (by omega)
theorem nl_250_266 {w : rf_w} {m : rf_m} : g_X14_isNoLess__250_266 w m 0 0 = some (bi (w6 (m.1 266) 0 ≤ w6 (m.1 250) 0), m) := by
  obtain ⟨FU, hF, hFb⟩ := fuel_ex
  have key : ∀ i f, i ≤ 6 → i < f → g_X14_isNoLess__250_266_3 w f 0 0 (Int32.ofNat i - 1) m = some (bi (wvx (m.1 266) 0 i ≤ wvx (m.1 250) 0 i), m) := by
    intro i
    induction i with
    | zero =>
      intro f _ hf
      obtain ⟨f, rfl⟩ : ∃ g, f = g + 1 := ⟨f - 1, by omega⟩
      show g_X14_isNoLess__250_266_3_b w _ _ _ _ m = _
      unfold g_X14_isNoLess__250_266_3_b
      have l0 : Int32.ofNat 0 - 1 < 0 := by decide
      rw [if_pos l0, bi_t (show wvx (m.1 266) 0 0 ≤ wvx (m.1 250) 0 0 from Int.le_refl 0)]
    | succ i ih =>
      intro f hi hf
      obtain ⟨f, rfl⟩ : ∃ g, f = g + 1 := ⟨f - 1, by omega⟩
      have l0 : ¬ Int32.ofNat i < 0 := fun z => by rw [i_lt, i_0, ofI (by omega)] at z; omega
      have az : (0 : Int32) + Int32.ofNat i = Int32.ofNat i := by grind
      have em : Int32.ofNat i + (-1) = Int32.ofNat i - 1 := by grind
      have wl := wvx_lex (f := m.1 250) (g := m.1 266) i
      show g_X14_isNoLess__250_266_3_b w (g_X14_isNoLess__250_266_3 w f) _ _ _ m = _
      unfold g_X14_isNoLess__250_266_3_b rf_vl
      rw [ofm1', if_neg l0, az, gof (n := i) (by omega) (by decide), g_t]
      dsimp only
      rw [g_t, tn_of (n := i) (by omega), em]
      by_cases c : lg_cmp ((Int32.toInt64 (m.1 250 i)) &&& 4294967295) ((Int32.toInt64 (m.1 266 i)) &&& 4294967295) = 0
      · have c' := l_eq.mp (cmp_eq0.mp c)
        rw [uM, uM] at c'
        rw [if_pos c, ih f (by omega) (by omega), bi_congr (wl.1 c')]
      · have c' : ¬ u32 (m.1 250 i) = u32 (m.1 266 i) := fun h => c (cmp_eq0.mpr (l_eq.mpr (by rw [uM, uM]; exact h)))
        rw [if_neg c]
        by_cases d : lg_cmp ((Int32.toInt64 (m.1 250 i)) &&& 4294967295) ((Int32.toInt64 (m.1 266 i)) &&& 4294967295) ≤ 0
        · have d' := cmp_le.mp d
          rw [uM, uM] at d'
          rw [if_pos d, bi_f (wl.2.1 (by omega))]
        · have d' : ¬ u32 (m.1 250 i) ≤ u32 (m.1 266 i) := fun h => d (cmp_le.mpr (by rw [uM, uM]; exact h))
          rw [if_neg d, bi_t (wl.2.2 (by omega))]
  unfold g_X14_isNoLess__250_266
  rw [hF]
  exact key 6 FU (by omega) (by omega)
theorem nl_250_267 {w : rf_w} {m : rf_m} : g_X14_isNoLess__250_267 w m 0 0 = some (bi (w6 (m.1 267) 0 ≤ w6 (m.1 250) 0), m) := by
  obtain ⟨FU, hF, hFb⟩ := fuel_ex
  have key : ∀ i f, i ≤ 6 → i < f → g_X14_isNoLess__250_267_3 w f 0 0 (Int32.ofNat i - 1) m = some (bi (wvx (m.1 267) 0 i ≤ wvx (m.1 250) 0 i), m) := by
    intro i
    induction i with
    | zero =>
      intro f _ hf
      obtain ⟨f, rfl⟩ : ∃ g, f = g + 1 := ⟨f - 1, by omega⟩
      show g_X14_isNoLess__250_267_3_b w _ _ _ _ m = _
      unfold g_X14_isNoLess__250_267_3_b
      have l0 : Int32.ofNat 0 - 1 < 0 := by decide
      rw [if_pos l0, bi_t (show wvx (m.1 267) 0 0 ≤ wvx (m.1 250) 0 0 from Int.le_refl 0)]
    | succ i ih =>
      intro f hi hf
      obtain ⟨f, rfl⟩ : ∃ g, f = g + 1 := ⟨f - 1, by omega⟩
      have l0 : ¬ Int32.ofNat i < 0 := fun z => by rw [i_lt, i_0, ofI (by omega)] at z; omega
      have az : (0 : Int32) + Int32.ofNat i = Int32.ofNat i := by grind
      have em : Int32.ofNat i + (-1) = Int32.ofNat i - 1 := by grind
      have wl := wvx_lex (f := m.1 250) (g := m.1 267) i
      show g_X14_isNoLess__250_267_3_b w (g_X14_isNoLess__250_267_3 w f) _ _ _ m = _
      unfold g_X14_isNoLess__250_267_3_b rf_vl
      rw [ofm1', if_neg l0, az, gof (n := i) (by omega) (by decide), g_t]
      dsimp only
      rw [g_t, tn_of (n := i) (by omega), em]
      by_cases c : lg_cmp ((Int32.toInt64 (m.1 250 i)) &&& 4294967295) ((Int32.toInt64 (m.1 267 i)) &&& 4294967295) = 0
      · have c' := l_eq.mp (cmp_eq0.mp c)
        rw [uM, uM] at c'
        rw [if_pos c, ih f (by omega) (by omega), bi_congr (wl.1 c')]
      · have c' : ¬ u32 (m.1 250 i) = u32 (m.1 267 i) := fun h => c (cmp_eq0.mpr (l_eq.mpr (by rw [uM, uM]; exact h)))
        rw [if_neg c]
        by_cases d : lg_cmp ((Int32.toInt64 (m.1 250 i)) &&& 4294967295) ((Int32.toInt64 (m.1 267 i)) &&& 4294967295) ≤ 0
        · have d' := cmp_le.mp d
          rw [uM, uM] at d'
          rw [if_pos d, bi_f (wl.2.1 (by omega))]
        · have d' : ¬ u32 (m.1 250 i) ≤ u32 (m.1 267 i) := fun h => d (cmp_le.mpr (by rw [uM, uM]; exact h))
          rw [if_neg d, bi_t (wl.2.2 (by omega))]
  unfold g_X14_isNoLess__250_267
  rw [hF]
  exact key 6 FU (by omega) (by omega)
theorem dv_252_253 {w : rf_w} {m : rf_m} (b0 : 0 < w6 (m.1 253) 0) (b1 : w6 (m.1 253) 0 < 3138550867693340381917894711603833208051177722232017256448) : ∃ m', g_X14_divides__252_253 w m 0 0 = some m' ∧ (∀ z, z ≠ 249 → z ≠ 250 → z ≠ 251 → m'.1 z = m.1 z) ∧ m'.2 = m.2 ∧ w6 (m'.1 249) 0 = w6 (m.1 252) 0 / w6 (m.1 253) 0 ∧ w6 (m'.1 250) 0 = w6 (m.1 252) 0 % w6 (m.1 253) 0 := by
  obtain ⟨FU, hF, hFb⟩ := fuel_ex
  have p6 : pW 6 = 6277101735386680763835789423207666416102355444464034512896 := by decide
  obtain ⟨G1, a1, a2, a3⟩ := st_249 (w := w) (m := m) (p := 0) (v := 0) (by decide)
  obtain ⟨G2, c1, c2, c3⟩ := st_250 (w := w) (m := stc m 249 G1) (p := 0) (v := 0) (by decide)
  obtain ⟨G3, d1, d2, d3⟩ := cp_251_253 (w := w) (m := stc (stc m 249 G1) 250 G2) (p := 0) (q := 0) (x := w6 (m.1 253) 0) (by decide) (by decide) (by rw [stc_ne (by decide), stc_ne (by decide)]; exact wd_w6)
  obtain ⟨G4, e1, e2, e3⟩ := tn_251 (w := w) (m := stc (stc (stc m 249 G1) 250 G2) 251 G3) (p := 0) (x := w6 (m.1 253) 0) (by decide) (by rw [stc_at]; exact d3)
  generalize hM : stc (stc (stc (stc m 249 G1) 250 G2) 251 G3) 251 G4 = M0 at *
  have o0 : ∀ z, z ≠ 249 → z ≠ 250 → z ≠ 251 → M0.1 z = m.1 z := fun z h1 h2 h3 => by rw [← hM, stc_ne h3, stc_ne h3, stc_ne h2, stc_ne h1]
  have o2 : M0.2 = m.2 := by rw [← hM]; rfl
  have z0 : (0 : Int64).toInt = 0 := rfl
  rw [z0] at a3 c3
  have q0 : wd (M0.1 249) 0 0 := by rw [← hM, stc_ne (by decide), stc_ne (by decide), stc_ne (by decide), stc_at]; exact a3
  have r0 : wd (M0.1 250) 0 0 := by rw [← hM, stc_ne (by decide), stc_ne (by decide), stc_at]; exact c3
  have n0 : wd (M0.1 251) 0 (- w6 (m.1 253) 0) := by rw [← hM, stc_at]; exact e3
  have rA := w6_rng (f := m.1 252) (p := 0)
  generalize hBB : w6 (m.1 253) 0 = D at *
  generalize hAA : w6 (m.1 252) 0 = X at *
  have key : ∀ i f (M : rf_m) (Q R : Int), i ≤ 192 → i < f → (∀ z, z ≠ 249 → z ≠ 250 → M.1 z = M0.1 z) → M.2 = M0.2 → w6 (M.1 249) 0 = Q → w6 (M.1 250) 0 = R → X / 2 ^ i = Q * D + R → 0 ≤ R → R < D → 0 ≤ Q → ∃ m', g_X14_divides__252_253_42 w f 0 0 (Int32.ofNat i - 1) M = some m' ∧ (∀ z, z ≠ 249 → z ≠ 250 → m'.1 z = M0.1 z) ∧ m'.2 = M0.2 ∧ w6 (m'.1 249) 0 = X / D ∧ w6 (m'.1 250) 0 = X % D := by
    intro i
    induction i with
    | zero =>
      intro f M Q R _ hf g1 g2 g3 g4 g5 g6 g7 g8
      obtain ⟨f, rfl⟩ : ∃ g, f = g + 1 := ⟨f - 1, by omega⟩
      rw [Int.pow_zero, Int.ediv_one] at g5
      have uq : X / D = Q ∧ X % D = R := by
        have h1 : X / D = Q := by
          rw [g5, Int.add_comm, Int.mul_comm, Int.add_mul_ediv_left _ _ (by omega), Int.ediv_eq_zero_of_lt g6 g7, Int.zero_add]
        have h2 : X % D = R := by
          rw [g5, Int.add_comm, Int.mul_comm, Int.add_mul_emod_self_left, Int.emod_eq_of_lt g6 g7]
        exact ⟨h1, h2⟩
      refine ⟨M, ?_, g1, g2, by rw [g3, uq.1], by rw [g4, uq.2]⟩
      show g_X14_divides__252_253_42_b w _ _ _ _ M = _
      unfold g_X14_divides__252_253_42_b
      have l0 : Int32.ofNat 0 - 1 < 0 := by decide
      rw [if_pos l0]
    | succ i ih =>
      intro f M Q R hi hf g1 g2 g3 g4 g5 g6 g7 g8
      obtain ⟨f, rfl⟩ : ∃ g, f = g + 1 := ⟨f - 1, by omega⟩
      -- the next bit
      have bb := w6_bit (f := m.1 252) (i := i) (by omega)
      rw [hAA] at bb
      have hx : X / 2 ^ i = 2 * (X / 2 ^ (i + 1)) + X / 2 ^ i % 2 := half_s
      have b01 := Int.emod_two_eq (X / 2 ^ i)
      have q6 : Q * D ≤ X := by
        have h1 : X / 2 ^ (i + 1) ≤ X := Int.ediv_le_self _ rA.1
        omega
      have qD : Q ≤ Q * D := by
        have := Int.mul_le_mul_of_nonneg_left (show 1 ≤ D by omega) g8
        omega
      have hx2 : X / 2 ^ i ≤ X := Int.ediv_le_self _ rA.1
      have q2 : 2 * Q < pW 6 - 1 := by
        have h1 : 2 * (Q * D) ≤ X := by omega
        omega
      obtain ⟨F1, f1, f2, f3⟩ := ad_250_250 (w := w) (m := M) (p := 0) (x := R) (y := R) (by decide) (by rw [← g4]; exact wd_w6) (by rw [← g4]; exact wd_w6)
      have f4 := wd_nn f3 (by omega) (by omega)
      have A1 : (stc M 250 F1).1 252 = m.1 252 := by rw [stc_ne (by decide), g1 252 (by decide) (by decide), o0 252 (by decide) (by decide) (by decide)]
      -- the bit goes in
      have or1 := w6_or (f := F1) (b := X / 2 ^ i % 2) (y := ((Int32.toUInt32 (m.1 252 (i / 32)) >>> (Int32.toUInt32 (Int32.ofNat (i % 32)) &&& Int32.toUInt32 31)).toInt32) &&& 1) (by rw [f4]; omega) bb
      generalize hF2 : pu F1 0 ((F1 0) ||| (((Int32.toUInt32 (m.1 252 (i / 32)) >>> (Int32.toUInt32 (Int32.ofNat (i % 32)) &&& Int32.toUInt32 31)).toInt32) &&& 1)) = F2 at *
      rw [f4] at or1
      obtain ⟨F3, h1, h2, h3⟩ := ad_249_249 (w := w) (m := stc M 250 F2) (p := 0) (x := Q) (y := Q) (by decide) (by rw [stc_ne (by decide), ← g3]; exact wd_w6) (by rw [stc_ne (by decide), ← g3]; exact wd_w6)
      have h4 := wd_nn h3 (by omega) (by omega)
      have B2 : (stc (stc M 250 F2) 249 F3).1 253 = m.1 253 := by rw [stc_ne (by decide), stc_ne (by decide), g1 253 (by decide) (by decide), o0 253 (by decide) (by decide) (by decide)]
      have R2 : (stc (stc M 250 F2) 249 F3).1 250 = F2 := by rw [stc_ne (by decide), stc_at]
      have nl := nl_250_253 (w := w) (m := stc (stc M 250 F2) 249 F3)
      rw [B2, R2, hBB, or1] at nl
      have l0 : ¬ Int32.ofNat i < 0 := fun z => by rw [i_lt, i_0, ofI (by omega)] at z; omega
      have d32 : Int32.ofNat i / 32 = Int32.ofNat (i / 32) := by
        have z32 : (32 : Int32).toInt = 32 := rfl
        rw [i_eq, divI (by decide), ofI (by omega), ofI (by omega), z32, tdiv_nn (by omega) (by decide)]
        omega
      have m32 : Int32.ofNat i - Int32.ofNat (i / 32) * 32 = Int32.ofNat (i % 32) := by
        have z32 : (32 : Int32).toInt = 32 := rfl
        have m1 := mulI (a := Int32.ofNat (i / 32)) (b := 32) (by rw [ofI (by omega), z32]; omega) (by rw [ofI (by omega), z32]; omega)
        rw [ofI (by omega), z32] at m1
        rw [i_eq, subI (by rw [m1, ofI (by omega)]; omega) (by rw [m1, ofI (by omega)]; omega), m1, ofI (by omega), ofI (by omega)]
        omega
      have az : (0 : Int32) + Int32.ofNat (i / 32) = Int32.ofNat (i / 32) := by grind
      have tz : Int32.toNatClampNeg 0 = 0 := rfl
      have em : Int32.ofNat i + (-1) = Int32.ofNat i - 1 := by grind
      have zo : Int32.ofNat 0 = 0 := rfl
      rw [zo] at f1 h1
      have st : g_X14_divides__252_253_42 w (f + 1) 0 0 (Int32.ofNat (i + 1) - 1) M = rf_b (some (bi (D ≤ 2 * R + X / 2 ^ i % 2), stc (stc M 250 F2) 249 F3)) fun y3 m3 => (if y3 = 0 then g_X14_divides__252_253_139 w (g_X14_divides__252_253_42 w f) 0 0 (Int32.ofNat i) m3 else rf_bv (g_X14_adds__250_251 w m3 0 0) fun m4 => g_X14_divides__252_253_139 w (g_X14_divides__252_253_42 w f) 0 0 (Int32.ofNat i) (rf_i m4 249 (Int32.toNatClampNeg 0) ((m4.1 249 (Int32.toNatClampNeg 0)) ||| 1))) := by
        show g_X14_divides__252_253_42_b w (g_X14_divides__252_253_42 w f) _ _ _ M = _
        unfold g_X14_divides__252_253_42_b
        rw [ofm1', if_neg l0, f1, bv_sm, d32, az, gof (n := i / 32) (by omega) (by decide), g_t, tn_of (n := i / 32) (by omega), A1, tz, m32, stc_i2, stc_at, hF2, h1, bv_sm, nl, show R + R + X / 2 ^ i % 2 = 2 * R + X / 2 ^ i % 2 by omega]
      rw [st, b_sm]
      have o1 : ¬ (1 : Int32) = 0 := by decide
      unfold g_X14_divides__252_253_139
      rw [em]
      by_cases c : D ≤ 2 * R + X / 2 ^ i % 2
      · rw [bi_t c, if_neg o1]
        have N2 : (stc (stc M 250 F2) 249 F3).1 251 = M0.1 251 := by rw [stc_ne (by decide), stc_ne (by decide), g1 251 (by decide) (by decide)]
        obtain ⟨F5, k1, k2, k3⟩ := ad_250_251 (w := w) (m := stc (stc M 250 F2) 249 F3) (p := 0) (q := 0) (x := 2 * R + X / 2 ^ i % 2) (y := - D) (by decide) (by decide) (by rw [R2, show 2 * R + X / 2 ^ i % 2 = w6 F2 0 by omega]; exact wd_w6) (by rw [N2]; exact n0)
        have k4 := wd_nn k3 (by omega) (by omega)
        rw [zo] at k1
        rw [k1, bv_sm, tz, stc_ne (show 249 ≠ 250 by decide), stc_at]
        have or2 := w6_or (f := F3) (b := 1) (y := 1) (by rw [h4]; omega) ⟨Or.inr rfl, rfl⟩
        rw [h4] at or2
        have M5 : (rf_i (stc (stc (stc M 250 F2) 249 F3) 250 F5) 249 0 ((F3 0) ||| 1)).1 249 = pu F3 0 ((F3 0) ||| 1) := by rw [rf_i_c, if_pos rfl, stc_ne (by decide), stc_at]
        have M6 : (rf_i (stc (stc (stc M 250 F2) 249 F3) 250 F5) 249 0 ((F3 0) ||| 1)).1 250 = F5 := by rw [rf_i_c, if_neg (by decide), stc_at]
        exact ih f (rf_i (stc (stc (stc M 250 F2) 249 F3) 250 F5) 249 0 ((F3 0) ||| 1)) (2 * Q + 1) (2 * R + X / 2 ^ i % 2 - D) (by omega) (by omega) (fun z z1 z2 => by rw [rf_i_c, if_neg z1, stc_ne z2, stc_ne z1, stc_ne z2]; exact g1 z z1 z2) (by rw [rf_i_l]; exact g2) (by rw [M5, or2]; omega) (by rw [M6, k4]; omega) (by
          have : (2 * Q + 1) * D = 2 * (Q * D) + D := by grind
          omega) (by omega) (by omega) (by omega)
      · rw [bi_f c, if_pos rfl]
        exact ih f (stc (stc M 250 F2) 249 F3) (2 * Q) (2 * R + X / 2 ^ i % 2) (by omega) (by omega) (fun z z1 z2 => by rw [stc_ne z1, stc_ne z2]; exact g1 z z1 z2) g2 (by rw [stc_at, h4]; omega) (by rw [R2, or1]; omega) (by
          have : (2 * Q) * D = 2 * (Q * D) := by grind
          omega) (by omega) (by omega) (by omega)
  have xz : X / 2 ^ 192 = 0 * D + 0 := by
    have e : (2 : Int) ^ 192 = pW 6 := by decide
    rw [e, Int.ediv_eq_zero_of_lt rA.1 rA.2]
    omega
  have q00 := wd_nn q0 (by omega) (by omega)
  have r00 := wd_nn r0 (by omega) (by omega)
  obtain ⟨m', k1, k2, k3, k4, k5⟩ := key 192 FU M0 0 0 (by omega) (by omega) (fun _ _ _ => rfl) rfl q00 r00 xz (by omega) b0 (by omega)
  refine ⟨m', ?_, fun z h1 h2 h3 => by rw [k2 z h1 h2, o0 z h1 h2 h3], by rw [k3, o2], k4, k5⟩
  unfold g_X14_divides__252_253
  have zo : Int32.ofNat 0 = 0 := rfl
  have z191 : Int32.ofNat 192 - 1 = 191 := by decide
  rw [zo] at a1 c1 d1 e1
  rw [z191] at k1
  rw [a1, bv_sm, c1, bv_sm, d1, bv_sm, e1, bv_sm, hF, k1]
theorem dv_259_267 {w : rf_w} {m : rf_m} (b0 : 0 < w6 (m.1 267) 0) (b1 : w6 (m.1 267) 0 < 3138550867693340381917894711603833208051177722232017256448) : ∃ m', g_X14_divides__259_267 w m 0 0 = some m' ∧ (∀ z, z ≠ 249 → z ≠ 250 → z ≠ 251 → m'.1 z = m.1 z) ∧ m'.2 = m.2 ∧ w6 (m'.1 249) 0 = w6 (m.1 259) 0 / w6 (m.1 267) 0 ∧ w6 (m'.1 250) 0 = w6 (m.1 259) 0 % w6 (m.1 267) 0 := by
  obtain ⟨FU, hF, hFb⟩ := fuel_ex
  have p6 : pW 6 = 6277101735386680763835789423207666416102355444464034512896 := by decide
  obtain ⟨G1, a1, a2, a3⟩ := st_249 (w := w) (m := m) (p := 0) (v := 0) (by decide)
  obtain ⟨G2, c1, c2, c3⟩ := st_250 (w := w) (m := stc m 249 G1) (p := 0) (v := 0) (by decide)
  obtain ⟨G3, d1, d2, d3⟩ := cp_251_267 (w := w) (m := stc (stc m 249 G1) 250 G2) (p := 0) (q := 0) (x := w6 (m.1 267) 0) (by decide) (by decide) (by rw [stc_ne (by decide), stc_ne (by decide)]; exact wd_w6)
  obtain ⟨G4, e1, e2, e3⟩ := tn_251 (w := w) (m := stc (stc (stc m 249 G1) 250 G2) 251 G3) (p := 0) (x := w6 (m.1 267) 0) (by decide) (by rw [stc_at]; exact d3)
  generalize hM : stc (stc (stc (stc m 249 G1) 250 G2) 251 G3) 251 G4 = M0 at *
  have o0 : ∀ z, z ≠ 249 → z ≠ 250 → z ≠ 251 → M0.1 z = m.1 z := fun z h1 h2 h3 => by rw [← hM, stc_ne h3, stc_ne h3, stc_ne h2, stc_ne h1]
  have o2 : M0.2 = m.2 := by rw [← hM]; rfl
  have z0 : (0 : Int64).toInt = 0 := rfl
  rw [z0] at a3 c3
  have q0 : wd (M0.1 249) 0 0 := by rw [← hM, stc_ne (by decide), stc_ne (by decide), stc_ne (by decide), stc_at]; exact a3
  have r0 : wd (M0.1 250) 0 0 := by rw [← hM, stc_ne (by decide), stc_ne (by decide), stc_at]; exact c3
  have n0 : wd (M0.1 251) 0 (- w6 (m.1 267) 0) := by rw [← hM, stc_at]; exact e3
  have rA := w6_rng (f := m.1 259) (p := 0)
  generalize hBB : w6 (m.1 267) 0 = D at *
  generalize hAA : w6 (m.1 259) 0 = X at *
  have key : ∀ i f (M : rf_m) (Q R : Int), i ≤ 192 → i < f → (∀ z, z ≠ 249 → z ≠ 250 → M.1 z = M0.1 z) → M.2 = M0.2 → w6 (M.1 249) 0 = Q → w6 (M.1 250) 0 = R → X / 2 ^ i = Q * D + R → 0 ≤ R → R < D → 0 ≤ Q → ∃ m', g_X14_divides__259_267_42 w f 0 0 (Int32.ofNat i - 1) M = some m' ∧ (∀ z, z ≠ 249 → z ≠ 250 → m'.1 z = M0.1 z) ∧ m'.2 = M0.2 ∧ w6 (m'.1 249) 0 = X / D ∧ w6 (m'.1 250) 0 = X % D := by
    intro i
    induction i with
    | zero =>
      intro f M Q R _ hf g1 g2 g3 g4 g5 g6 g7 g8
      obtain ⟨f, rfl⟩ : ∃ g, f = g + 1 := ⟨f - 1, by omega⟩
      rw [Int.pow_zero, Int.ediv_one] at g5
      have uq : X / D = Q ∧ X % D = R := by
        have h1 : X / D = Q := by
          rw [g5, Int.add_comm, Int.mul_comm, Int.add_mul_ediv_left _ _ (by omega), Int.ediv_eq_zero_of_lt g6 g7, Int.zero_add]
        have h2 : X % D = R := by
          rw [g5, Int.add_comm, Int.mul_comm, Int.add_mul_emod_self_left, Int.emod_eq_of_lt g6 g7]
        exact ⟨h1, h2⟩
      refine ⟨M, ?_, g1, g2, by rw [g3, uq.1], by rw [g4, uq.2]⟩
      show g_X14_divides__259_267_42_b w _ _ _ _ M = _
      unfold g_X14_divides__259_267_42_b
      have l0 : Int32.ofNat 0 - 1 < 0 := by decide
      rw [if_pos l0]
    | succ i ih =>
      intro f M Q R hi hf g1 g2 g3 g4 g5 g6 g7 g8
      obtain ⟨f, rfl⟩ : ∃ g, f = g + 1 := ⟨f - 1, by omega⟩
      -- the next bit
      have bb := w6_bit (f := m.1 259) (i := i) (by omega)
      rw [hAA] at bb
      have hx : X / 2 ^ i = 2 * (X / 2 ^ (i + 1)) + X / 2 ^ i % 2 := half_s
      have b01 := Int.emod_two_eq (X / 2 ^ i)
      have q6 : Q * D ≤ X := by
        have h1 : X / 2 ^ (i + 1) ≤ X := Int.ediv_le_self _ rA.1
        omega
      have qD : Q ≤ Q * D := by
        have := Int.mul_le_mul_of_nonneg_left (show 1 ≤ D by omega) g8
        omega
      have hx2 : X / 2 ^ i ≤ X := Int.ediv_le_self _ rA.1
      have q2 : 2 * Q < pW 6 - 1 := by
        have h1 : 2 * (Q * D) ≤ X := by omega
        omega
      obtain ⟨F1, f1, f2, f3⟩ := ad_250_250 (w := w) (m := M) (p := 0) (x := R) (y := R) (by decide) (by rw [← g4]; exact wd_w6) (by rw [← g4]; exact wd_w6)
      have f4 := wd_nn f3 (by omega) (by omega)
      have A1 : (stc M 250 F1).1 259 = m.1 259 := by rw [stc_ne (by decide), g1 259 (by decide) (by decide), o0 259 (by decide) (by decide) (by decide)]
      -- the bit goes in
      have or1 := w6_or (f := F1) (b := X / 2 ^ i % 2) (y := ((Int32.toUInt32 (m.1 259 (i / 32)) >>> (Int32.toUInt32 (Int32.ofNat (i % 32)) &&& Int32.toUInt32 31)).toInt32) &&& 1) (by rw [f4]; omega) bb
      generalize hF2 : pu F1 0 ((F1 0) ||| (((Int32.toUInt32 (m.1 259 (i / 32)) >>> (Int32.toUInt32 (Int32.ofNat (i % 32)) &&& Int32.toUInt32 31)).toInt32) &&& 1)) = F2 at *
      rw [f4] at or1
      obtain ⟨F3, h1, h2, h3⟩ := ad_249_249 (w := w) (m := stc M 250 F2) (p := 0) (x := Q) (y := Q) (by decide) (by rw [stc_ne (by decide), ← g3]; exact wd_w6) (by rw [stc_ne (by decide), ← g3]; exact wd_w6)
      have h4 := wd_nn h3 (by omega) (by omega)
      have B2 : (stc (stc M 250 F2) 249 F3).1 267 = m.1 267 := by rw [stc_ne (by decide), stc_ne (by decide), g1 267 (by decide) (by decide), o0 267 (by decide) (by decide) (by decide)]
      have R2 : (stc (stc M 250 F2) 249 F3).1 250 = F2 := by rw [stc_ne (by decide), stc_at]
      have nl := nl_250_267 (w := w) (m := stc (stc M 250 F2) 249 F3)
      rw [B2, R2, hBB, or1] at nl
      have l0 : ¬ Int32.ofNat i < 0 := fun z => by rw [i_lt, i_0, ofI (by omega)] at z; omega
      have d32 : Int32.ofNat i / 32 = Int32.ofNat (i / 32) := by
        have z32 : (32 : Int32).toInt = 32 := rfl
        rw [i_eq, divI (by decide), ofI (by omega), ofI (by omega), z32, tdiv_nn (by omega) (by decide)]
        omega
      have m32 : Int32.ofNat i - Int32.ofNat (i / 32) * 32 = Int32.ofNat (i % 32) := by
        have z32 : (32 : Int32).toInt = 32 := rfl
        have m1 := mulI (a := Int32.ofNat (i / 32)) (b := 32) (by rw [ofI (by omega), z32]; omega) (by rw [ofI (by omega), z32]; omega)
        rw [ofI (by omega), z32] at m1
        rw [i_eq, subI (by rw [m1, ofI (by omega)]; omega) (by rw [m1, ofI (by omega)]; omega), m1, ofI (by omega), ofI (by omega)]
        omega
      have az : (0 : Int32) + Int32.ofNat (i / 32) = Int32.ofNat (i / 32) := by grind
      have tz : Int32.toNatClampNeg 0 = 0 := rfl
      have em : Int32.ofNat i + (-1) = Int32.ofNat i - 1 := by grind
      have zo : Int32.ofNat 0 = 0 := rfl
      rw [zo] at f1 h1
      have st : g_X14_divides__259_267_42 w (f + 1) 0 0 (Int32.ofNat (i + 1) - 1) M = rf_b (some (bi (D ≤ 2 * R + X / 2 ^ i % 2), stc (stc M 250 F2) 249 F3)) fun y3 m3 => (if y3 = 0 then g_X14_divides__259_267_139 w (g_X14_divides__259_267_42 w f) 0 0 (Int32.ofNat i) m3 else rf_bv (g_X14_adds__250_251 w m3 0 0) fun m4 => g_X14_divides__259_267_139 w (g_X14_divides__259_267_42 w f) 0 0 (Int32.ofNat i) (rf_i m4 249 (Int32.toNatClampNeg 0) ((m4.1 249 (Int32.toNatClampNeg 0)) ||| 1))) := by
        show g_X14_divides__259_267_42_b w (g_X14_divides__259_267_42 w f) _ _ _ M = _
        unfold g_X14_divides__259_267_42_b
        rw [ofm1', if_neg l0, f1, bv_sm, d32, az, gof (n := i / 32) (by omega) (by decide), g_t, tn_of (n := i / 32) (by omega), A1, tz, m32, stc_i2, stc_at, hF2, h1, bv_sm, nl, show R + R + X / 2 ^ i % 2 = 2 * R + X / 2 ^ i % 2 by omega]
      rw [st, b_sm]
      have o1 : ¬ (1 : Int32) = 0 := by decide
      unfold g_X14_divides__259_267_139
      rw [em]
      by_cases c : D ≤ 2 * R + X / 2 ^ i % 2
      · rw [bi_t c, if_neg o1]
        have N2 : (stc (stc M 250 F2) 249 F3).1 251 = M0.1 251 := by rw [stc_ne (by decide), stc_ne (by decide), g1 251 (by decide) (by decide)]
        obtain ⟨F5, k1, k2, k3⟩ := ad_250_251 (w := w) (m := stc (stc M 250 F2) 249 F3) (p := 0) (q := 0) (x := 2 * R + X / 2 ^ i % 2) (y := - D) (by decide) (by decide) (by rw [R2, show 2 * R + X / 2 ^ i % 2 = w6 F2 0 by omega]; exact wd_w6) (by rw [N2]; exact n0)
        have k4 := wd_nn k3 (by omega) (by omega)
        rw [zo] at k1
        rw [k1, bv_sm, tz, stc_ne (show 249 ≠ 250 by decide), stc_at]
        have or2 := w6_or (f := F3) (b := 1) (y := 1) (by rw [h4]; omega) ⟨Or.inr rfl, rfl⟩
        rw [h4] at or2
        have M5 : (rf_i (stc (stc (stc M 250 F2) 249 F3) 250 F5) 249 0 ((F3 0) ||| 1)).1 249 = pu F3 0 ((F3 0) ||| 1) := by rw [rf_i_c, if_pos rfl, stc_ne (by decide), stc_at]
        have M6 : (rf_i (stc (stc (stc M 250 F2) 249 F3) 250 F5) 249 0 ((F3 0) ||| 1)).1 250 = F5 := by rw [rf_i_c, if_neg (by decide), stc_at]
        exact ih f (rf_i (stc (stc (stc M 250 F2) 249 F3) 250 F5) 249 0 ((F3 0) ||| 1)) (2 * Q + 1) (2 * R + X / 2 ^ i % 2 - D) (by omega) (by omega) (fun z z1 z2 => by rw [rf_i_c, if_neg z1, stc_ne z2, stc_ne z1, stc_ne z2]; exact g1 z z1 z2) (by rw [rf_i_l]; exact g2) (by rw [M5, or2]; omega) (by rw [M6, k4]; omega) (by
          have : (2 * Q + 1) * D = 2 * (Q * D) + D := by grind
          omega) (by omega) (by omega) (by omega)
      · rw [bi_f c, if_pos rfl]
        exact ih f (stc (stc M 250 F2) 249 F3) (2 * Q) (2 * R + X / 2 ^ i % 2) (by omega) (by omega) (fun z z1 z2 => by rw [stc_ne z1, stc_ne z2]; exact g1 z z1 z2) g2 (by rw [stc_at, h4]; omega) (by rw [R2, or1]; omega) (by
          have : (2 * Q) * D = 2 * (Q * D) := by grind
          omega) (by omega) (by omega) (by omega)
  have xz : X / 2 ^ 192 = 0 * D + 0 := by
    have e : (2 : Int) ^ 192 = pW 6 := by decide
    rw [e, Int.ediv_eq_zero_of_lt rA.1 rA.2]
    omega
  have q00 := wd_nn q0 (by omega) (by omega)
  have r00 := wd_nn r0 (by omega) (by omega)
  obtain ⟨m', k1, k2, k3, k4, k5⟩ := key 192 FU M0 0 0 (by omega) (by omega) (fun _ _ _ => rfl) rfl q00 r00 xz (by omega) b0 (by omega)
  refine ⟨m', ?_, fun z h1 h2 h3 => by rw [k2 z h1 h2, o0 z h1 h2 h3], by rw [k3, o2], k4, k5⟩
  unfold g_X14_divides__259_267
  have zo : Int32.ofNat 0 = 0 := rfl
  have z191 : Int32.ofNat 192 - 1 = 191 := by decide
  rw [zo] at a1 c1 d1 e1
  rw [z191] at k1
  rw [a1, bv_sm, c1, bv_sm, d1, bv_sm, e1, bv_sm, hF, k1]
theorem dv_266_267 {w : rf_w} {m : rf_m} (b0 : 0 < w6 (m.1 267) 0) (b1 : w6 (m.1 267) 0 < 3138550867693340381917894711603833208051177722232017256448) : ∃ m', g_X14_divides__266_267 w m 0 0 = some m' ∧ (∀ z, z ≠ 249 → z ≠ 250 → z ≠ 251 → m'.1 z = m.1 z) ∧ m'.2 = m.2 ∧ w6 (m'.1 249) 0 = w6 (m.1 266) 0 / w6 (m.1 267) 0 ∧ w6 (m'.1 250) 0 = w6 (m.1 266) 0 % w6 (m.1 267) 0 := by
  obtain ⟨FU, hF, hFb⟩ := fuel_ex
  have p6 : pW 6 = 6277101735386680763835789423207666416102355444464034512896 := by decide
  obtain ⟨G1, a1, a2, a3⟩ := st_249 (w := w) (m := m) (p := 0) (v := 0) (by decide)
  obtain ⟨G2, c1, c2, c3⟩ := st_250 (w := w) (m := stc m 249 G1) (p := 0) (v := 0) (by decide)
  obtain ⟨G3, d1, d2, d3⟩ := cp_251_267 (w := w) (m := stc (stc m 249 G1) 250 G2) (p := 0) (q := 0) (x := w6 (m.1 267) 0) (by decide) (by decide) (by rw [stc_ne (by decide), stc_ne (by decide)]; exact wd_w6)
  obtain ⟨G4, e1, e2, e3⟩ := tn_251 (w := w) (m := stc (stc (stc m 249 G1) 250 G2) 251 G3) (p := 0) (x := w6 (m.1 267) 0) (by decide) (by rw [stc_at]; exact d3)
  generalize hM : stc (stc (stc (stc m 249 G1) 250 G2) 251 G3) 251 G4 = M0 at *
  have o0 : ∀ z, z ≠ 249 → z ≠ 250 → z ≠ 251 → M0.1 z = m.1 z := fun z h1 h2 h3 => by rw [← hM, stc_ne h3, stc_ne h3, stc_ne h2, stc_ne h1]
  have o2 : M0.2 = m.2 := by rw [← hM]; rfl
  have z0 : (0 : Int64).toInt = 0 := rfl
  rw [z0] at a3 c3
  have q0 : wd (M0.1 249) 0 0 := by rw [← hM, stc_ne (by decide), stc_ne (by decide), stc_ne (by decide), stc_at]; exact a3
  have r0 : wd (M0.1 250) 0 0 := by rw [← hM, stc_ne (by decide), stc_ne (by decide), stc_at]; exact c3
  have n0 : wd (M0.1 251) 0 (- w6 (m.1 267) 0) := by rw [← hM, stc_at]; exact e3
  have rA := w6_rng (f := m.1 266) (p := 0)
  generalize hBB : w6 (m.1 267) 0 = D at *
  generalize hAA : w6 (m.1 266) 0 = X at *
  have key : ∀ i f (M : rf_m) (Q R : Int), i ≤ 192 → i < f → (∀ z, z ≠ 249 → z ≠ 250 → M.1 z = M0.1 z) → M.2 = M0.2 → w6 (M.1 249) 0 = Q → w6 (M.1 250) 0 = R → X / 2 ^ i = Q * D + R → 0 ≤ R → R < D → 0 ≤ Q → ∃ m', g_X14_divides__266_267_42 w f 0 0 (Int32.ofNat i - 1) M = some m' ∧ (∀ z, z ≠ 249 → z ≠ 250 → m'.1 z = M0.1 z) ∧ m'.2 = M0.2 ∧ w6 (m'.1 249) 0 = X / D ∧ w6 (m'.1 250) 0 = X % D := by
    intro i
    induction i with
    | zero =>
      intro f M Q R _ hf g1 g2 g3 g4 g5 g6 g7 g8
      obtain ⟨f, rfl⟩ : ∃ g, f = g + 1 := ⟨f - 1, by omega⟩
      rw [Int.pow_zero, Int.ediv_one] at g5
      have uq : X / D = Q ∧ X % D = R := by
        have h1 : X / D = Q := by
          rw [g5, Int.add_comm, Int.mul_comm, Int.add_mul_ediv_left _ _ (by omega), Int.ediv_eq_zero_of_lt g6 g7, Int.zero_add]
        have h2 : X % D = R := by
          rw [g5, Int.add_comm, Int.mul_comm, Int.add_mul_emod_self_left, Int.emod_eq_of_lt g6 g7]
        exact ⟨h1, h2⟩
      refine ⟨M, ?_, g1, g2, by rw [g3, uq.1], by rw [g4, uq.2]⟩
      show g_X14_divides__266_267_42_b w _ _ _ _ M = _
      unfold g_X14_divides__266_267_42_b
      have l0 : Int32.ofNat 0 - 1 < 0 := by decide
      rw [if_pos l0]
    | succ i ih =>
      intro f M Q R hi hf g1 g2 g3 g4 g5 g6 g7 g8
      obtain ⟨f, rfl⟩ : ∃ g, f = g + 1 := ⟨f - 1, by omega⟩
      -- the next bit
      have bb := w6_bit (f := m.1 266) (i := i) (by omega)
      rw [hAA] at bb
      have hx : X / 2 ^ i = 2 * (X / 2 ^ (i + 1)) + X / 2 ^ i % 2 := half_s
      have b01 := Int.emod_two_eq (X / 2 ^ i)
      have q6 : Q * D ≤ X := by
        have h1 : X / 2 ^ (i + 1) ≤ X := Int.ediv_le_self _ rA.1
        omega
      have qD : Q ≤ Q * D := by
        have := Int.mul_le_mul_of_nonneg_left (show 1 ≤ D by omega) g8
        omega
      have hx2 : X / 2 ^ i ≤ X := Int.ediv_le_self _ rA.1
      have q2 : 2 * Q < pW 6 - 1 := by
        have h1 : 2 * (Q * D) ≤ X := by omega
        omega
      obtain ⟨F1, f1, f2, f3⟩ := ad_250_250 (w := w) (m := M) (p := 0) (x := R) (y := R) (by decide) (by rw [← g4]; exact wd_w6) (by rw [← g4]; exact wd_w6)
      have f4 := wd_nn f3 (by omega) (by omega)
      have A1 : (stc M 250 F1).1 266 = m.1 266 := by rw [stc_ne (by decide), g1 266 (by decide) (by decide), o0 266 (by decide) (by decide) (by decide)]
      -- the bit goes in
      have or1 := w6_or (f := F1) (b := X / 2 ^ i % 2) (y := ((Int32.toUInt32 (m.1 266 (i / 32)) >>> (Int32.toUInt32 (Int32.ofNat (i % 32)) &&& Int32.toUInt32 31)).toInt32) &&& 1) (by rw [f4]; omega) bb
      generalize hF2 : pu F1 0 ((F1 0) ||| (((Int32.toUInt32 (m.1 266 (i / 32)) >>> (Int32.toUInt32 (Int32.ofNat (i % 32)) &&& Int32.toUInt32 31)).toInt32) &&& 1)) = F2 at *
      rw [f4] at or1
      obtain ⟨F3, h1, h2, h3⟩ := ad_249_249 (w := w) (m := stc M 250 F2) (p := 0) (x := Q) (y := Q) (by decide) (by rw [stc_ne (by decide), ← g3]; exact wd_w6) (by rw [stc_ne (by decide), ← g3]; exact wd_w6)
      have h4 := wd_nn h3 (by omega) (by omega)
      have B2 : (stc (stc M 250 F2) 249 F3).1 267 = m.1 267 := by rw [stc_ne (by decide), stc_ne (by decide), g1 267 (by decide) (by decide), o0 267 (by decide) (by decide) (by decide)]
      have R2 : (stc (stc M 250 F2) 249 F3).1 250 = F2 := by rw [stc_ne (by decide), stc_at]
      have nl := nl_250_267 (w := w) (m := stc (stc M 250 F2) 249 F3)
      rw [B2, R2, hBB, or1] at nl
      have l0 : ¬ Int32.ofNat i < 0 := fun z => by rw [i_lt, i_0, ofI (by omega)] at z; omega
      have d32 : Int32.ofNat i / 32 = Int32.ofNat (i / 32) := by
        have z32 : (32 : Int32).toInt = 32 := rfl
        rw [i_eq, divI (by decide), ofI (by omega), ofI (by omega), z32, tdiv_nn (by omega) (by decide)]
        omega
      have m32 : Int32.ofNat i - Int32.ofNat (i / 32) * 32 = Int32.ofNat (i % 32) := by
        have z32 : (32 : Int32).toInt = 32 := rfl
        have m1 := mulI (a := Int32.ofNat (i / 32)) (b := 32) (by rw [ofI (by omega), z32]; omega) (by rw [ofI (by omega), z32]; omega)
        rw [ofI (by omega), z32] at m1
        rw [i_eq, subI (by rw [m1, ofI (by omega)]; omega) (by rw [m1, ofI (by omega)]; omega), m1, ofI (by omega), ofI (by omega)]
        omega
      have az : (0 : Int32) + Int32.ofNat (i / 32) = Int32.ofNat (i / 32) := by grind
      have tz : Int32.toNatClampNeg 0 = 0 := rfl
      have em : Int32.ofNat i + (-1) = Int32.ofNat i - 1 := by grind
      have zo : Int32.ofNat 0 = 0 := rfl
      rw [zo] at f1 h1
      have st : g_X14_divides__266_267_42 w (f + 1) 0 0 (Int32.ofNat (i + 1) - 1) M = rf_b (some (bi (D ≤ 2 * R + X / 2 ^ i % 2), stc (stc M 250 F2) 249 F3)) fun y3 m3 => (if y3 = 0 then g_X14_divides__266_267_139 w (g_X14_divides__266_267_42 w f) 0 0 (Int32.ofNat i) m3 else rf_bv (g_X14_adds__250_251 w m3 0 0) fun m4 => g_X14_divides__266_267_139 w (g_X14_divides__266_267_42 w f) 0 0 (Int32.ofNat i) (rf_i m4 249 (Int32.toNatClampNeg 0) ((m4.1 249 (Int32.toNatClampNeg 0)) ||| 1))) := by
        show g_X14_divides__266_267_42_b w (g_X14_divides__266_267_42 w f) _ _ _ M = _
        unfold g_X14_divides__266_267_42_b
        rw [ofm1', if_neg l0, f1, bv_sm, d32, az, gof (n := i / 32) (by omega) (by decide), g_t, tn_of (n := i / 32) (by omega), A1, tz, m32, stc_i2, stc_at, hF2, h1, bv_sm, nl, show R + R + X / 2 ^ i % 2 = 2 * R + X / 2 ^ i % 2 by omega]
      rw [st, b_sm]
      have o1 : ¬ (1 : Int32) = 0 := by decide
      unfold g_X14_divides__266_267_139
      rw [em]
      by_cases c : D ≤ 2 * R + X / 2 ^ i % 2
      · rw [bi_t c, if_neg o1]
        have N2 : (stc (stc M 250 F2) 249 F3).1 251 = M0.1 251 := by rw [stc_ne (by decide), stc_ne (by decide), g1 251 (by decide) (by decide)]
        obtain ⟨F5, k1, k2, k3⟩ := ad_250_251 (w := w) (m := stc (stc M 250 F2) 249 F3) (p := 0) (q := 0) (x := 2 * R + X / 2 ^ i % 2) (y := - D) (by decide) (by decide) (by rw [R2, show 2 * R + X / 2 ^ i % 2 = w6 F2 0 by omega]; exact wd_w6) (by rw [N2]; exact n0)
        have k4 := wd_nn k3 (by omega) (by omega)
        rw [zo] at k1
        rw [k1, bv_sm, tz, stc_ne (show 249 ≠ 250 by decide), stc_at]
        have or2 := w6_or (f := F3) (b := 1) (y := 1) (by rw [h4]; omega) ⟨Or.inr rfl, rfl⟩
        rw [h4] at or2
        have M5 : (rf_i (stc (stc (stc M 250 F2) 249 F3) 250 F5) 249 0 ((F3 0) ||| 1)).1 249 = pu F3 0 ((F3 0) ||| 1) := by rw [rf_i_c, if_pos rfl, stc_ne (by decide), stc_at]
        have M6 : (rf_i (stc (stc (stc M 250 F2) 249 F3) 250 F5) 249 0 ((F3 0) ||| 1)).1 250 = F5 := by rw [rf_i_c, if_neg (by decide), stc_at]
        exact ih f (rf_i (stc (stc (stc M 250 F2) 249 F3) 250 F5) 249 0 ((F3 0) ||| 1)) (2 * Q + 1) (2 * R + X / 2 ^ i % 2 - D) (by omega) (by omega) (fun z z1 z2 => by rw [rf_i_c, if_neg z1, stc_ne z2, stc_ne z1, stc_ne z2]; exact g1 z z1 z2) (by rw [rf_i_l]; exact g2) (by rw [M5, or2]; omega) (by rw [M6, k4]; omega) (by
          have : (2 * Q + 1) * D = 2 * (Q * D) + D := by grind
          omega) (by omega) (by omega) (by omega)
      · rw [bi_f c, if_pos rfl]
        exact ih f (stc (stc M 250 F2) 249 F3) (2 * Q) (2 * R + X / 2 ^ i % 2) (by omega) (by omega) (fun z z1 z2 => by rw [stc_ne z1, stc_ne z2]; exact g1 z z1 z2) g2 (by rw [stc_at, h4]; omega) (by rw [R2, or1]; omega) (by
          have : (2 * Q) * D = 2 * (Q * D) := by grind
          omega) (by omega) (by omega) (by omega)
  have xz : X / 2 ^ 192 = 0 * D + 0 := by
    have e : (2 : Int) ^ 192 = pW 6 := by decide
    rw [e, Int.ediv_eq_zero_of_lt rA.1 rA.2]
    omega
  have q00 := wd_nn q0 (by omega) (by omega)
  have r00 := wd_nn r0 (by omega) (by omega)
  obtain ⟨m', k1, k2, k3, k4, k5⟩ := key 192 FU M0 0 0 (by omega) (by omega) (fun _ _ _ => rfl) rfl q00 r00 xz (by omega) b0 (by omega)
  refine ⟨m', ?_, fun z h1 h2 h3 => by rw [k2 z h1 h2, o0 z h1 h2 h3], by rw [k3, o2], k4, k5⟩
  unfold g_X14_divides__266_267
  have zo : Int32.ofNat 0 = 0 := rfl
  have z191 : Int32.ofNat 192 - 1 = 191 := by decide
  rw [zo] at a1 c1 d1 e1
  rw [z191] at k1
  rw [a1, bv_sm, c1, bv_sm, d1, bv_sm, e1, bv_sm, hF, k1]
theorem dv_267_266 {w : rf_w} {m : rf_m} (b0 : 0 < w6 (m.1 266) 0) (b1 : w6 (m.1 266) 0 < 3138550867693340381917894711603833208051177722232017256448) : ∃ m', g_X14_divides__267_266 w m 0 0 = some m' ∧ (∀ z, z ≠ 249 → z ≠ 250 → z ≠ 251 → m'.1 z = m.1 z) ∧ m'.2 = m.2 ∧ w6 (m'.1 249) 0 = w6 (m.1 267) 0 / w6 (m.1 266) 0 ∧ w6 (m'.1 250) 0 = w6 (m.1 267) 0 % w6 (m.1 266) 0 := by
  obtain ⟨FU, hF, hFb⟩ := fuel_ex
  have p6 : pW 6 = 6277101735386680763835789423207666416102355444464034512896 := by decide
  obtain ⟨G1, a1, a2, a3⟩ := st_249 (w := w) (m := m) (p := 0) (v := 0) (by decide)
  obtain ⟨G2, c1, c2, c3⟩ := st_250 (w := w) (m := stc m 249 G1) (p := 0) (v := 0) (by decide)
  obtain ⟨G3, d1, d2, d3⟩ := cp_251_266 (w := w) (m := stc (stc m 249 G1) 250 G2) (p := 0) (q := 0) (x := w6 (m.1 266) 0) (by decide) (by decide) (by rw [stc_ne (by decide), stc_ne (by decide)]; exact wd_w6)
  obtain ⟨G4, e1, e2, e3⟩ := tn_251 (w := w) (m := stc (stc (stc m 249 G1) 250 G2) 251 G3) (p := 0) (x := w6 (m.1 266) 0) (by decide) (by rw [stc_at]; exact d3)
  generalize hM : stc (stc (stc (stc m 249 G1) 250 G2) 251 G3) 251 G4 = M0 at *
  have o0 : ∀ z, z ≠ 249 → z ≠ 250 → z ≠ 251 → M0.1 z = m.1 z := fun z h1 h2 h3 => by rw [← hM, stc_ne h3, stc_ne h3, stc_ne h2, stc_ne h1]
  have o2 : M0.2 = m.2 := by rw [← hM]; rfl
  have z0 : (0 : Int64).toInt = 0 := rfl
  rw [z0] at a3 c3
  have q0 : wd (M0.1 249) 0 0 := by rw [← hM, stc_ne (by decide), stc_ne (by decide), stc_ne (by decide), stc_at]; exact a3
  have r0 : wd (M0.1 250) 0 0 := by rw [← hM, stc_ne (by decide), stc_ne (by decide), stc_at]; exact c3
  have n0 : wd (M0.1 251) 0 (- w6 (m.1 266) 0) := by rw [← hM, stc_at]; exact e3
  have rA := w6_rng (f := m.1 267) (p := 0)
  generalize hBB : w6 (m.1 266) 0 = D at *
  generalize hAA : w6 (m.1 267) 0 = X at *
  have key : ∀ i f (M : rf_m) (Q R : Int), i ≤ 192 → i < f → (∀ z, z ≠ 249 → z ≠ 250 → M.1 z = M0.1 z) → M.2 = M0.2 → w6 (M.1 249) 0 = Q → w6 (M.1 250) 0 = R → X / 2 ^ i = Q * D + R → 0 ≤ R → R < D → 0 ≤ Q → ∃ m', g_X14_divides__267_266_42 w f 0 0 (Int32.ofNat i - 1) M = some m' ∧ (∀ z, z ≠ 249 → z ≠ 250 → m'.1 z = M0.1 z) ∧ m'.2 = M0.2 ∧ w6 (m'.1 249) 0 = X / D ∧ w6 (m'.1 250) 0 = X % D := by
    intro i
    induction i with
    | zero =>
      intro f M Q R _ hf g1 g2 g3 g4 g5 g6 g7 g8
      obtain ⟨f, rfl⟩ : ∃ g, f = g + 1 := ⟨f - 1, by omega⟩
      rw [Int.pow_zero, Int.ediv_one] at g5
      have uq : X / D = Q ∧ X % D = R := by
        have h1 : X / D = Q := by
          rw [g5, Int.add_comm, Int.mul_comm, Int.add_mul_ediv_left _ _ (by omega), Int.ediv_eq_zero_of_lt g6 g7, Int.zero_add]
        have h2 : X % D = R := by
          rw [g5, Int.add_comm, Int.mul_comm, Int.add_mul_emod_self_left, Int.emod_eq_of_lt g6 g7]
        exact ⟨h1, h2⟩
      refine ⟨M, ?_, g1, g2, by rw [g3, uq.1], by rw [g4, uq.2]⟩
      show g_X14_divides__267_266_42_b w _ _ _ _ M = _
      unfold g_X14_divides__267_266_42_b
      have l0 : Int32.ofNat 0 - 1 < 0 := by decide
      rw [if_pos l0]
    | succ i ih =>
      intro f M Q R hi hf g1 g2 g3 g4 g5 g6 g7 g8
      obtain ⟨f, rfl⟩ : ∃ g, f = g + 1 := ⟨f - 1, by omega⟩
      -- the next bit
      have bb := w6_bit (f := m.1 267) (i := i) (by omega)
      rw [hAA] at bb
      have hx : X / 2 ^ i = 2 * (X / 2 ^ (i + 1)) + X / 2 ^ i % 2 := half_s
      have b01 := Int.emod_two_eq (X / 2 ^ i)
      have q6 : Q * D ≤ X := by
        have h1 : X / 2 ^ (i + 1) ≤ X := Int.ediv_le_self _ rA.1
        omega
      have qD : Q ≤ Q * D := by
        have := Int.mul_le_mul_of_nonneg_left (show 1 ≤ D by omega) g8
        omega
      have hx2 : X / 2 ^ i ≤ X := Int.ediv_le_self _ rA.1
      have q2 : 2 * Q < pW 6 - 1 := by
        have h1 : 2 * (Q * D) ≤ X := by omega
        omega
      obtain ⟨F1, f1, f2, f3⟩ := ad_250_250 (w := w) (m := M) (p := 0) (x := R) (y := R) (by decide) (by rw [← g4]; exact wd_w6) (by rw [← g4]; exact wd_w6)
      have f4 := wd_nn f3 (by omega) (by omega)
      have A1 : (stc M 250 F1).1 267 = m.1 267 := by rw [stc_ne (by decide), g1 267 (by decide) (by decide), o0 267 (by decide) (by decide) (by decide)]
      -- the bit goes in
      have or1 := w6_or (f := F1) (b := X / 2 ^ i % 2) (y := ((Int32.toUInt32 (m.1 267 (i / 32)) >>> (Int32.toUInt32 (Int32.ofNat (i % 32)) &&& Int32.toUInt32 31)).toInt32) &&& 1) (by rw [f4]; omega) bb
      generalize hF2 : pu F1 0 ((F1 0) ||| (((Int32.toUInt32 (m.1 267 (i / 32)) >>> (Int32.toUInt32 (Int32.ofNat (i % 32)) &&& Int32.toUInt32 31)).toInt32) &&& 1)) = F2 at *
      rw [f4] at or1
      obtain ⟨F3, h1, h2, h3⟩ := ad_249_249 (w := w) (m := stc M 250 F2) (p := 0) (x := Q) (y := Q) (by decide) (by rw [stc_ne (by decide), ← g3]; exact wd_w6) (by rw [stc_ne (by decide), ← g3]; exact wd_w6)
      have h4 := wd_nn h3 (by omega) (by omega)
      have B2 : (stc (stc M 250 F2) 249 F3).1 266 = m.1 266 := by rw [stc_ne (by decide), stc_ne (by decide), g1 266 (by decide) (by decide), o0 266 (by decide) (by decide) (by decide)]
      have R2 : (stc (stc M 250 F2) 249 F3).1 250 = F2 := by rw [stc_ne (by decide), stc_at]
      have nl := nl_250_266 (w := w) (m := stc (stc M 250 F2) 249 F3)
      rw [B2, R2, hBB, or1] at nl
      have l0 : ¬ Int32.ofNat i < 0 := fun z => by rw [i_lt, i_0, ofI (by omega)] at z; omega
      have d32 : Int32.ofNat i / 32 = Int32.ofNat (i / 32) := by
        have z32 : (32 : Int32).toInt = 32 := rfl
        rw [i_eq, divI (by decide), ofI (by omega), ofI (by omega), z32, tdiv_nn (by omega) (by decide)]
        omega
      have m32 : Int32.ofNat i - Int32.ofNat (i / 32) * 32 = Int32.ofNat (i % 32) := by
        have z32 : (32 : Int32).toInt = 32 := rfl
        have m1 := mulI (a := Int32.ofNat (i / 32)) (b := 32) (by rw [ofI (by omega), z32]; omega) (by rw [ofI (by omega), z32]; omega)
        rw [ofI (by omega), z32] at m1
        rw [i_eq, subI (by rw [m1, ofI (by omega)]; omega) (by rw [m1, ofI (by omega)]; omega), m1, ofI (by omega), ofI (by omega)]
        omega
      have az : (0 : Int32) + Int32.ofNat (i / 32) = Int32.ofNat (i / 32) := by grind
      have tz : Int32.toNatClampNeg 0 = 0 := rfl
      have em : Int32.ofNat i + (-1) = Int32.ofNat i - 1 := by grind
      have zo : Int32.ofNat 0 = 0 := rfl
      rw [zo] at f1 h1
      have st : g_X14_divides__267_266_42 w (f + 1) 0 0 (Int32.ofNat (i + 1) - 1) M = rf_b (some (bi (D ≤ 2 * R + X / 2 ^ i % 2), stc (stc M 250 F2) 249 F3)) fun y3 m3 => (if y3 = 0 then g_X14_divides__267_266_139 w (g_X14_divides__267_266_42 w f) 0 0 (Int32.ofNat i) m3 else rf_bv (g_X14_adds__250_251 w m3 0 0) fun m4 => g_X14_divides__267_266_139 w (g_X14_divides__267_266_42 w f) 0 0 (Int32.ofNat i) (rf_i m4 249 (Int32.toNatClampNeg 0) ((m4.1 249 (Int32.toNatClampNeg 0)) ||| 1))) := by
        show g_X14_divides__267_266_42_b w (g_X14_divides__267_266_42 w f) _ _ _ M = _
        unfold g_X14_divides__267_266_42_b
        rw [ofm1', if_neg l0, f1, bv_sm, d32, az, gof (n := i / 32) (by omega) (by decide), g_t, tn_of (n := i / 32) (by omega), A1, tz, m32, stc_i2, stc_at, hF2, h1, bv_sm, nl, show R + R + X / 2 ^ i % 2 = 2 * R + X / 2 ^ i % 2 by omega]
      rw [st, b_sm]
      have o1 : ¬ (1 : Int32) = 0 := by decide
      unfold g_X14_divides__267_266_139
      rw [em]
      by_cases c : D ≤ 2 * R + X / 2 ^ i % 2
      · rw [bi_t c, if_neg o1]
        have N2 : (stc (stc M 250 F2) 249 F3).1 251 = M0.1 251 := by rw [stc_ne (by decide), stc_ne (by decide), g1 251 (by decide) (by decide)]
        obtain ⟨F5, k1, k2, k3⟩ := ad_250_251 (w := w) (m := stc (stc M 250 F2) 249 F3) (p := 0) (q := 0) (x := 2 * R + X / 2 ^ i % 2) (y := - D) (by decide) (by decide) (by rw [R2, show 2 * R + X / 2 ^ i % 2 = w6 F2 0 by omega]; exact wd_w6) (by rw [N2]; exact n0)
        have k4 := wd_nn k3 (by omega) (by omega)
        rw [zo] at k1
        rw [k1, bv_sm, tz, stc_ne (show 249 ≠ 250 by decide), stc_at]
        have or2 := w6_or (f := F3) (b := 1) (y := 1) (by rw [h4]; omega) ⟨Or.inr rfl, rfl⟩
        rw [h4] at or2
        have M5 : (rf_i (stc (stc (stc M 250 F2) 249 F3) 250 F5) 249 0 ((F3 0) ||| 1)).1 249 = pu F3 0 ((F3 0) ||| 1) := by rw [rf_i_c, if_pos rfl, stc_ne (by decide), stc_at]
        have M6 : (rf_i (stc (stc (stc M 250 F2) 249 F3) 250 F5) 249 0 ((F3 0) ||| 1)).1 250 = F5 := by rw [rf_i_c, if_neg (by decide), stc_at]
        exact ih f (rf_i (stc (stc (stc M 250 F2) 249 F3) 250 F5) 249 0 ((F3 0) ||| 1)) (2 * Q + 1) (2 * R + X / 2 ^ i % 2 - D) (by omega) (by omega) (fun z z1 z2 => by rw [rf_i_c, if_neg z1, stc_ne z2, stc_ne z1, stc_ne z2]; exact g1 z z1 z2) (by rw [rf_i_l]; exact g2) (by rw [M5, or2]; omega) (by rw [M6, k4]; omega) (by
          have : (2 * Q + 1) * D = 2 * (Q * D) + D := by grind
          omega) (by omega) (by omega) (by omega)
      · rw [bi_f c, if_pos rfl]
        exact ih f (stc (stc M 250 F2) 249 F3) (2 * Q) (2 * R + X / 2 ^ i % 2) (by omega) (by omega) (fun z z1 z2 => by rw [stc_ne z1, stc_ne z2]; exact g1 z z1 z2) g2 (by rw [stc_at, h4]; omega) (by rw [R2, or1]; omega) (by
          have : (2 * Q) * D = 2 * (Q * D) := by grind
          omega) (by omega) (by omega) (by omega)
  have xz : X / 2 ^ 192 = 0 * D + 0 := by
    have e : (2 : Int) ^ 192 = pW 6 := by decide
    rw [e, Int.ediv_eq_zero_of_lt rA.1 rA.2]
    omega
  have q00 := wd_nn q0 (by omega) (by omega)
  have r00 := wd_nn r0 (by omega) (by omega)
  obtain ⟨m', k1, k2, k3, k4, k5⟩ := key 192 FU M0 0 0 (by omega) (by omega) (fun _ _ _ => rfl) rfl q00 r00 xz (by omega) b0 (by omega)
  refine ⟨m', ?_, fun z h1 h2 h3 => by rw [k2 z h1 h2, o0 z h1 h2 h3], by rw [k3, o2], k4, k5⟩
  unfold g_X14_divides__267_266
  have zo : Int32.ofNat 0 = 0 := rfl
  have z191 : Int32.ofNat 192 - 1 = 191 := by decide
  rw [zo] at a1 c1 d1 e1
  rw [z191] at k1
  rw [a1, bv_sm, c1, bv_sm, d1, bv_sm, e1, bv_sm, hF, k1]
end PBWordsI
