/-! an angle -/
section PBAngle
theorem bas_c {m m1 : rf_m} (h : bas m m1) (c : Nat) (hc : c < 18 ∨ (19 ≤ c ∧ c ≤ 24) ∨ (26 ≤ c ∧ c ≤ 30) ∨ c = 33 ∨ (36 ≤ c ∧ c ≤ 39) ∨ 41 ≤ c) : m1.1 c = m.1 c := h.1 c (by omega) (by omega) (by omega) (by omega) (by omega) (by omega) (by omega)
theorem bas_keep {m m1 : rf_m} (h : bas m m1) : keep m m1 :=
  ⟨fun c hc => bas_c h c (by omega), fun k _ => by rw [bas_c h 26 (by omega)], fun k _ => by rw [bas_c h 206 (by omega)], h.2.1, h.2.2⟩
theorem bas_18 {m m1 m' : rf_m} (h : bas m m1) (e : ∀ c, c ≠ 18 → m'.1 c = m1.1 c) : bas m m' :=
  ⟨fun c h1 h2 h3 h4 h5 h6 h7 => by rw [e c h1]; exact h.1 c h1 h2 h3 h4 h5 h6 h7, fun r hr k hk => by rw [e 32 (by decide)]; exact h.2.1 r hr k hk, fun a ha => by rw [e 34 (by decide)]; exact h.2.2 a ha⟩
theorem frB_18 {w : rf_w} {m m1 m' : rf_m} (h : frB w m m1) (e : ∀ c, c ≠ 18 → m'.1 c = m1.1 c) : frB w m m' :=
  ⟨bas_18 h.1 e, fun a ha hz => fre_of (h.2 a ha (by rw [← e 40 (by decide)]; exact hz)) (e 31 (by decide)) (e 32 (by decide)) (e 34 (by decide))⟩
theorem keep_18 {m m1 m' : rf_m} (h : keep m m1) (e : ∀ c, c ≠ 18 → m'.1 c = m1.1 c) : keep m m' :=
  ⟨fun c hc => by rw [e c (by omega)]; exact h.1 c hc, fun k hk => by rw [e 26 (by decide)]; exact h.2.1 k hk, fun k hk => by rw [e 206 (by decide)]; exact h.2.2.1 k hk, fun r hr k hk => by rw [e 32 (by decide)]; exact h.2.2.2.1 r hr k hk, fun a ha => by rw [e 34 (by decide)]; exact h.2.2.2.2 a ha⟩
theorem wgtV_m {m m1 : rf_m} {N : Nat → Int32} {d : Int32} (h : keep m m1) : wgtV m1 N d = wgtV m N d := by
  unfold wgtV dueP tstP tv totV
  rw [h.1 19 (by omega), h.1 20 (by omega), h.1 21 (by omega), h.1 22 (by omega), h.1 23 (by omega), h.1 24 (by omega), h.2.2.1 39 (by omega)]
theorem agnV_m {m m1 : rf_m} {N : Nat → Int32} {d : Int32} (h : keep m m1) : agnV m1 N d = agnV m N d := by
  unfold agnV dueP tstP
  rw [h.1 19 (by omega), h.1 20 (by omega), h.1 21 (by omega), h.1 22 (by omega), h.1 23 (by omega), h.1 24 (by omega), h.2.2.1 39 (by omega)]
theorem nok_of {f g : Nat → Int32} (h : nok g) (e : ∀ k, k < 7 → f k = g k) : nok f := fun i hi => by rw [e i hi]; exact h i hi
theorem weightOf_c {c a : Nat} {w : rf_w} {m m1 : rf_m} {d : Int32} (J : JCnt c w m) (ha : a < (m.1 206 16).toNatClampNeg) (h : keep m m1) (ht : tal w m m1 9999 a) : ∃ m', g_X3_weightOf w m1 (Int32.ofNat a) d = some (wgtV m (nwV w m a) d, m') ∧ ∀ c, c ≠ 18 → m'.1 c = m1.1 c := by
  obtain ⟨f, f1, f2⟩ := layOut_c J ha ht (h.1 28 (by omega))
  have e : ∀ c, c ≠ 18 → (stc m1 18 f).1 c = m1.1 c := fun c hc => by rw [stc_c, if_neg hc]
  have hb := keep_18 h e
  have e18 : (stc m1 18 f).1 18 = f := rfl
  obtain ⟨F, hF⟩ := weight_c (w := w) (m := stc m1 18 f) (d := d) (keep_rule hb J.2.2.2.1) (by rw [e18]; exact nok_of (nw_ok J ha) f2)
  unfold g_X3_weightOf
  rw [f1]
  simp only [rf_bv]
  rw [hF, e18, wgtV_m hb, wgtV_N f2]
  exact ⟨stl (stc m1 18 f) 25 F, rfl, e⟩
noncomputable def agV (w : rf_w) (m : rf_m) (a : Nat) : Int32 := if (kpt w m 9999 a).length = 0 then 1 else agnV m (nwV w m a) (m.1 206 5)
theorem fst01 {P : Nat → Prop} : ∀ n i, fstV P (fun _ => 1) 0 n i = 0 ∨ fstV P (fun _ => 1) 0 n i = 1 := by
  intro n
  induction n with
  | zero => intro i; exact Or.inl rfl
  | succ n ih =>
    intro i
    by_cases h : P i
    · rw [fstV_t h]; exact Or.inr rfl
    · rw [fstV_f h]; exact ih (i + 1)
theorem agV01 {w : rf_w} {m : rf_m} {a : Nat} : agV w m a = 0 ∨ agV w m a = 1 := by
  unfold agV
  by_cases z : (kpt w m 9999 a).length = 0
  · rw [if_pos z]; exact Or.inr rfl
  · rw [if_neg z]; unfold agnV; exact fst01 _ _
theorem isAgain_c {c a : Nat} {w : rf_w} {m m1 : rf_m} (J : JCnt c w m) (ha : a < (m.1 206 16).toNatClampNeg) (h : keep m m1) (ht : tal w m m1 9999 a) : ∃ m', g_X3_isAgain w m1 (Int32.ofNat a) (m.1 206 5) = some (agV w m a, m') ∧ ∀ c, c ≠ 18 → m'.1 c = m1.1 c := by
  have h80 := ang80 J.2.2.2.2.1
  have hk20 := (kpt_in (a := a) (d := 9999) J).2 (by omega)
  obtain ⟨f, f1, f2⟩ := layOut_c J ha ht (h.1 28 (by omega))
  have e : ∀ c, c ≠ 18 → (stc m1 18 f).1 c = m1.1 c := fun c hc => by rw [stc_c, if_neg hc]
  have hb := keep_18 h e
  have e18 : (stc m1 18 f).1 18 = f := rfl
  obtain ⟨F, hF⟩ := again_c (w := w) (m := stc m1 18 f) (d := m.1 206 5) (keep_rule hb J.2.2.2.1) (by rw [e18]; exact nok_of (nw_ok J ha) f2)
  have e4 : Int32.ofNat a * 9 + 4 = Int32.ofNat (9 * a + 4) := a9_6 (by omega) 4 (by omega)
  have s34 : (stc m1 18 f).1 34 = m1.1 34 := rfl
  unfold g_X3_isAgain
  rw [f1]
  simp only [rf_bv]
  rw [e4, gof (by omega) (by decide), g_t, tn_of (by omega), s34, ht.2.2.2.2.1]
  unfold agV
  by_cases z : (kpt w m 9999 a).length = 0
  · have z0 : Int32.ofNat (kpt w m 9999 a).length = 0 := by rw [z]; rfl
    rw [if_pos z0, if_pos z]
    exact ⟨stc m1 18 f, rfl, e⟩
  · have z0 : ¬ Int32.ofNat (kpt w m 9999 a).length = 0 := fun q => z ((of_inj (b := 0) (by omega) (by omega)).mp q)
    rw [if_neg z0, if_neg z, hF, e18, agnV_m hb, agnV_N f2]
    simp only [rf_b]
    refine ⟨stl (stc m1 18 f) 25 F, ?_, e⟩
    have o1 : ¬ (1 : Int32) = 0 := by decide
    have := fst01 (P := fun r => dueP m r 3 (m.1 206 5) ∧ tstP m (nwV w m a) r) (m.1 206 39).toNatClampNeg 0
    change agnV m (nwV w m a) (m.1 206 5) = 0 ∨ agnV m (nwV w m a) (m.1 206 5) = 1 at this
    rcases this with q | q
    · rw [q, if_pos rfl]
    · rw [q, if_neg o1]
theorem weightOf_r {c a : Nat} {w : rf_w} {m M : rf_m} (J : JCnt c w m) (ha : a < (m.1 206 16).toNatClampNeg) (hA : mA m M) : ∃ M', g_X14_weightOf w M (Int32.ofNat a) = some (wgtV m (nwV w m a) (m.1 206 5), M') ∧ goF M M' := by
  have h80 := ang80 J.2.2.2.2.1
  have hk20 := (kpt_in (a := a) (d := 9999) J).2 (by omega)
  obtain ⟨M1, g1, g2, g3⟩ := now_r J ha hA
  have hA1 := goF_mA hA g2
  obtain ⟨f, f1, f2⟩ := namesOf_r (w := w) (m := m) (M := M1) (a := a) (by omega) hk20 g3 (hA1.1 217 (by omega))
  have ju := J.2.2.2.1
  have e28 : (stc M1 228 f).1 228 = f := rfl
  have e5 : (stc M1 228 f).1 206 5 = m.1 206 5 := hA1.2.1
  obtain ⟨G, hG⟩ := weight_r (w := w) (m := m) (M := stc M1 228 f) ju (rAg_228 ju (mA_ag ju hA1)) (by rw [e28]; exact nok_of (nw_ok J ha) f2)
  unfold g_X14_weightOf
  rw [g1]
  simp only [rf_bv]
  rw [f1]
  simp only
  rw [hG, e28, e5, wgtV_N f2]
  exact ⟨_, rfl, goF_c (goF_c g2 (by omega)) (by omega)⟩
theorem isAgain_r {c a : Nat} {w : rf_w} {m M : rf_m} (J : JCnt c w m) (ha : a < (m.1 206 16).toNatClampNeg) (hA : mA m M) : ∃ M', g_X14_isAgain w M (Int32.ofNat a) = some (agV w m a, M') ∧ goF M M' := by
  have h80 := ang80 J.2.2.2.2.1
  have hk20 := (kpt_in (a := a) (d := 9999) J).2 (by omega)
  obtain ⟨M1, g1, g2, g3⟩ := now_r J ha hA
  have hA1 := goF_mA hA g2
  obtain ⟨f, f1, f2⟩ := namesOf_r (w := w) (m := m) (M := M1) (a := a) (by omega) hk20 g3 (hA1.1 217 (by omega))
  have ju := J.2.2.2.1
  have e28 : (stc M1 228 f).1 228 = f := rfl
  have e5 : (stc M1 228 f).1 206 5 = m.1 206 5 := hA1.2.1
  obtain ⟨G, hG⟩ := again_r (w := w) (m := m) (M := stc M1 228 f) ju (rAg_228 ju (mA_ag ju hA1)) (by rw [e28]; exact nok_of (nw_ok J ha) f2)
  unfold g_X14_isAgain agV
  rw [g1]
  simp only [rf_bv]
  rw [g3.2.1]
  by_cases z : (kpt w m 9999 a).length = 0
  · have z0 : Int32.ofNat (kpt w m 9999 a).length = 0 := by rw [z]; rfl
    rw [if_pos z0, if_pos z]
    exact ⟨M1, rfl, g2⟩
  · have z0 : ¬ Int32.ofNat (kpt w m 9999 a).length = 0 := fun q => z ((of_inj (b := 0) (by omega) (by omega)).mp q)
    rw [if_neg z0, if_neg z, f1]
    simp only
    rw [hG, e28, e5, agnV_N f2]
    exact ⟨_, rfl, goF_c (goF_c g2 (by omega)) (by omega)⟩
theorem readingsOf_r {w : rf_w} {m M : rf_m} {a : Nat} (j : JRead m) (h17 : M.1 206 17 = m.1 206 17) (h20 : M.1 220 = m.1 220) : g_X14_readingsOf w M (Int32.ofNat a) = some (Int32.ofNat (rdl m a).length, M) := by
  have hn : (m.1 206 17).toNatClampNeg ≤ 1200 := tn_le j.2.1.1 j.2.1.2 (by decide)
  have hR := of_tn j.2.1.1
  have key : ∀ n f i, i + n = (m.1 206 17).toNatClampNeg → n < f → g_X14_readingsOf_4 w f (Int32.ofNat a) (Int32.ofNat (rds (m.1 220) (Int32.ofNat a) i).length) (Int32.ofNat i) M = some (Int32.ofNat (rds (m.1 220) (Int32.ofNat a) (i + n)).length, M) := by
    intro n
    induction n with
    | zero =>
      intro f i hi hf
      obtain ⟨f, rfl⟩ : ∃ g, f = g + 1 := ⟨f - 1, by omega⟩
      show g_X14_readingsOf_4_b w _ _ _ _ M = _
      unfold g_X14_readingsOf_4_b
      rw [h17, show i = (m.1 206 17).toNatClampNeg by omega, hR, if_pos (Int32.le_refl _)]
      rfl
    | succ n ih =>
      intro f i hi hf
      obtain ⟨f, rfl⟩ : ∃ g, f = g + 1 := ⟨f - 1, by omega⟩
      show g_X14_readingsOf_4_b w (g_X14_readingsOf_4 w f) _ _ _ M = _
      unfold g_X14_readingsOf_4_b g_X14_readingsOf_28
      have h1 : ¬ m.1 206 17 ≤ Int32.ofNat i := by rw [← hR]; exact nle (by omega) (by omega)
      have := ih f (i + 1) (by omega) (by omega)
      rw [show i + 1 + n = i + (n + 1) by omega] at this
      rw [h17, if_neg h1, gof (by omega) (by decide), g_t, tn_of (by omega), h20]
      by_cases q : m.1 220 i = Int32.ofNat a
      · rw [if_pos q, of_succ, of_succ]
        have e : (rds (m.1 220) (Int32.ofNat a) (i + 1)).length = (rds (m.1 220) (Int32.ofNat a) i).length + 1 := by
          show (if _ then _ else _ : List Nat).length = _
          rw [if_pos q, List.length_append]; rfl
        rw [e] at this; exact this
      · rw [if_neg q, Int32.add_zero, of_succ]
        have e : (rds (m.1 220) (Int32.ofNat a) (i + 1)).length = (rds (m.1 220) (Int32.ofNat a) i).length := by
          show (if _ then _ else _ : List Nat).length = _
          rw [if_neg q]
        rw [e] at this; exact this
  have := key (m.1 206 17).toNatClampNeg rf_fuel 0 (by omega) (by unfold rf_fuel; omega)
  rw [Nat.zero_add] at this
  exact this
noncomputable def aoV (w : rf_w) (m : rf_m) (a : Nat) (k : Int32) : Int32 := if k = 0 then meanV w m 9999 a else if k = 1 then sprV w m 9999 a else if k = 2 then loV w m 9999 a else if k = 3 then hiV w m 9999 a else if k = 4 then Int32.ofNat (kpt w m 9999 a).length else if k = 5 then Int32.ofNat (srt m 9999 (rdl m a)).length else if k = 6 then Int32.ofNat (rdl m a).length else if k = 7 then midV m 9999 a else if k = 8 then wgtV m (nwV w m a) (m.1 206 5) else if k = 9 then agV w m a else if k = 10 then m.1 217 a else -1
theorem angleOf_c {c a : Nat} {w : rf_w} {m : rf_m} {k : Int32} (J : JCnt c w m) (jc : JCache w m) (jD : JD m) (ha : a < (m.1 206 16).toNatClampNeg) : ∃ m', g_X11_angleOf w m (Int32.ofNat a) k = some (aoV w m a k, m') ∧ frB w m m' ∧ m'.1 26 = m.1 26 ∧ ∀ b, m'.1 40 b = m.1 40 b ∨ m'.1 40 b = 0 := by
  have h80 := ang80 J.2.2.2.2.1
  obtain ⟨m2, u1, u2, u3, u4, u5, u6⟩ := freshen_c J ha (show frB w m m from ⟨bas_refl m, jc.1⟩)
  have hib : ib (Int32.ofNat a) (m.1 26 6) := by
    rw [J.2.2.2.2.1.1]
    refine ⟨of_nn (by omega), ?_⟩
    have := of_tn J.2.2.2.2.1.2.1.1
    rw [← this]
    exact (of_lt (by omega) (by omega)).mpr ha
  have h40 : ∀ b, m2.1 40 b = m.1 40 b ∨ m2.1 40 b = 0 := fun b => by
    by_cases e : b = a
    · rw [e]; exact Or.inr u4
    · exact Or.inl (u5 b e)
  have o1 : ¬ (1 : Int32) = 0 := by decide
  have d10 : m2.1 0 10 = m.1 206 5 := by rw [bas_c u2.1 0 (by omega)]; exact jD.1
  obtain ⟨t, ff⟩ := u3
  unfold g_X11_angleOf
  rw [X3_isAngle, bi_t hib]
  simp only [rf_b, rf_bv]
  rw [if_neg o1, u1]
  simp only
  rw [X11_isWithin]
  simp only
  by_cases h2 : iv 0 7 k
  · rw [bi_t h2, if_neg o1]
    have ek : Int32.ofNat k.toNatClampNeg = k := of_tn h2.1
    have k8 : k.toNatClampNeg < 8 := by have := tn_le h2.1 h2.2 (N := 7) (by decide); omega
    unfold g_X3_tallyOf
    have E : ∀ k, k < 9 → Int32.ofNat a * 9 + Int32.ofNat k = Int32.ofNat (9 * a + k) := fun k hk => a9_6 (by omega) k hk
    obtain ⟨t0, t1, t2, t3, t4, t5, t7, t8⟩ := t
    generalize hk : k.toNatClampNeg = n at *
    by_cases z : k = 0
    · rw [if_pos z, gof (by omega) (by decide), g_t, tn_of (by omega)]
      refine ⟨m2, ?_, u2, u6, h40⟩
      unfold aoV; rw [if_pos z, t0]
    · rw [if_neg z]
      subst ek
      rw [E n (by omega), gof (by omega) (by decide), g_t, tn_of (by omega)]
      refine ⟨m2, ?_, u2, u6, h40⟩
      have : m2.1 34 (9 * a + n) = aoV w m a (Int32.ofNat n) := by
        have : n = 0 ∨ n = 1 ∨ n = 2 ∨ n = 3 ∨ n = 4 ∨ n = 5 ∨ n = 6 ∨ n = 7 := by omega
        rcases this with rfl | rfl | rfl | rfl | rfl | rfl | rfl | rfl
        · exact absurd rfl z
        · exact t1
        · exact t2
        · exact t3
        · exact t4
        · exact t5
        · exact (u2.1.2.2 a (by omega)).trans (J.2.1.2.2.2 a (by omega)).1
        · exact t7
      rw [this]
  · rw [bi_f h2, if_pos rfl]
    have ne : ∀ n : Nat, n < 8 → ¬ k = Int32.ofNat n := fun n hn e => h2 (by rw [e]; exact ⟨of_nn (by omega), (of_le (b := 7) (by omega) (by omega)).mpr (by omega)⟩)
    have n0 : ¬ k = 0 := ne 0 (by omega)
    have n1 : ¬ k = 1 := ne 1 (by omega)
    have n2 : ¬ k = 2 := ne 2 (by omega)
    have n3 : ¬ k = 3 := ne 3 (by omega)
    have n4 : ¬ k = 4 := ne 4 (by omega)
    have n5 : ¬ k = 5 := ne 5 (by omega)
    have n6 : ¬ k = 6 := ne 6 (by omega)
    have n7 : ¬ k = 7 := ne 7 (by omega)
    unfold aoV
    rw [if_neg n0, if_neg n1, if_neg n2, if_neg n3, if_neg n4, if_neg n5, if_neg n6, if_neg n7, d10]
    by_cases h8 : k = 8
    · rw [if_pos h8, if_pos h8]
      obtain ⟨m', e1, e2⟩ := weightOf_c (d := m.1 206 5) J ha (bas_keep u2.1) t
      rw [e1]
      exact ⟨m', rfl, frB_18 u2 e2, by rw [e2 26 (by decide)]; exact u6, fun b => by rw [e2 40 (by decide)]; exact h40 b⟩
    rw [if_neg h8, if_neg h8]
    by_cases h9 : k = 9
    · rw [if_pos h9, if_pos h9]
      obtain ⟨m', e1, e2⟩ := isAgain_c J ha (bas_keep u2.1) t
      rw [e1]
      refine ⟨m', ?_, frB_18 u2 e2, by rw [e2 26 (by decide)]; exact u6, fun b => by rw [e2 40 (by decide)]; exact h40 b⟩
      simp only
      rcases agV01 (w := w) (m := m) (a := a) with q | q
      · rw [q, if_pos rfl]
      · rw [q, if_neg o1]
    rw [if_neg h9, if_neg h9]
    by_cases h10 : k = 10
    · rw [if_pos h10, if_pos h10, gof (by omega) (by decide), g_t, tn_of (by omega), bas_c u2.1 28 (by omega), J.2.2.2.2.1.2.2.1]
      exact ⟨m2, rfl, u2, u6, h40⟩
    rw [if_neg h10, if_neg h10]
    exact ⟨m2, rfl, u2, u6, h40⟩
theorem angleOf_r {c a : Nat} {w : rf_w} {m M : rf_m} {k : Int32} (J : JCnt c w m) (ha : a < (m.1 206 16).toNatClampNeg) (hA : mA m (rf_i M 206 0 0)) : ∃ M', g_X14_angleOf w M (Int32.ofNat a) k = some (aoV w m a k, M') ∧ goF (rf_i M 206 0 0) M' := by
  have h80 := ang80 J.2.2.2.2.1
  have hk20 := (kpt_in (a := a) (d := 9999) J).2 (by omega)
  have hib : ib (Int32.ofNat a) (m.1 206 16) := by
    refine ⟨of_nn (by omega), ?_⟩
    have := of_tn J.2.2.2.2.1.2.1.1
    rw [← this]
    exact (of_lt (by omega) (by omega)).mpr ha
  have o1 : ¬ (1 : Int32) = 0 := by decide
  obtain ⟨M1, g1, g2, g3⟩ := now_r J ha hA
  have hA1 := goF_mA hA g2
  unfold g_X14_angleOf aoV
  rw [X14_isAngle, hA.2.2.1, bi_t hib]
  simp only [rf_b, rf_bv]
  rw [if_neg o1, g1]
  simp only
  obtain ⟨p1, p2, p3, p4, p5, p6, p7⟩ := g3
  by_cases h0 : k = 0
  · rw [if_pos h0, if_pos h0, p4]; exact ⟨M1, rfl, g2⟩
  rw [if_neg h0, if_neg h0]
  by_cases h1 : k = 1
  · rw [if_pos h1, if_pos h1, p2, p5, p6]
    unfold sprV hiV loV
    by_cases z : (kpt w m 9999 a).length = 0
    · have z0 : Int32.ofNat (kpt w m 9999 a).length = 0 := by rw [z]; rfl
      rw [if_pos z0, if_pos z]; exact ⟨M1, rfl, g2⟩
    · have z0 : ¬ Int32.ofNat (kpt w m 9999 a).length = 0 := fun q => z ((of_inj (b := 0) (by omega) (by omega)).mp q)
      rw [if_neg z0, if_neg z, if_neg z, if_neg z]; exact ⟨M1, rfl, g2⟩
  rw [if_neg h1, if_neg h1]
  by_cases h2 : k = 2
  · rw [if_pos h2, if_pos h2, p5]; exact ⟨M1, rfl, g2⟩
  rw [if_neg h2, if_neg h2]
  by_cases h3 : k = 3
  · rw [if_pos h3, if_pos h3, p6]; exact ⟨M1, rfl, g2⟩
  rw [if_neg h3, if_neg h3]
  by_cases h4 : k = 4
  · rw [if_pos h4, if_pos h4, p2]; exact ⟨M1, rfl, g2⟩
  rw [if_neg h4, if_neg h4]
  by_cases h5 : k = 5
  · rw [if_pos h5, if_pos h5, p1]; exact ⟨M1, rfl, g2⟩
  rw [if_neg h5, if_neg h5]
  by_cases h6 : k = 6
  · rw [if_pos h6, if_pos h6, readingsOf_r J.2.1 hA1.2.2.2.1 (hA1.1 220 (by omega))]; exact ⟨M1, rfl, g2⟩
  rw [if_neg h6, if_neg h6]
  by_cases h7 : k = 7
  · rw [if_pos h7, if_pos h7, p3]; exact ⟨M1, rfl, g2⟩
  rw [if_neg h7, if_neg h7]
  by_cases h8 : k = 8
  · rw [if_pos h8, if_pos h8]
    obtain ⟨M', e1, e2⟩ := weightOf_r J ha hA1
    rw [e1]
    exact ⟨M', rfl, goF_trans g2 e2⟩
  rw [if_neg h8, if_neg h8]
  by_cases h9 : k = 9
  · rw [if_pos h9, if_pos h9]
    obtain ⟨M', e1, e2⟩ := isAgain_r J ha hA1
    rw [e1]
    refine ⟨M', ?_, goF_trans g2 e2⟩
    simp only
    rcases agV01 (w := w) (m := m) (a := a) with q | q
    · rw [q, if_pos rfl]
    · rw [q, if_neg o1]
  rw [if_neg h9, if_neg h9]
  by_cases h10 : k = 10
  · rw [if_pos h10, if_pos h10, gof (by omega) (by decide), g_t, tn_of (by omega), hA1.1 217 (by omega)]
    exact ⟨M1, rfl, g2⟩
  rw [if_neg h10, if_neg h10]
  exact ⟨M1, rfl, g2⟩
theorem k11 {c : Nat} {w : rf_w} {m : rf_m} {y : Nat → Int32} (J : JCnt c w m) (jc : JCache w m) (jD : JD m) : wp (g_lc_11 w m y) (fun r => r.1 = w ∧ JCnt c w r.2 ∧ JCache w r.2) := by
  unfold g_lc_11
  by_cases h1 : ib (y 1) (m.1 206 16)
  · have hA : (y 1).toNatClampNeg < (m.1 206 16).toNatClampNeg := tn_lt2 h1.1 h1.2
    have ey : Int32.ofNat (y 1).toNatClampNeg = y 1 := of_tn h1.1
    obtain ⟨m', e1, e2, e3, e4⟩ := angleOf_c (k := y 2) J jc jD hA
    obtain ⟨M', f1, f2⟩ := angleOf_r (w := w) (M := m') (k := y 2) J hA (mA_fr e2)
    rw [ey] at e1 f1
    rw [wp_b, e1, wp_some, wp_b, f1, wp_some, wp_g, wp_some]
    exact ⟨decide_eq_true rfl, rfl, fin_fr J jc e2 f2 e3 e4⟩
  · have q16 : (rf_i m 206 0 0).1 206 16 = m.1 206 16 := rfl
    have a1 := J.2.2.2.2.1.1
    unfold g_X11_angleOf g_X14_angleOf
    simp only [wp_b, wp_bv, wp_g, wp_ite, wp_some, X3_isAngle, X14_isAngle, bi_eq0, a1, h1, q16, not_true, false_implies, not_false_eq_true, true_implies, true_and, and_true, decide_true]
    exact cache_i0 J jc
end PBAngle
