/-! the sines of the angles, and which carry -/
section PBSine
def carP (w : rf_w) (m : rf_m) (a : Nat) : Prop := (kpt w m 9999 a).length ≠ 0 ∧ 36000 ≤ loV w m 9999 a ∧ hiV w m 9999 a ≤ 6444000
noncomputable def sLv (w : rf_w) (m : rf_m) (a : Nat) : Int32 := if sn (hiV w m 9999 a / 10) < sn (loV w m 9999 a / 10) then sn (hiV w m 9999 a / 10) else sn (loV w m 9999 a / 10)
noncomputable def sMv (w : rf_w) (m : rf_m) (a : Nat) : Int32 := if 324000 < loV w m 9999 a / 10 ∨ hiV w m 9999 a / 10 < 324000 then (if sn (loV w m 9999 a / 10) < sn (hiV w m 9999 a / 10) then sn (hiV w m 9999 a / 10) else sn (loV w m 9999 a / 10)) else sn 324000
theorem car_I {c : Nat} {w : rf_w} {m : rf_m} {a : Nat} (J : JCnt c w m) (h : carP w m a) : 36000 ≤ (loV w m 9999 a).toInt ∧ (loV w m 9999 a).toInt ≤ (hiV w m 9999 a).toInt ∧ (hiV w m 9999 a).toInt ≤ 6444000 := by
  obtain ⟨h1, h2, h3⟩ := h
  have q := spr_rng (d := 9999) J h1
  have e1 : loV w m 9999 a = loL m (kpt w m 9999 a) := if_neg h1
  have e2 : hiV w m 9999 a = hiL m (kpt w m 9999 a) := if_neg h1
  rw [i_le] at h2 h3
  have k1 : (36000 : Int32).toInt = 36000 := by decide
  have k2 : (6444000 : Int32).toInt = 6444000 := by decide
  rw [k1] at h2
  rw [k2] at h3
  rw [← e1, ← e2] at q
  omega
/-- as the sines leave it -/
def siF (M M' : rf_m) : Prop := (∀ c, c ≠ 206 → c ≠ 226 → c ≠ 227 → c ≠ 228 → c ≠ 235 → c ≠ 268 → c ≠ 269 → c ≠ 270 → M'.1 c = M.1 c) ∧ (∀ k, k < 33 ∨ 38 < k → M'.1 206 k = M.1 206 k) ∧ M'.2 = M.2
theorem siF_mA {m M M' : rf_m} (h : mA m M) (g : siF M M') : mA m M' := by
  obtain ⟨h0, h1, h2, h3, h4, h5⟩ := h
  obtain ⟨g0, g1, g2⟩ := g
  exact ⟨fun c hc => by rw [g0 c (by omega) (by omega) (by omega) (by omega) (by omega) (by omega) (by omega) (by omega)]; exact h0 c hc, by rw [g1 5 (by omega)]; exact h1, by rw [g1 16 (by omega)]; exact h2, by rw [g1 17 (by omega)]; exact h3, by rw [g1 18 (by omega)]; exact h4, by rw [g1 39 (by omega)]; exact h5⟩
def siP (w : rf_w) (m M : rf_m) (a : Nat) : Prop := M.1 270 a = bi (carP w m a) ∧ (carP w m a → M.1 268 a = sLv w m a ∧ M.1 269 a = sMv w m a)
theorem allSines_1 {w : rf_w} {m M : rf_m} {c a : Nat} {r : Int32 → rf_m → Option rf_m} (J : JCnt c w m) (ha : a < 80) (h34 : M.1 206 34 = Int32.ofNat (kpt w m 9999 a).length) (h37 : M.1 206 37 = loV w m 9999 a) (h38 : M.1 206 38 = hiV w m 9999 a) : ∃ F G, (∀ b, b ≠ a → F b = M.1 268 b ∧ G b = M.1 269 b) ∧ (carP w m a → F a = sLv w m a ∧ G a = sMv w m a) ∧ (if (M.1 206 34) ≤ 0 then g_X14_allSines_51 w r (Int32.ofNat a) (Int32.ofNat a) M else (if (M.1 206 37) < 36000 then g_X14_allSines_51 w r (Int32.ofNat a) (Int32.ofNat a) M else (if 6444000 < (M.1 206 38) then g_X14_allSines_51 w r (Int32.ofNat a) (Int32.ofNat a) M else g_X14_allSines_52 w r (Int32.ofNat a) (Int32.ofNat a) 1 M))) = r (Int32.ofNat (a + 1)) (stc (stc (stc M 268 F) 269 G) 270 (pu (M.1 270) a (bi (carP w m a)))) := by
  have o1 : ¬ (1 : Int32) = 0 := by decide
  have n0 : vp_nar .boolean 0 = 0 := by decide
  have n1 : vp_nar .boolean 1 = 1 := by decide
  have hlen : (kpt w m 9999 a).length ≤ 20 := (kpt_in J).2 ha
  have no : ¬ carP w m a → g_X14_allSines_51 w r (Int32.ofNat a) (Int32.ofNat a) M = r (Int32.ofNat (a + 1)) (stc (stc (stc M 268 (M.1 268)) 269 (M.1 269)) 270 (pu (M.1 270) a (bi (carP w m a)))) := fun hn => by
    unfold g_X14_allSines_51 g_X14_allSines_52 g_X14_allSines_146
    rw [gof ha (by decide), g_t, g_t, tn_of (by omega), n0, rf_i_c, if_pos rfl, pu_at, if_pos rfl, of_succ, bi_f hn]
    congr 1
    refine Prod.ext (funext fun z => ?_) rfl
    rw [rf_i_c, stc_c, stc_c, stc_c]
    by_cases z1 : z = 270
    · rw [if_pos z1, if_pos z1]
    · rw [if_neg z1, if_neg z1]
      by_cases z2 : z = 269
      · rw [if_pos z2, z2]
      · rw [if_neg z2]
        by_cases z3 : z = 268
        · rw [if_pos z3, z3]
        · rw [if_neg z3]
  by_cases h : carP w m a
  · obtain ⟨q1, q2, q3⟩ := car_I J h
    have hh := h
    obtain ⟨h1, h2, h3⟩ := h
    have p1 : ¬ M.1 206 34 ≤ 0 := by
      rw [h34]
      exact fun q => h1 (by have := (of_le (b := 0) (by omega) (by omega)).mp q; omega)
    have p2 : ¬ M.1 206 37 < 36000 := by rw [h37]; grind
    have p3 : ¬ 6444000 < M.1 206 38 := by rw [h38]; grind
    refine ⟨pu (M.1 268) a (sLv w m a), pu (M.1 269) a (sMv w m a), fun b hb => ⟨pu_ne hb, pu_ne hb⟩, fun _ => ⟨pu_at _ _ _, pu_at _ _ _⟩, ?_⟩
    rw [if_neg p1, if_neg p2, if_neg p3]
    unfold g_X14_allSines_52
    rw [gof ha (by decide), g_t, g_t, tn_of (by omega), n1]
    generalize hX : rf_i M 270 a 1 = X
    have x270 : X.1 270 a = 1 := by rw [← hX, rf_i_c, if_pos rfl, pu_at]
    have x37 : X.1 206 37 = loV w m 9999 a := by rw [← hX, rf_i_c, if_neg (by decide)]; exact h37
    have x38 : X.1 206 38 = hiV w m 9999 a := by rw [← hX, rf_i_c, if_neg (by decide)]; exact h38
    rw [x270, if_neg o1, x37, X14_sineOf (by omega) (by omega), b_sm, x38, X14_sineOf (by omega) (by omega), b_sm]
    have gm : ∀ (Y : rf_m) (u v : Int32), g_min w Y u v = some (if v < u then v else u, Y) := fun Y u v => by unfold g_min; split <;> rfl
    have gx : ∀ (Y : rf_m) (u v : Int32), g_max w Y u v = some (if u < v then v else u, Y) := fun Y u v => by unfold g_max; split <;> rfl
    have eS : (if sn (hiV w m 9999 a / 10) < sn (loV w m 9999 a / 10) then sn (hiV w m 9999 a / 10) else sn (loV w m 9999 a / 10)) = sLv w m a := rfl
    rw [gm, b_sm, g_t, eS]
    generalize hY : rf_i X 268 a (sLv w m a) = Y
    have y37 : Y.1 206 37 = loV w m 9999 a := by rw [← hY, rf_i_c, if_neg (by decide)]; exact x37
    have y38 : Y.1 206 38 = hiV w m 9999 a := by rw [← hY, rf_i_c, if_neg (by decide)]; exact x38
    have e3 : (3240000 : Int32) / 10 = 324000 := by decide
    have fin : ∀ v, v = sMv w m a → g_X14_allSines_145 w r (Int32.ofNat a) (Int32.ofNat a) v Y = r (Int32.ofNat (a + 1)) (stc (stc (stc M 268 (pu (M.1 268) a (sLv w m a))) 269 (pu (M.1 269) a (sMv w m a))) 270 (pu (M.1 270) a (bi (carP w m a)))) := fun v hv => by
      unfold g_X14_allSines_145 g_X14_allSines_146
      rw [gof ha (by decide), g_t, tn_of (by omega), of_succ, hv, bi_t hh]
      congr 1
      refine Prod.ext (funext fun z => ?_) ?_
      · rw [rf_i_c, stc_c, stc_c, stc_c, ← hY, ← hX]
        simp only [rf_i_c]
        by_cases z1 : z = 270
        · subst z1; simp
        · by_cases z2 : z = 269
          · subst z2; simp
          · by_cases z3 : z = 268
            · subst z3; simp
            · simp [z1, z2, z3]
      · rw [rf_i_l, ← hY, rf_i_l, ← hX, rf_i_l]; rfl
    have big : g_X14_allSines_128 w r (Int32.ofNat a) (Int32.ofNat a) Y = g_X14_allSines_145 w r (Int32.ofNat a) (Int32.ofNat a) (if sn (loV w m 9999 a / 10) < sn (hiV w m 9999 a / 10) then sn (hiV w m 9999 a / 10) else sn (loV w m 9999 a / 10)) Y := by
      unfold g_X14_allSines_128
      rw [y37, X14_sineOf (by omega) (by omega), b_sm, y38, X14_sineOf (by omega) (by omega), b_sm, gx, b_sm]
    rw [y37, y38, big]
    by_cases c1 : 324000 < loV w m 9999 a / 10
    · rw [if_pos c1]; exact fin _ (by unfold sMv; rw [if_pos (Or.inl c1)])
    · rw [if_neg c1]
      by_cases c2 : hiV w m 9999 a / 10 < 324000
      · rw [if_pos c2]; exact fin _ (by unfold sMv; rw [if_pos (Or.inr c2)])
      · rw [if_neg c2, X14_sineOf (by decide) (by decide), b_sm, e3]
        exact fin _ (by unfold sMv; rw [if_neg (fun q => q.elim c1 c2)])
  · refine ⟨M.1 268, M.1 269, fun _ _ => ⟨rfl, rfl⟩, fun q => absurd q h, ?_⟩
    rw [no h]
    by_cases p1 : M.1 206 34 ≤ 0
    · rw [if_pos p1]
    · rw [if_neg p1]
      by_cases p2 : M.1 206 37 < 36000
      · rw [if_pos p2]
      · rw [if_neg p2]
        by_cases p3 : 6444000 < M.1 206 38
        · rw [if_pos p3]
        · exfalso
          refine h ⟨fun q => p1 ?_, ?_, ?_⟩
          · rw [h34, q]; decide
          · rw [h37] at p2; grind
          · rw [h38] at p3; grind
theorem allSines_r {c : Nat} {w : rf_w} {m M : rf_m} (J : JCnt c w m) (hA : mA m M) : ∃ M', g_X14_allSines w M = some M' ∧ siF M M' ∧ ∀ a, a < (m.1 206 16).toNatClampNeg → siP w m M' a := by
  have h80 := ang80 J.2.2.2.2.1
  have hR := of_tn J.2.2.2.2.1.2.1.1
  have key : ∀ n f i (Mi : rf_m), i + n = (m.1 206 16).toNatClampNeg → n < f → siF M Mi → (∀ b, b < i → siP w m Mi b) → ∃ M', g_X14_allSines_2 w f (Int32.ofNat i) Mi = some M' ∧ siF M M' ∧ ∀ a, a < (m.1 206 16).toNatClampNeg → siP w m M' a := by
    intro n
    induction n with
    | zero =>
      intro f i Mi hi hf hG hm
      obtain ⟨f, rfl⟩ : ∃ g, f = g + 1 := ⟨f - 1, by omega⟩
      show ∃ M', g_X14_allSines_2_b w _ _ Mi = _ ∧ _
      unfold g_X14_allSines_2_b
      have e16 : Mi.1 206 16 = m.1 206 16 := (siF_mA hA hG).2.2.1
      rw [e16, show i = (m.1 206 16).toNatClampNeg by omega, hR, if_pos (Int32.le_refl _)]
      exact ⟨Mi, rfl, hG, fun a ha => hm a (by omega)⟩
    | succ n ih =>
      intro f i Mi hi hf hG hm
      obtain ⟨f, rfl⟩ : ∃ g, f = g + 1 := ⟨f - 1, by omega⟩
      show ∃ M', g_X14_allSines_2_b w (g_X14_allSines_2 w f) _ Mi = _ ∧ _
      unfold g_X14_allSines_2_b
      have hil : i < (m.1 206 16).toNatClampNeg := by omega
      have hAi := siF_mA hA hG
      have e16 : Mi.1 206 16 = m.1 206 16 := hAi.2.2.1
      have nl : ¬ m.1 206 16 ≤ Int32.ofNat i := by rw [← hR]; exact nle hil (by omega)
      obtain ⟨M1, h1, h2, h3⟩ := now_r J hil hAi
      obtain ⟨F, G, f1, f2, f3⟩ := allSines_1 (r := g_X14_allSines_2 w f) (M := M1) (a := i) J (by omega) h3.2.1 h3.2.2.2.2.1 h3.2.2.2.2.2.1
      rw [e16, if_neg nl, h1, bv_sm, f3]
      have m1c : ∀ x, x ≠ 206 → x ≠ 226 → x ≠ 227 → x ≠ 228 → x ≠ 235 → M1.1 x = Mi.1 x := h2.1
      refine ih f (i + 1) _ (by omega) (by omega) ?_ (fun b hb => ?_)
      · refine ⟨fun x q1 q2 q3 q4 q5 q6 q7 q8 => ?_, fun k hk => ?_, ?_⟩
        · rw [stc_c, if_neg q8, stc_c, if_neg q7, stc_c, if_neg q6, m1c x q1 q2 q3 q4 q5, hG.1 x q1 q2 q3 q4 q5 q6 q7 q8]
        · rw [stc_c, if_neg (by decide), stc_c, if_neg (by decide), stc_c, if_neg (by decide), h2.2.1 k hk, hG.2.1 k hk]
        · show M1.2 = _; rw [h2.2.2, hG.2.2]
      · unfold siP
        rw [stc_c, if_pos rfl, stc_c, if_neg (by decide), stc_c, if_neg (by decide), stc_c, if_pos rfl, stc_c, if_neg (by decide), stc_c, if_pos rfl]
        by_cases e : b = i
        · rw [e, pu_at]
          exact ⟨rfl, f2⟩
        · rw [pu_ne e, m1c 270 (by decide) (by decide) (by decide) (by decide) (by decide), (f1 b e).1, (f1 b e).2, m1c 268 (by decide) (by decide) (by decide) (by decide) (by decide), m1c 269 (by decide) (by decide) (by decide) (by decide) (by decide)]
          exact hm b (by omega)
  exact key (m.1 206 16).toNatClampNeg rf_fuel 0 M (by omega) (by unfold rf_fuel; omega) ⟨fun _ _ _ _ _ _ _ _ _ => rfl, fun _ _ => rfl, rfl⟩ (fun b hb => by omega)
end PBSine
