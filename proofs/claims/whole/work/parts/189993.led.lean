/-! led -/
section PBLed
noncomputable def ka (P : Nat → Prop) : List Nat → Int32 → Int32
  | [], _ => -1
  | r :: l, x => @ite Int32 (P r) (Classical.propDecidable _) (if x = 0 then Int32.ofNat r else ka P l (x + -1)) (ka P l x)
noncomputable def flt (P : Nat → Prop) : List Nat → List Nat
  | [] => []
  | r :: l => @ite (List Nat) (P r) (Classical.propDecidable _) (r :: flt P l) (flt P l)
theorem flt_t {P : Nat → Prop} {r : Nat} {l : List Nat} (h : P r) : flt P (r :: l) = r :: flt P l := if_pos h
theorem flt_f {P : Nat → Prop} {r : Nat} {l : List Nat} (h : ¬ P r) : flt P (r :: l) = flt P l := if_neg h
theorem ka_t {P : Nat → Prop} {r : Nat} {l : List Nat} {x : Int32} (h : P r) : ka P (r :: l) x = if x = 0 then Int32.ofNat r else ka P l (x + -1) := if_pos h
theorem ka_f {P : Nat → Prop} {r : Nat} {l : List Nat} {x : Int32} (h : ¬ P r) : ka P (r :: l) x = ka P l x := if_neg h
theorem kpl_flt {w : rf_w} {m : rf_m} {d : Int32} {a : Nat} : ∀ (l s : List Nat), l.foldl (kpS w m d a) s = s ++ flt (keptP w m d a) l := by
  intro l
  induction l with
  | nil => intro s; simp [flt]
  | cons r l ih =>
    intro s
    rw [List.foldl_cons, ih]
    by_cases h : keptP w m d a r
    · rw [kpS_t h, flt_t h, List.append_assoc]; rfl
    · rw [kpS_f h, flt_f h]
theorem kpt_flt {w : rf_w} {m : rf_m} {d : Int32} {a : Nat} : kpt w m d a = flt (keptP w m d a) (rdl m a) := by
  unfold kpt kpl; rw [kpl_flt]; rfl
theorem flt_len {P : Nat → Prop} : ∀ l : List Nat, (flt P l).length ≤ l.length := by
  intro l
  induction l with
  | nil => exact Nat.le_refl _
  | cons r l ih =>
    by_cases h : P r
    · rw [flt_t h, List.length_cons, List.length_cons]; omega
    · rw [flt_f h, List.length_cons]; omega
theorem ka_eq {P : Nat → Prop} : ∀ (l : List Nat) (x : Int32), l.length ≤ 100 → (∃ k, ∃ h : k < (flt P l).length, x = Int32.ofNat k ∧ ka P l x = Int32.ofNat ((flt P l)[k])) ∨ ((∀ k, k < (flt P l).length → x ≠ Int32.ofNat k) ∧ ka P l x = -1) := by
  intro l
  induction l with
  | nil => intro x _; exact Or.inr ⟨fun k hk => absurd hk (Nat.not_lt_zero k), rfl⟩
  | cons r l ih =>
    intro x hl
    rw [List.length_cons] at hl
    by_cases h : P r
    · rw [ka_t h]
      by_cases z : x = 0
      · rw [if_pos z]
        refine Or.inl ⟨0, by rw [flt_t h, List.length_cons]; omega, z, ?_⟩
        simp only [flt_t h, List.getElem_cons_zero]
      · rw [if_neg z]
        rcases ih (x + -1) (by omega) with ⟨k, hk, e1, e2⟩ | ⟨e1, e2⟩
        · refine Or.inl ⟨k + 1, by rw [flt_t h, List.length_cons]; omega, ?_, ?_⟩
          · rw [← of_succ, ← e1]; clear ih; grind
          · rw [e2]; simp only [flt_t h, List.getElem_cons_succ]
        · refine Or.inr ⟨fun k hk e => ?_, e2⟩
          rw [flt_t h, List.length_cons] at hk
          cases k with
          | zero => exact z e
          | succ k =>
            refine e1 k (by omega) ?_
            rw [e, ← of_succ]; clear ih; grind
    · rw [ka_f h]
      simp only [flt_f h]
      exact ih x (by omega)
theorem keptAt_c {c a : Nat} {w : rf_w} {m m2 : rf_m} {x : Int32} (J : JCnt c w m) (ha : a < (m.1 206 16).toNatClampNeg) (hb : bas m m2) (hf : fre w m m2 a) : g_X3_keptAt w m2 (Int32.ofNat a) x = some (ka (keptP w m 9999 a) (rdl m a) x, m2) := by
  have h80 := ang80 J.2.2.2.2.1
  have h17 := J.2.1.2.1
  have hn : (m.1 206 17).toNatClampNeg ≤ 1200 := tn_le h17.1 h17.2 (by decide)
  obtain ⟨b1, b2, b3⟩ := J.2.1.2.2.2 a (by omega)
  have o1 : ¬ (1 : Int32) = 0 := by decide
  have o2 : ¬ (0 : Int32) = 1 := by decide
  have e6 : Int32.ofNat a * 9 + 6 = Int32.ofNat (9 * a + 6) := a9_6 (by omega) 6 (by omega)
  have key : ∀ l F i x, (rdl m a).drop i = l → i + l.length = (rdl m a).length → l.length < F → g_X3_keptAt_5 w F (Int32.ofNat a) x (Int32.ofNat i) m2 = some (ka (keptP w m 9999 a) l x, m2) := by
    intro l
    induction l with
    | nil =>
      intro F i x hl hi hF
      obtain ⟨F, rfl⟩ : ∃ g, F = g + 1 := ⟨F - 1, by omega⟩
      show g_X3_keptAt_5_b w _ _ _ _ m2 = _
      unfold g_X3_keptAt_5_b
      rw [List.length_nil] at hi
      rw [e6, gof (by omega) (by decide), g_t, tn_of (by omega), hb.2.2 a (by omega), b1, show i = (rdl m a).length by omega, if_pos (Int32.le_refl _)]
      rfl
    | cons r l ih =>
      intro F i x hl hi hF
      obtain ⟨F, rfl⟩ : ∃ g, F = g + 1 := ⟨F - 1, by omega⟩
      show g_X3_keptAt_5_b w (g_X3_keptAt_5 w F) _ _ _ m2 = _
      unfold g_X3_keptAt_5_b g_X3_keptAt_55 g_X3_isKept
      rw [List.length_cons] at hi hF
      have hlt : i < (rdl m a).length := by omega
      have hd := List.drop_eq_getElem_cons hlt
      rw [hl] at hd
      obtain ⟨hr, hl'⟩ := List.cons.inj hd
      have h1 : ¬ Int32.ofNat (rdl m a).length ≤ Int32.ofNat i := nle (by omega) (by omega)
      have e20 : Int32.ofNat a * 20 + Int32.ofNat i = Int32.ofNat (20 * a + i) := by rw [Int32.ofNat_add, Int32.ofNat_mul, Int32.mul_comm]; rfl
      have hmem : r ∈ rdl m a := by rw [hr]; exact List.getElem_mem _
      have hr12 : r < 1200 := by have := (rds_lt _ _ hmem).1; omega
      have e33 : m2.1 33 (20 * a + i) = Int32.ofNat r := by rw [bas_c hb 33 (by omega), b3 i hlt, ← hr]
      have eK : g_X3_factOf w m2 (Int32.ofNat r) 7 = some (bi (keptP w m 9999 a r), m2) := by
        have := X3_factOf (w := w) (m := m2) (r := r) (k := 7) hr12 (by omega)
        rw [(hf.2 r hmem).2.2.1] at this
        exact this
      rw [e6, gof (by omega) (by decide), g_t, tn_of (by omega), hb.2.2 a (by omega), b1, if_neg h1, e20, gof (by omega) (by decide), g_t, tn_of (by omega), e33]
      simp only [rf_vi]
      rw [eK]
      simp only [rf_b]
      by_cases q : keptP w m 9999 a r
      · rw [bi_t q, if_pos rfl, ka_t q]
        simp only
        rw [if_neg o1, of_succ]
        by_cases z : x = 0
        · rw [if_pos z, if_pos z]
        · rw [if_neg z, if_neg z]
          exact ih F (i + 1) (x + -1) hl'.symm (by omega) (by omega)
      · rw [bi_f q, if_neg o2, ka_f q]
        simp only
        rw [if_pos trivial, of_succ]
        exact ih F (i + 1) x hl'.symm (by omega) (by omega)
  exact key (rdl m a) rf_fuel 0 x (List.drop_zero) (by omega) (by unfold rf_fuel; omega)
theorem keep_frv {m m2 M : rf_m} {w : rf_w} {v : Int32} (h : frB w m m2) (hM : goF (rf_i m2 206 0 v) M) : keep m M := by
  obtain ⟨⟨b0, b1, b2⟩, _⟩ := h
  obtain ⟨g0, g1, g2⟩ := hM
  have e : ∀ c, c ≠ 206 → c ≠ 226 → c ≠ 227 → c ≠ 228 → c ≠ 235 → M.1 c = m2.1 c := fun c h1 h2 h3 h4 h5 => by rw [g0 c h1 h2 h3 h4 h5, rf_i_c, if_neg h1]
  refine ⟨fun c hc => ?_, fun k hk => ?_, fun k hk => ?_, fun r hr k hk => ?_, fun a ha => ?_⟩
  · rw [e c (by omega) (by omega) (by omega) (by omega) (by omega)]
    exact b0 c (by omega) (by omega) (by omega) (by omega) (by omega) (by omega) (by omega)
  · rw [e 26 (by decide) (by decide) (by decide) (by decide) (by decide), b0 26 (by decide) (by decide) (by decide) (by decide) (by decide) (by decide) (by decide)]
  · rw [g1 k (by omega), rf_i_c, if_pos rfl, pu_ne (by omega), b0 206 (by decide) (by decide) (by decide) (by decide) (by decide) (by decide) (by decide)]
  · rw [e 32 (by decide) (by decide) (by decide) (by decide) (by decide)]; exact b1 r hr k hk
  · rw [e 34 (by decide) (by decide) (by decide) (by decide) (by decide)]; exact b2 a ha
theorem mA_frv {m m2 : rf_m} {w : rf_w} {v : Int32} (h : frB w m m2) : mA m (rf_i m2 206 0 v) := by
  obtain ⟨⟨b0, b1, b2⟩, _⟩ := h
  have e206 : m2.1 206 = m.1 206 := b0 206 (by decide) (by decide) (by decide) (by decide) (by decide) (by decide) (by decide)
  refine ⟨fun c hc => ?_, ?_, ?_, ?_, ?_, ?_⟩
  · rw [rf_i_c, if_neg (by omega)]
    exact b0 c (by omega) (by omega) (by omega) (by omega) (by omega) (by omega) (by omega)
  all_goals rw [rf_i_c, if_pos rfl, pu_ne (by decide), e206]
theorem keep_iv {m : rf_m} {v : Int32} : keep m (rf_i m 206 0 v) := ⟨fun c hc => by rw [rf_i_c, if_neg (by omega)], fun k _ => by rw [rf_i_c, if_neg (by decide)], fun k hk => by rw [rf_i_c, if_pos rfl, pu_ne (by omega)], fun _ _ _ _ => by rw [rf_i_c, if_neg (by decide)], fun _ _ => by rw [rf_i_c, if_neg (by decide)]⟩
theorem cache_iv {c : Nat} {w : rf_w} {m : rf_m} {v : Int32} (J : JCnt c w m) (jc : JCache w m) : JCnt c w (rf_i m 206 0 v) ∧ JCache w (rf_i m 206 0 v) := by
  refine ⟨keep_cnt keep_iv J, keep_cache keep_iv J (fun a ha hz => ?_) (fun hz a ha => ?_)⟩
  · rw [rf_i_c, if_neg (by decide)] at hz
    exact fre_of (jc.1 a ha hz) (by rw [rf_i_c, if_neg (by decide)]) (by rw [rf_i_c, if_neg (by decide)]) (by rw [rf_i_c, if_neg (by decide)])
  · rw [rf_i_c, if_neg (by decide)] at hz ⊢
    exact jc.2 hz a ha
theorem fin_frv {c : Nat} {w : rf_w} {m m2 M : rf_m} {v : Int32} (J : JCnt c w m) (jc : JCache w m) (h : frB w m m2) (hM : goF (rf_i m2 206 0 v) M) (h26 : m2.1 26 = m.1 26) (h40 : ∀ b, m2.1 40 b = m.1 40 b ∨ m2.1 40 b = 0) : JCnt c w M ∧ JCache w M := by
  have hk := keep_frv h hM
  have e : ∀ c, c ≠ 206 → c ≠ 226 → c ≠ 227 → c ≠ 228 → c ≠ 235 → M.1 c = m2.1 c := fun c h1 h2 h3 h4 h5 => by rw [hM.1 c h1 h2 h3 h4 h5, rf_i_c, if_neg h1]
  refine ⟨keep_cnt hk J, keep_cache hk J (fun a ha hz => ?_) (fun hz a ha => ?_)⟩
  · rw [e 40 (by decide) (by decide) (by decide) (by decide) (by decide)] at hz
    exact fre_of (h.2 a ha hz) (e 31 (by decide) (by decide) (by decide) (by decide) (by decide)) (e 32 (by decide) (by decide) (by decide) (by decide) (by decide)) (e 34 (by decide) (by decide) (by decide) (by decide) (by decide))
  · rw [e 26 (by decide) (by decide) (by decide) (by decide) (by decide), h26] at hz
    rw [e 40 (by decide) (by decide) (by decide) (by decide) (by decide)]
    rcases h40 a with q | q
    · rw [q]; exact jc.2 hz a ha
    · exact q
theorem cmp_self (a : Int64) : lg_cmp a a = 0 := by simp [lg_cmp]
theorem k13 {c : Nat} {w : rf_w} {m : rf_m} {y : Nat → Int32} (J : JCnt c w m) (jc : JCache w m) : wp (g_lc_13 w m y) (fun r => r.1 = w ∧ JCnt c w r.2 ∧ JCache w r.2) := by
  have ja := J.2.2.2.2.1
  have o1 : ¬ (1 : Int32) = 0 := by decide
  have o2 : ¬ (1 : Int32) ≤ 0 := by decide
  have o3 : (0 : Int32) ≤ 0 := by decide
  unfold g_lc_13 g_X14_thrown
  by_cases h1 : ib (y 1) (m.1 206 16)
  · have hA : (y 1).toNatClampNeg < (m.1 206 16).toNatClampNeg := tn_lt2 h1.1 h1.2
    have h80 := ang80 ja
    have ey : Int32.ofNat (y 1).toNatClampNeg = y 1 := of_tn h1.1
    obtain ⟨m2, u1, u2, u3, u4, u5, u6⟩ := freshen_c J hA (show frB w m m from ⟨bas_refl m, jc.1⟩)
    have h40 : ∀ b, m2.1 40 b = m.1 40 b ∨ m2.1 40 b = 0 := fun b => by
      by_cases e : b = (y 1).toNatClampNeg
      · rw [e]; exact Or.inr u4
      · exact Or.inl (u5 b e)
    have eK := keptAt_c (x := y 2) J hA u2.1 u3
    rw [ey] at u1 eK
    generalize hav : (y 1).toNatClampNeg = a at *
    have hk20 := (kpt_in (a := a) (d := 9999) J).2 (by omega)
    have r20 := (J.2.1.2.2.2 a (by omega)).2.1
    have h17 := J.2.1.2.1
    have hn : (m.1 206 17).toNatClampNeg ≤ 1200 := tn_le h17.1 h17.2 (by decide)
    have a1 : m.1 26 6 = m.1 206 16 := ja.1
    have hib : bi (ib (y 1) (m.1 26 6)) = 1 := by rw [a1]; exact bi_t h1
    have hcl : g_X11_led_0 w (y 1) (y 2) m = if ka (keptP w m 9999 a) (rdl m a) (y 2) = -1 then some (.inr m2) else some (.inl (ka (keptP w m 9999 a) (rdl m a) (y 2), m2)) := by
      unfold g_X11_led_0
      rw [X3_isAngle, hib]
      simp only [rf_b, rf_bv]
      rw [if_neg o1, u1]
      simp only
      rw [eK]
      rfl
    unfold g_L_led
    rw [hcl]
    rcases ka_eq (P := keptP w m 9999 a) (rdl m a) (y 2) (by omega) with ⟨k, hk, e1, e2⟩ | ⟨e1, e2⟩
    · have hk' : k < (kpt w m 9999 a).length := by rw [kpt_flt]; exact hk
      have e2' : ka (keptP w m 9999 a) (rdl m a) (y 2) = Int32.ofNat ((kpt w m 9999 a)[k]) := by rw [e2]; simp only [kpt_flt]
      have hr12 : (kpt w m 9999 a)[k] < 1200 := by
        have := (rds_lt _ _ ((kpt_in J).1 _ (List.getElem_mem hk')).1).1
        omega
      have ne : ¬ Int32.ofNat ((kpt w m 9999 a)[k]) = -1 := by
        intro q
        have := of_nn (a := (kpt w m 9999 a)[k]) (by omega)
        rw [q] at this
        exact absurd this (by decide)
      rw [e2', if_neg ne]
      simp only
      generalize hm3 : rf_l m2 305 0 (Int32.toInt64 (Int32.ofNat ((kpt w m 9999 a)[k]))) = m3
      have f1 : m3.1 = m2.1 := by rw [← hm3]; rfl
      have f2 : m3.2 305 0 = Int32.toInt64 (Int32.ofNat ((kpt w m 9999 a)[k])) := by rw [← hm3]; unfold rf_l; simp
      have u2' : frB w m m3 := by rw [← hm3]; exact u2
      obtain ⟨M', g1, g2, g3⟩ := now_r J hA (mA_frv (v := 1) u2')
      rw [ey] at g1
      have p16 : (rf_i m3 206 0 1).1 206 16 = m.1 206 16 := (mA_frv u2').2.2.1
      have l0 : ¬ y 2 < 0 := by rw [e1]; have := of_nn (a := k) (by omega); clear J; grind
      have l1 : y 2 < M'.1 206 34 := by rw [g3.2.1, e1]; exact (of_lt (by omega) (by omega)).mpr hk'
      have gk : rf_in (y 2) 20 = true := by rw [e1]; exact gof (by omega) (by decide)
      have i0 : (rf_i M' 206 0 0).1 206 0 = 0 := by rw [rf_i_c, if_pos rfl]; unfold pu; rw [if_pos rfl]
      have v27 : (rf_i M' 206 0 0).1 227 (y 2).toNatClampNeg = Int32.ofNat ((kpt w m 9999 a)[k]) := by
        rw [rf_i_c, if_neg (by decide), e1, tn_of (by omega)]
        exact g3.2.2.2.2.2.2 k hk'
      have hl : g_X14_led w m3 (y 1) (y 2) = some (Int32.ofNat ((kpt w m 9999 a)[k]), rf_i M' 206 0 0) := by
        unfold g_X14_led
        rw [X14_isAngle, p16, bi_t h1]
        simp only [rf_b, rf_bv]
        rw [if_neg o1, g1]
        simp only
        rw [if_neg l0, if_pos l1, i0, if_pos o3, gk, g_t, v27]
      have hM2 : (rf_i M' 206 0 0).2 305 0 = Int32.toInt64 (Int32.ofNat ((kpt w m 9999 a)[k])) := by
        show M'.2 305 0 = _
        rw [g2.2.2]
        exact f2
      simp only [rf_b]
      rw [hl]
      simp only
      rw [i0, hM2, wp_g, wp_g, wp_some]
      refine ⟨decide_eq_true rfl, ?_, rfl, ?_⟩
      · unfold rf_l13; rw [cmp_self]; rfl
      · have := fin_frv J jc u2' g2 (by rw [f1]; exact u6) (fun b => by rw [f1]; exact h40 b)
        exact cache_iv this.1 this.2
    · rw [e2, if_pos rfl]
      simp only
      obtain ⟨M', g1, g2, g3⟩ := now_r J hA (mA_frv (v := 1) u2)
      rw [ey] at g1
      have p16 : (rf_i m2 206 0 1).1 206 16 = m.1 206 16 := (mA_frv u2).2.2.1
      have i1 : (rf_i M' 206 0 1).1 206 0 = 1 := by rw [rf_i_c, if_pos rfl]; unfold pu; rw [if_pos rfl]
      have hl : g_X14_led w m2 (y 1) (y 2) = some (0, rf_i M' 206 0 1) := by
        unfold g_X14_led g_X14_led_33
        rw [X14_isAngle, p16, bi_t h1]
        simp only [rf_b, rf_bv]
        rw [if_neg o1, g1]
        simp only
        rw [i1, if_neg o2]
        by_cases l0 : y 2 < 0
        · rw [if_pos l0]
        · rw [if_neg l0]
          have l1 : ¬ y 2 < M'.1 206 34 := by
            rw [g3.2.1]
            intro q
            have p : 0 ≤ y 2 := by clear J; grind
            have ek := of_tn p
            have : (y 2).toNatClampNeg < (kpt w m 9999 a).length := by
              have := tn_lt2 p q
              rw [tn_of (by omega)] at this
              exact this
            exact e1 (y 2).toNatClampNeg (by rw [← kpt_flt]; exact this) ek.symm
          rw [if_neg l1]
      simp only [rf_b]
      rw [hl]
      simp only
      rw [i1, wp_g, wp_g, wp_some]
      refine ⟨decide_eq_true rfl, ?_, rfl, ?_⟩
      · rfl
      · have := fin_frv J jc u2 g2 u6 h40
        exact cache_iv this.1 this.2
  · have a1 : m.1 26 6 = m.1 206 16 := ja.1
    have hib : bi (ib (y 1) (m.1 26 6)) = 0 := by rw [a1]; exact bi_f h1
    have p16 : (rf_i m 206 0 1).1 206 16 = m.1 206 16 := rfl
    have i1 : (rf_i m 206 0 1).1 206 0 = 1 := by rw [rf_i_c, if_pos rfl]; unfold pu; rw [if_pos rfl]
    have hcl : g_X11_led_0 w (y 1) (y 2) m = some (.inr m) := by
      unfold g_X11_led_0
      rw [X3_isAngle, hib]
      rfl
    have hl : g_X14_led w m (y 1) (y 2) = some (0, rf_i m 206 0 1) := by
      unfold g_X14_led
      rw [X14_isAngle, p16, bi_f h1]
      rfl
    unfold g_L_led
    rw [hcl]
    simp only [rf_b]
    rw [hl]
    simp only
    rw [i1, wp_g, wp_g, wp_some]
    exact ⟨decide_eq_true rfl, rfl, rfl, cache_iv J jc⟩
end PBLed
