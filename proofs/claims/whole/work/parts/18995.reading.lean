/-! reading -/
section PBReading
theorem fin_fr {c : Nat} {w : rf_w} {m m2 M : rf_m} (J : JCnt c w m) (jc : JCache w m) (h : frB w m m2) (hM : goF (rf_i m2 206 0 0) M) (h26 : m2.1 26 = m.1 26) (h40 : ∀ b, m2.1 40 b = m.1 40 b ∨ m2.1 40 b = 0) : JCnt c w M ∧ JCache w M := by
  have hk := keep_fr h hM
  have e : ∀ c, c ≠ 206 → c ≠ 226 → c ≠ 227 → c ≠ 228 → c ≠ 235 → M.1 c = m2.1 c := fun c h1 h2 h3 h4 h5 => by rw [hM.1 c h1 h2 h3 h4 h5, rf_i_c, if_neg h1]
  refine ⟨keep_cnt hk J, keep_cache hk J (fun a ha hz => ?_) (fun hz a ha => ?_)⟩
  · rw [e 40 (by decide) (by decide) (by decide) (by decide) (by decide)] at hz
    exact fre_of (h.2 a ha hz) (e 31 (by decide) (by decide) (by decide) (by decide) (by decide)) (e 32 (by decide) (by decide) (by decide) (by decide) (by decide)) (e 34 (by decide) (by decide) (by decide) (by decide) (by decide))
  · rw [e 26 (by decide) (by decide) (by decide) (by decide) (by decide), h26] at hz
    rw [e 40 (by decide) (by decide) (by decide) (by decide) (by decide)]
    rcases h40 a with q | q
    · rw [q]; exact jc.2 hz a ha
    · exact q
theorem sv_now {c : Nat} {w : rf_w} {m : rf_m} {r : Nat} (J : JCnt c w m) (hr : r < (m.1 206 17).toNatClampNeg) : svV w m r 9999 = m.1 216 r ∧ (m.1 216 r = 0 ∨ m.1 216 r = 1) := by
  obtain ⟨hc, j, js, ju, ja, jm, jd⟩ := J
  have hn : (m.1 206 17).toNatClampNeg ≤ 1200 := tn_le j.2.1.1 j.2.1.2 (by decide)
  obtain ⟨_, h2, h3⟩ := struck_r (w := w) (M := m) (r := r) (d := 9999) hc js hr (by omega) rfl rfl rfl rfl (fun _ _ => rfl)
  unfold g_X14_isStruckBy at h2
  have n : ¬ (9999 : Int32) < m.1 206 5 := by have := jd.2; clear jd; grind
  rw [if_neg n, gof (by omega) (by decide), g_t, tn_of (by omega)] at h2
  have h4 := (rf_g_some h2).2
  have e : m.1 216 r = svV w m r 9999 := (Prod.mk.inj (Option.some.inj h4)).1
  rw [e]
  exact ⟨rfl, h3⟩
theorem k9 {c : Nat} {w : rf_w} {m : rf_m} {y : Nat → Int32} (J : JCnt c w m) (jc : JCache w m) : wp (g_lc_9 w m y) (fun r => r.1 = w ∧ JCnt c w r.2 ∧ JCache w r.2) := by
  have J' := J
  obtain ⟨hc, j, js, ju, ja, jm, jd⟩ := J
  have h80 := ang80 ja
  have c1 := j.1
  have hn : (m.1 206 17).toNatClampNeg ≤ 1200 := tn_le j.2.1.1 j.2.1.2 (by decide)
  have q17 : (rf_i m 206 0 0).1 206 17 = m.1 206 17 := rfl
  unfold g_lc_9 g_X11_reading g_X14_reading
  by_cases h1 : ib (y 1) (m.1 206 17)
  · have hR : (y 1).toNatClampNeg < (m.1 206 17).toNatClampNeg := tn_lt2 h1.1 h1.2
    have ey : Int32.ofNat (y 1).toNatClampNeg = y 1 := of_tn h1.1
    generalize hr : (y 1).toNatClampNeg = r at *
    have g12 : rf_in (y 1) 1200 = true := by rw [← ey]; exact gof (by omega) (by decide)
    obtain ⟨f0, f1, f2, f3, f4, f5, f6, f7, f8, f9⟩ := j.2.2.1 r hR
    have hA : (m.1 220 r).toNatClampNeg < (m.1 206 16).toNatClampNeg := tn_lt2 f5.1 f5.2
    have ea : Int32.ofNat (m.1 220 r).toNatClampNeg = m.1 220 r := of_tn f5.1
    generalize hav : (m.1 220 r).toNatClampNeg = a at *
    have hrL : r ∈ rdl m a := rds_of _ _ hR ea.symm
    obtain ⟨sv1, sv2⟩ := sv_now J' hR
    -- the reference, from any memory that has m's readings
    have refv : ∀ m2 : rf_m, frB w m m2 → wp (rf_bv (g_X14_now w (rf_i m2 206 0 0) (m.1 220 r)) fun m2 => rf_g (rf_in (y 1) 1200) ((if (m2.1 221 r) = ((-2)) then g_X14_reading_41 w (y 1) (y 2) 0 m2 else g_X14_reading_41 w (y 1) (y 2) 1 m2))) (fun z => z.1 = (if y 2 = 0 then m.1 220 r else if y 2 = 1 then m.1 221 r else if y 2 = 2 then m.1 222 r else if y 2 = 3 then m.1 223 r else if y 2 = 4 then m.1 224 r else if y 2 = 5 then svV w m r 9999 else if y 2 = 6 then strV m 9999 a r else if y 2 = 7 then bi (keptP w m 9999 a r) else if y 2 = 8 then offV m 9999 a r else -1) ∧ goF (rf_i m2 206 0 0) z.2) := by
      intro m2 hB
      obtain ⟨M', g1, g2, g3⟩ := now_r J' hA (mA_fr hB)
      have hmA' := goF_mA (mA_fr hB) g2
      rw [ea] at g1
      rw [wp_bv, g1, wp_some, wp_g]
      refine ⟨g12, ?_⟩
      have e0 : M'.1 220 = m.1 220 := hmA'.1 220 (by omega)
      have e1 : M'.1 221 = m.1 221 := hmA'.1 221 (by omega)
      have e2 : M'.1 222 = m.1 222 := hmA'.1 222 (by omega)
      have e3 : M'.1 223 = m.1 223 := hmA'.1 223 (by omega)
      have e4 : M'.1 224 = m.1 224 := hmA'.1 224 (by omega)
      have e6 : M'.1 216 = m.1 216 := hmA'.1 216 (by omega)
      have o1 : ¬ (1 : Int32) = 0 := by decide
      -- the switch, from memory M2, s the flag, k the striker
      have sw : ∀ (M2 : rf_m) (s k : Int32), (∀ x, x = 216 ∨ (220 ≤ x ∧ x ≤ 224) → M2.1 x = m.1 x) → M2.1 206 35 = midV m 9999 a → (s = 0 ∧ ¬ okP m 9999 r ∧ k = -2 ∨ s = 1 ∧ okP m 9999 r ∧ k = skV m 9999 a r) → goF (rf_i m2 206 0 0) M2 → wp (g_X14_reading_56 w (y 1) (y 2) s k M2) (fun z => z.1 = (if y 2 = 0 then m.1 220 r else if y 2 = 1 then m.1 221 r else if y 2 = 2 then m.1 222 r else if y 2 = 3 then m.1 223 r else if y 2 = 4 then m.1 224 r else if y 2 = 5 then svV w m r 9999 else if y 2 = 6 then strV m 9999 a r else if y 2 = 7 then bi (keptP w m 9999 a r) else if y 2 = 8 then offV m 9999 a r else -1) ∧ goF (rf_i m2 206 0 0) z.2) := by
        intro M2 s k hM2 h35 hsk hgo
        unfold g_X14_reading_56
        rw [hr, g12, hM2 220 (by omega), hM2 221 (by omega), hM2 222 (by omega), hM2 223 (by omega), hM2 224 (by omega), hM2 216 (by omega), h35, abs_eq]
        simp only [g_t]
        by_cases a0 : y 2 = 0
        · rw [if_pos a0, if_pos a0, wp_some]; exact ⟨rfl, hgo⟩
        rw [if_neg a0, if_neg a0]
        by_cases a1 : y 2 = 1
        · rw [if_pos a1, if_pos a1, wp_some]; exact ⟨rfl, hgo⟩
        rw [if_neg a1, if_neg a1]
        by_cases a2 : y 2 = 2
        · rw [if_pos a2, if_pos a2, wp_some]; exact ⟨rfl, hgo⟩
        rw [if_neg a2, if_neg a2]
        by_cases a3 : y 2 = 3
        · rw [if_pos a3, if_pos a3, wp_some]; exact ⟨rfl, hgo⟩
        rw [if_neg a3, if_neg a3]
        by_cases a4 : y 2 = 4
        · rw [if_pos a4, if_pos a4, wp_some]; exact ⟨rfl, hgo⟩
        rw [if_neg a4, if_neg a4]
        by_cases a5 : y 2 = 5
        · rw [if_pos a5, if_pos a5, sv1]
          rcases sv2 with z | z
          · rw [z, if_pos rfl, wp_some]; exact ⟨rfl, hgo⟩
          · rw [z, if_neg o1, wp_some]; exact ⟨rfl, hgo⟩
        rw [if_neg a5, if_neg a5]
        by_cases a6 : y 2 = 6
        · rw [if_pos a6, if_pos a6, wp_some]
          refine ⟨?_, hgo⟩
          show k = strV m 9999 a r
          unfold strV
          rcases hsk with ⟨_, h, h'⟩ | ⟨_, h, h'⟩
          · rw [if_neg h, h']
          · rw [if_pos h, h']
        rw [if_neg a6, if_neg a6]
        by_cases a7 : y 2 = 7
        · rw [if_pos a7, if_pos a7]
          rcases hsk with ⟨h0, h, h'⟩ | ⟨h0, h, h'⟩
          · rw [if_pos h0, wp_some]
            refine ⟨?_, hgo⟩
            rw [bi_f (fun q => h q.1)]
          · rw [h0, if_neg o1]
            by_cases z : m.1 216 r = 0
            · rw [if_pos z]
              by_cases z2 : k = -2
              · rw [if_pos z2, wp_some]
                refine ⟨?_, hgo⟩
                rw [bi_t (show keptP w m 9999 a r from ⟨h, by rw [sv1]; exact z, by rw [← h']; exact z2⟩)]
              · rw [if_neg z2, wp_some]
                refine ⟨?_, hgo⟩
                rw [bi_f (fun q => z2 (by rw [h']; exact q.2.2))]
            · rw [if_neg z, wp_some]
              refine ⟨?_, hgo⟩
              rw [bi_f (fun q => z (by rw [← sv1]; exact q.2.1))]
        rw [if_neg a7, if_neg a7]
        by_cases a8 : y 2 = 8
        · rw [if_pos a8, if_pos a8]
          rcases hsk with ⟨h0, h, h'⟩ | ⟨h0, h, h'⟩
          · rw [if_pos h0, wp_some]
            refine ⟨?_, hgo⟩
            show (-2 : Int32) = offV m 9999 a r
            unfold offV; rw [if_neg h]
          · rw [h0, if_neg o1, wp_b, wp_some, wp_some]
            refine ⟨?_, hgo⟩
            show ab _ = offV m 9999 a r
            unfold offV; rw [if_pos h]
        rw [if_neg a8, if_neg a8, wp_some]
        exact ⟨rfl, hgo⟩
      rw [e1]
      unfold g_X14_reading_41
      have day9 := (jd.1 r).2
      by_cases p : m.1 221 r = -2
      · rw [if_pos p, if_pos rfl]
        exact sw M' 0 (-2) (fun x hx => hmA'.1 x (by omega)) g3.2.2.1 (Or.inl ⟨rfl, fun q => q.1 p, rfl⟩) g2
      · rw [if_neg p, if_neg o1]
        have hok : okP m 9999 r := ⟨p, day9⟩
        obtain ⟨gg, G, hsk⟩ := strikerOf_r (w := w) (M := M') (d := 9999) j ju ja jm hA hrL hok (mA_ag ju hmA') (mA_rd hmA') (hmA'.1 217 (by omega)) g3.1 g3.2.2.1
        rw [ey] at hsk
        rw [wp_b, hsk, wp_some]
        have hgo2 : goF (rf_i m2 206 0 0) (stc (stc M' 228 gg) 235 G) := goF_c (goF_c g2 (by omega)) (by omega)
        exact sw _ 1 _ (fun x hx => (goF_mA (mA_fr hB) hgo2).1 x (by omega)) g3.2.2.1 (Or.inr ⟨rfl, hok, rfl⟩) hgo2
    by_cases h2 : iv 0 8 (y 2)
    · obtain ⟨m2, u1, u2, u3, u4, u5, u6⟩ := freshen_c J' hA (show frB w m m from ⟨bas_refl m, jc.1⟩)
      rw [ea] at u1
      have ek : Int32.ofNat (y 2).toNatClampNeg = y 2 := of_tn h2.1
      have k9 : (y 2).toNatClampNeg < 9 := by have := tn_le h2.1 h2.2 (N := 8) (by decide); omega
      have e0 : g_X3_factOf w m (y 1) 0 = some (m.1 220 r, m) := by
        rw [← ey, show (0 : Int32) = Int32.ofNat 0 from rfl, X3_factOf (by omega) (by omega)]
        show some (m.1 32 (9 * r), m) = _
        rw [f0]
      have eF : g_X3_factOf w m2 (y 1) (y 2) = some (m2.1 32 (9 * r + (y 2).toNatClampNeg), m2) := by
        rw [← ey, ← ek, X3_factOf (by omega) k9, ek]
      obtain ⟨t, ff⟩ := u3
      obtain ⟨w5, w6, w7, w8⟩ := ff r hrL
      have w0 : ∀ k, k < 5 → m2.1 32 (9 * r + k) = m.1 32 (9 * r + k) := u2.1.2.1 r (by omega)
      have w00 : m2.1 32 (9 * r + 0) = m.1 220 r := by rw [w0 0 (by omega)]; exact f0
      have ev : m2.1 32 (9 * r + (y 2).toNatClampNeg) = (if y 2 = 0 then m.1 220 r else if y 2 = 1 then m.1 221 r else if y 2 = 2 then m.1 222 r else if y 2 = 3 then m.1 223 r else if y 2 = 4 then m.1 224 r else if y 2 = 5 then svV w m r 9999 else if y 2 = 6 then strV m 9999 a r else if y 2 = 7 then bi (keptP w m 9999 a r) else if y 2 = 8 then offV m 9999 a r else -1) := by
        generalize hkk : (y 2).toNatClampNeg = k at *
        rw [← ek]
        have : k = 0 ∨ k = 1 ∨ k = 2 ∨ k = 3 ∨ k = 4 ∨ k = 5 ∨ k = 6 ∨ k = 7 ∨ k = 8 := by omega
        rcases this with rfl | rfl | rfl | rfl | rfl | rfl | rfl | rfl | rfl
        · exact w00
        · exact (w0 1 (by omega)).trans f1
        · exact (w0 2 (by omega)).trans f2
        · exact (w0 3 (by omega)).trans f3
        · exact (w0 4 (by omega)).trans f4
        · exact w5
        · exact w6
        · exact w7
        · exact w8
      have q17' : (rf_i m2 206 0 0).1 206 17 = m.1 206 17 := (mA_fr u2).2.2.2.1
      have q220 : (rf_i m2 206 0 0).1 220 = m.1 220 := (mA_fr u2).1 220 (by omega)
      simp only [wp_b, wp_bv, wp_g, wp_ite, wp_some, X3_isReading, X11_isWithin, X14_isReading, bi_eq0, c1, h1, h2, e0, u1, eF, q17', q220, hr, g12, not_true, false_implies, not_false_eq_true, true_implies, true_and]
      have := refv m2 u2
      simp only [wp_bv, wp_g, g12, true_and] at this
      refine wp_mono this (fun m3 hz => ?_)
      rw [wp_ite] at hz
      refine ⟨fun p => wp_mono (hz.1 p) (fun z q => ?_), fun p => wp_mono (hz.2 p) (fun z q => ?_)⟩
      · refine ⟨decide_eq_true (by rw [ev, q.1]), ?_⟩
        exact fin_fr J' jc u2 q.2 u6 (fun b => by
          by_cases e : b = a
          · rw [e]; exact Or.inr u4
          · exact Or.inl (u5 b e))
      · refine ⟨decide_eq_true (by rw [ev, q.1]), ?_⟩
        exact fin_fr J' jc u2 q.2 u6 (fun b => by
          by_cases e : b = a
          · rw [e]; exact Or.inr u4
          · exact Or.inl (u5 b e))
    · have hB : frB w m m := ⟨bas_refl m, jc.1⟩
      have q220 : (rf_i m 206 0 0).1 220 = m.1 220 := (mA_fr hB).1 220 (by omega)
      simp only [wp_b, wp_bv, wp_g, wp_ite, wp_some, X3_isReading, X11_isWithin, X14_isReading, bi_eq0, c1, h1, h2, q17, q220, hr, g12, not_true, false_implies, not_false_eq_true, true_implies, true_and]
      have := refv m hB
      simp only [wp_bv, wp_g, g12, true_and] at this
      have ne : ∀ k : Nat, k < 9 → ¬ y 2 = Int32.ofNat k := fun k hk e => h2 (by rw [e]; exact ⟨of_nn (by omega), (of_le (b := 8) (by omega) (by omega)).mpr (by omega)⟩)
      have n0 : ¬ y 2 = 0 := ne 0 (by omega)
      have n1 : ¬ y 2 = 1 := ne 1 (by omega)
      have n2 : ¬ y 2 = 2 := ne 2 (by omega)
      have n3 : ¬ y 2 = 3 := ne 3 (by omega)
      have n4 : ¬ y 2 = 4 := ne 4 (by omega)
      have n5 : ¬ y 2 = 5 := ne 5 (by omega)
      have n6 : ¬ y 2 = 6 := ne 6 (by omega)
      have n7 : ¬ y 2 = 7 := ne 7 (by omega)
      have n8 : ¬ y 2 = 8 := ne 8 (by omega)
      rw [if_neg n0, if_neg n1, if_neg n2, if_neg n3, if_neg n4, if_neg n5, if_neg n6, if_neg n7, if_neg n8] at this
      refine ⟨wp_mono this (fun m3 hz => ?_), trivial⟩
      rw [wp_ite] at hz
      refine ⟨fun p => wp_mono (hz.1 p) (fun z q => ?_), fun p => wp_mono (hz.2 p) (fun z q => ?_)⟩
      · exact ⟨decide_eq_true q.1.symm, fin_fr J' jc hB q.2 rfl (fun b => Or.inl rfl)⟩
      · exact ⟨decide_eq_true q.1.symm, fin_fr J' jc hB q.2 rfl (fun b => Or.inl rfl)⟩
  · simp only [wp_b, wp_bv, wp_g, wp_ite, wp_some, X3_isReading, X14_isReading, bi_eq0, c1, h1, q17, not_true, false_implies, not_false_eq_true, true_implies, true_and, and_true, decide_true]
    exact cache_i0 J' jc
end PBReading
