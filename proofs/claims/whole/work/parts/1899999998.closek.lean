/-! chains: close -/
section PBCloseK
theorem isOf_sd {w : rf_w} {m M : rf_m} {a b : Int32} (jb : JBase m) (jm : JMark m) (ha : ib a (m.1 206 55)) (hb : ib b (m.1 206 55)) (h36 : M.1 236 = m.1 236) (h37 : M.1 237 = m.1 237) : g_X14_isOf w M a (m.1 236 b.toNatClampNeg) (m.1 237 b.toNatClampNeg) = some (bi (m.1 43 a.toNatClampNeg = m.1 43 b.toNatClampNeg), M) := by
  have h6 : ib a 6 := ⟨ha.1, by have a' := ha.2; have d := jb.2.1.2; clear jb; grind⟩
  obtain ⟨sa, a1, a2⟩ := base_sd jb jm (tn_lt2 ha.1 ha.2)
  obtain ⟨sb, b1, b2⟩ := base_sd jb jm (tn_lt2 hb.1 hb.2)
  rw [X14_isOf (gin (N := 6) h6.1 h6.2 (by decide)), h36, h37, sa, sb]
  rw [bi_congr (show isOfP (m.1 236) (m.1 237) a.toNatClampNeg (m.1 236 b.toNatClampNeg) (m.1 237 b.toNatClampNeg) ↔ sd (m.1 236 a.toNatClampNeg) (m.1 237 a.toNatClampNeg) = sd (m.1 236 b.toNatClampNeg) (m.1 237 b.toNatClampNeg) from (sd_iff b1 b2 a1 a2).symm)]
theorem mx_c {a b : Int32} : (if a < b then b else a) = (if b < a then a else b) := by
  by_cases c1 : a < b
  · have c2 : ¬ b < a := fun z => by have := i_lt.mp c1; have := i_lt.mp z; omega
    rw [if_pos c1, if_neg c2]
  · rw [if_neg c1]
    by_cases c2 : b < a
    · rw [if_pos c2]
    · rw [if_neg c2]; exact Int32.le_antisymm (Int32.not_lt.mp c2) (Int32.not_lt.mp c1)
theorem k37 {c : Nat} {w : rf_w} {m : rf_m} {y : Nat → Int32} (J : JCnt c w m) (jc : JCache w m) (jn : JNet m) (jb : JBase m) (jD : JD m) (jt : JT m) (jl : JTell m) : wp (g_lc_37 w m y) (fun r => r.1 = w ∧ JCnt c w r.2 ∧ JCache w r.2 ∧ JT r.2 ∧ JTell r.2 ∧ chA m r.2) := by
  have o1 : ¬ (1 : Int32) = 0 := by decide
  have ja := J.2.2.2.2.1
  have jm := J.2.2.2.2.2.1
  have ju := J.2.2.2.1
  have gx : ∀ (Y : rf_m) (u v : Int32), g_max w Y u v = some (if u < v then v else u, Y) := fun Y u v => by unfold g_max; split <;> rfl
  have rc : (rf_b (g_X11_refused w m 1) fun y1 m1 => some (y1, m1)) = some (-1, rf_i m 0 11 1) := rfl
  have g6 : ∀ a : Int32, ib a (m.1 206 55) → rf_in a 6 = true := fun a ha => gin (N := 6) ha.1 (by have a' := ha.2; have d := jb.2.1.2; clear jb jn; grind) (by decide)
  have sAt : ∀ (X : rf_m) (a : Int32), ib a (m.1 206 55) → X.1 43 = m.1 43 → g_X6_sideAt w X a = some (m.1 43 a.toNatClampNeg, X) := fun X a ha hX => by
    unfold g_X6_sideAt
    rw [g6 a ha, g_t, hX]
  -- refusals
  have refused : g_X11_close w m (y 1) (y 2) = some (-1, rf_i m 0 11 1) → g_X14_close w (rf_i m 0 11 1) (y 1) (y 2) = some (-1, dnM m 1) → wp (g_lc_37 w m y) (fun r => r.1 = w ∧ JCnt c w r.2 ∧ JCache w r.2 ∧ JT r.2 ∧ JTell r.2 ∧ chA m r.2) := fun h1 h2 => by
    unfold g_lc_37
    rw [h1, b_sm, h2, b_sm, decide_eq_true rfl, g_t, wp_some]
    obtain ⟨a1, a2, a3⟩ := dn_fin (v := 1) J jc jt (by decide)
    exact ⟨rfl, a1, a2, a3, tell_dn jl, chA_dn⟩
  have i1 : (rf_i (rf_i m 0 11 1) 206 0 0).1 206 55 = m.1 206 55 := rfl
  have rr : (rf_b (g_X14_refused w (rf_i (rf_i m 0 11 1) 206 0 0) 1) fun y1 m1 => some (y1, m1)) = some (-1, dnM m 1) := rfl
  by_cases q1 : ib (y 1) (m.1 206 55)
  · by_cases q2 : ib (y 2) (m.1 206 55)
    · by_cases q3 : m.1 43 (y 1).toNatClampNeg = m.1 43 (y 2).toNatClampNeg
      · refine refused ?_ ?_
        · unfold g_X11_close
          rw [X6_isBase, jb.1, b_sm, bi_t q1, if_neg o1, X6_isBase, jb.1, b_sm, bi_t q2, if_neg o1, sAt m _ q1 rfl, b_sm, sAt m _ q2 rfl, b_sm, if_pos q3, rc]
        · unfold g_X14_close
          have e36 : (rf_i (rf_i m 0 11 1) 206 0 0).1 236 = m.1 236 := rfl
          have e37 : (rf_i (rf_i m 0 11 1) 206 0 0).1 237 = m.1 237 := rfl
          rw [X14_isBase, i1, b_sm, bi_t q1, if_neg o1, X14_isBase, i1, b_sm, bi_t q2, if_neg o1, g6 _ q2, g_t, g_t, e36, e37, isOf_sd jb jm q1 q2 e36 e37, b_sm, bi_t q3, if_neg o1, rr]
      · unfold g_lc_37 g_X11_close
        obtain ⟨sb, p1, p2⟩ := base_sd jb jm (tn_lt2 q2.1 q2.2)
        obtain ⟨m2, e1, e2⟩ := freshenAll_c J jc
        have d10 : m2.1 0 10 = m.1 206 5 := by rw [all_c e2 0 (by omega)]; exact jD.1
        obtain ⟨F, f, hF⟩ := least_c (w := w) (m := m2) (day := m.1 206 5) (keep_rule (all_keep e2) ju)
        generalize hm4 : stl (stc m2 18 f) 25 F = m4 at hF
        have hl4 : ∀ z, 41 ≤ z → m4.2 z = m.2 z := fun z hz => by rw [← hm4]; show (if z = 25 then F else m2.2 z) = _; rw [if_neg (by omega)]; exact fa_3 e1 z hz
        have e4 : allF w m m4 := all_18 e2 (fun c hc => by rw [← hm4]; show (stc m2 18 f).1 c = _; rw [stc_c, if_neg hc])
        rw [show leastV m2 (m.1 206 5) = leastV m (m.1 206 5) from lat_m (all_keep e2)] at hF
        obtain ⟨X', why, s1, s2, s3, s4⟩ := seek_both J jn jb e4 q1 p1 p2
        rw [← sb] at s1
        rw [X6_isBase, jb.1, b_sm, bi_t q1, if_neg o1, X6_isBase, jb.1, b_sm, bi_t q2, if_neg o1, sAt m _ q1 rfl, b_sm, sAt m _ q2 rfl, b_sm, if_neg q3, e1, bv_sm, sAt m2 _ q2 (all_c e2 43 (by omega)), b_sm, d10, hF, b_sm, s1, b_sm]
        obtain ⟨lo, hi, _, _, hsp, t0, t1, t2⟩ := span_eq (w := w) jb jm q2
        have x6 : X'.1 206 = m.1 206 := by rw [s2.1 206 (by omega)]; exact all_c e4 206 (by omega)
        have heX : bEq m X' := ⟨fun z hz => by rw [s2.1 z (by omega)]; exact all_c e4 z (by omega), x6⟩
        obtain ⟨sp1, sp2⟩ := span_x jb jm q2 heX hsp
        have z6 : ∀ v : Int32, (rf_i X' 0 11 v).1 206 = m.1 206 := fun v => by rw [rf_i_c, if_neg (by decide)]; exact x6
        have zB : ∀ v z, (236 ≤ z ∧ z ≤ 242) → (rf_i (rf_i X' 0 11 v) 206 0 0).1 z = m.1 z := fun v z hz => by rw [rf_i_c, if_neg (by omega), rf_i_c, if_neg (by omega)]; exact heX.1 z (by omega)
        have refE : ∀ v : Int32, g_X14_close w (rf_i X' 0 11 v) (y 1) (y 2) = rf_b (g_X14_chainOf w (rf_i (rf_i X' 0 11 v) 206 0 0) (y 1) (m.1 236 (y 2).toNatClampNeg) (m.1 237 (y 2).toNatClampNeg)) fun y9 m9 => (if y9 ≤ 0 then rf_b (g_X14_spanOf w m9 (y 2) 1) fun y10 m10 => rf_b (g_X14_spanOf w m10 (y 2) 0) fun y11 m11 => rf_b (g_max w m11 ((m9.1 206 111) - y10) (y11 - (m11.1 206 112))) fun y12 m12 => rf_b (g_max w m12 0 y12) fun y13 m13 => rf_b (g_X14_done w m13 y13) fun y14 m14 => some (y14, m14) else rf_b (g_X14_refused w m9 y9) fun y15 m15 => some (y15, m15)) := fun v => by
          have j1 : (rf_i (rf_i X' 0 11 v) 206 0 0).1 206 55 = m.1 206 55 := by rw [rf_i_c, if_pos rfl, pu_ne (by decide), z6]
          unfold g_X14_close
          rw [X14_isBase, j1, b_sm, bi_t q1, if_neg o1, X14_isBase, j1, b_sm, bi_t q2, if_neg o1, g6 _ q2, g_t, g_t, zB v 236 (by omega), zB v 237 (by omega), isOf_sd jb jm q1 q2 (zB v 236 (by omega)) (zB v 237 (by omega)), b_sm, bi_f q3, if_pos rfl, g_t, g_t, zB v 236 (by omega), zB v 237 (by omega)]
        by_cases hw : why = 0
        · rw [if_pos hw]
          have ap : g_X4_apartFrom w X' (y 2) = some (if (0 : Int32) < (if lo - X'.1 175 3 < X'.1 175 2 - hi then X'.1 175 2 - hi else lo - X'.1 175 3) then (if lo - X'.1 175 3 < X'.1 175 2 - hi then X'.1 175 2 - hi else lo - X'.1 175 3) else 0, X') := by
            unfold g_X4_apartFrom
            rw [sp1, b_sm, sp2, b_sm, gx, b_sm, gx, b_sm]
          rw [ap, b_sm]
          generalize hv : (if (0 : Int32) < (if lo - X'.1 175 3 < X'.1 175 2 - hi then X'.1 175 2 - hi else lo - X'.1 175 3) then (if lo - X'.1 175 3 < X'.1 175 2 - hi then X'.1 175 2 - hi else lo - X'.1 175 3) else 0) = v
          have an : (rf_b (g_X11_answered w X' v) fun y8 m8 => some (y8, m8)) = some (v, rf_i X' 0 11 0) := rfl
          rw [an, b_sm, refE 0]
          obtain ⟨zm1, zm2, zm3⟩ := zM (X' := X') (v := 0)
          obtain ⟨M', r1, r2, r3, r4⟩ := s4 _ zm1 zm3
          have le : why ≤ 0 := by rw [hw]; exact Int32.le_refl _
          have ry := r4 hw
          have bM' : bM m M' := by
            have g : ∀ z, 236 ≤ z ∧ z ≤ 242 → M'.1 z = m.1 z := fun z hz => by rw [r2.1 z (by omega) (by omega) (by omega) (by omega) (by omega) (by omega) (by omega)]; exact zB 0 z hz
            exact ⟨by rw [r2.2.1 55 (by omega), zm3 55 (by decide), x6], by rw [r2.2.1 56 (by omega), zm3 56 (by decide), x6], g 236 (by omega), g 237 (by omega), g 239 (by omega), g 240 (by omega), g 241 (by omega), g 242 (by omega)⟩
          obtain ⟨u1, u2⟩ := hsp M' bM'
          rw [r1, b_sm, if_pos le, u2, b_sm, u1, b_sm, gx, b_sm, gx, b_sm, ← ry.1, ← ry.2.1]
          have ev : (if (0 : Int32) < (if X'.1 175 2 - hi < lo - X'.1 175 3 then lo - X'.1 175 3 else X'.1 175 2 - hi) then (if X'.1 175 2 - hi < lo - X'.1 175 3 then lo - X'.1 175 3 else X'.1 175 2 - hi) else 0) = v := by rw [mx_c (a := X'.1 175 2 - hi) (b := lo - X'.1 175 3)]; exact hv
          rw [ev]
          have dn : (rf_b (g_X14_done w M' v) fun y7 m7 => some (y7, m7)) = some (v, rf_i (rf_i M' 206 1 0) 206 2 (-1)) := rfl
          rw [dn, b_sm, decide_eq_true rfl, g_t, wp_some]
          obtain ⟨f1, f2, f3, f4⟩ := dn_mem (M := M') (v := 0)
          obtain ⟨a1, a2, a3, a4⟩ := ch_fin J jt e4 s2 zm1 zm2 zm3 r2 f1 f2 f3 f4 (by decide) hl4 rfl rfl
          exact ⟨rfl, a1, a2, a3, tell_y ry zm1 r2 f1 f2, a4⟩
        · rw [if_neg hw]
          have rf : (rf_b (g_X11_refused w X' why) fun y7 m7 => some (y7, m7)) = some (-1, rf_i X' 0 11 why) := rfl
          rw [rf, b_sm, refE why]
          obtain ⟨zm1, zm2, zm3⟩ := zM (X' := X') (v := why)
          obtain ⟨M', r1, r2, r3, r4⟩ := s4 _ zm1 zm3
          have nle' : ¬ why ≤ 0 := by rcases s3 with q | q | q <;> rw [q] at hw ⊢ <;> first | exact absurd rfl hw | decide
          rw [r1, b_sm, if_neg nle']
          have dn : (rf_b (g_X14_refused w M' why) fun y7 m7 => some (y7, m7)) = some (-1, rf_i (rf_i M' 206 1 why) 206 2 (-1)) := rfl
          rw [dn, b_sm, decide_eq_true rfl, g_t, wp_some]
          obtain ⟨f1, f2, f3, f4⟩ := dn_mem (M := M') (v := why)
          have h4 : why ≠ 4 := by rcases s3 with q | q | q <;> rw [q] <;> decide
          obtain ⟨a1, a2, a3, a4⟩ := ch_fin J jt e4 s2 zm1 zm2 zm3 r2 f1 f2 f3 f4 h4 hl4 rfl rfl
          exact ⟨rfl, a1, a2, a3, tell_n jl e4 (r3 hw).1 (r3 hw).2 zm1 zm3 s2 r2 f1 f2, a4⟩
    · refine refused ?_ ?_
      · unfold g_X11_close
        rw [X6_isBase, jb.1, b_sm, bi_t q1, if_neg o1, X6_isBase, jb.1, b_sm, bi_f q2, if_pos rfl, rc]
      · unfold g_X14_close
        rw [X14_isBase, i1, b_sm, bi_t q1, if_neg o1, X14_isBase, i1, b_sm, bi_f q2, if_pos rfl, rr]
  · refine refused ?_ ?_
    · unfold g_X11_close
      rw [X6_isBase, jb.1, b_sm, bi_f q1, if_pos rfl, rc]
    · unfold g_X14_close
      rw [X14_isBase, i1, b_sm, bi_f q1, if_pos rfl, rr]
end PBCloseK
