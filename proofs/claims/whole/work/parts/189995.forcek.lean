/-! force, both sides -/
section PBForceK
/-- but for the numbers of trouble -/
theorem fin_t {cc : Nat} {w : rf_w} {m M : rf_m} (J : JCnt cc w m) (jc : JCache w m) (h0 : ∀ z, z ≠ 0 → z ≠ 206 → M.1 z = m.1 z) (h2 : ∀ k, k ≠ 0 → k ≠ 1 → k ≠ 2 → M.1 206 k = m.1 206 k) : JCnt cc w M ∧ JCache w M := by
  have hk : keep m M := ⟨fun c hc => h0 c (by omega) (by omega), fun k _ => by rw [h0 26 (by decide) (by decide)], fun k hk => h2 k (by omega) (by omega) (by omega), fun _ _ _ _ => by rw [h0 32 (by decide) (by decide)], fun _ _ => by rw [h0 34 (by decide) (by decide)]⟩
  refine ⟨keep_cnt hk J, keep_cache hk J (fun a ha hz => ?_) (fun hz a ha => ?_)⟩
  · rw [h0 40 (by decide) (by decide)] at hz
    exact fre_of (jc.1 a ha hz) (h0 31 (by decide) (by decide)) (h0 32 (by decide) (by decide)) (h0 34 (by decide) (by decide))
  · rw [h0 26 (by decide) (by decide)] at hz
    rw [h0 40 (by decide) (by decide)]
    exact jc.2 hz a ha
def dnM (m : rf_m) (v : Int32) : rf_m := rf_i (rf_i (rf_i (rf_i m 0 11 v) 206 0 0) 206 1 v) 206 2 (-1)
theorem dn_0 {m : rf_m} {v : Int32} (z : Nat) (h1 : z ≠ 0) (h2 : z ≠ 206) : (dnM m v).1 z = m.1 z := by
  unfold dnM
  rw [rf_i_c, if_neg h2, rf_i_c, if_neg h2, rf_i_c, if_neg h2, rf_i_c, if_neg h1]
theorem dn_206 {m : rf_m} {v : Int32} (k : Nat) (h0 : k ≠ 0) (h1 : k ≠ 1) (h2 : k ≠ 2) : (dnM m v).1 206 k = m.1 206 k := by
  unfold dnM
  rw [rf_i_c, if_pos rfl, pu_ne h2, rf_i_c, if_pos rfl, pu_ne h1, rf_i_c, if_pos rfl, pu_ne h0, rf_i_c, if_neg (by decide)]
theorem dn_T {m : rf_m} {v : Int32} (jt : JT m) (hv : v ≠ 4) : JT (dnM m v) := by
  have a1 : (dnM m v).1 0 11 = v := rfl
  have a2 : (dnM m v).1 206 1 = v := rfl
  have a3 : (dnM m v).1 0 12 = m.1 0 12 := rfl
  have a4 : (dnM m v).1 206 3 = m.1 206 3 := rfl
  have a5 : (dnM m v).1 206 2 = -1 := rfl
  unfold JT
  rw [a1, a2, a3, a4, a5, if_neg hv]
  exact ⟨rfl, jt.2.1, rfl⟩
theorem dn_fin {cc : Nat} {w : rf_w} {m : rf_m} {v : Int32} (J : JCnt cc w m) (jc : JCache w m) (jt : JT m) (hv : v ≠ 4) : JCnt cc w (dnM m v) ∧ JCache w (dnM m v) ∧ JT (dnM m v) := by
  have := fin_t J jc (M := dnM m v) (fun z h1 h2 => dn_0 z h1 h2) (fun k h0 h1 h2 => dn_206 k h0 h1 h2)
  exact ⟨this.1, this.2, dn_T jt hv⟩
/-- what force leaves as it was -/
def foF (w : rf_w) (m M : rf_m) : Prop := ∃ c, (rob w c ∨ c = 20) ∧ (∀ z, z ≠ 0 → z ≠ 20 → z ≠ 21 → z ≠ 26 → z ≠ 40 → z ≠ 206 → z ≠ c → M.1 z = m.1 z) ∧ (∀ k, k ≠ 19 → M.1 26 k = m.1 26 k) ∧ (∀ k, k ≠ 0 → k ≠ 1 → k ≠ 2 → M.1 206 k = m.1 206 k) ∧ (∀ k, k ≠ 11 → M.1 0 k = m.1 0 k) ∧ M.2 = m.2
theorem foF_dn {w : rf_w} {m : rf_m} {v : Int32} : foF w m (dnM m v) := ⟨20, Or.inr rfl, fun z h0 _ _ _ _ h6 _ => dn_0 z h0 h6, fun k _ => by rw [dn_0 26 (by decide) (by decide)], fun k h0 h1 h2 => dn_206 k h0 h1 h2, fun k hk => by
  unfold dnM
  rw [rf_i_c, if_neg (by decide), rf_i_c, if_neg (by decide), rf_i_c, if_neg (by decide), rf_i_c, if_pos rfl, pu_ne hk], rfl⟩
theorem force_r {w : rf_w} {M : rf_m} {r c : Nat} {x y : Int32} (h24 : r < 24) (hr : Int32.ofNat r < M.1 206 39) (hc : w.2.2 (r + 2) = some c) (ho : rob w c) (hx : ib x 10000) (hy : iv x 9999 y) : g_X14_force w M (Int32.ofNat r) x y = some (1, rf_i (rf_i (rf_i (rf_i (rf_i M 206 0 0) c 1 x) c 2 y) 206 1 0) 206 2 (-1)) := by
  obtain ⟨r1, r2, r3, r4, r5, r6⟩ := ho
  have o1 : ¬ (1 : Int32) = 0 := by decide
  have l0 : ¬ Int32.ofNat r < 0 := by have := of_nn (a := r) (by omega); grind
  have e39 : (rf_i M 206 0 0).1 206 39 = M.1 206 39 := rfl
  unfold g_X14_force
  rw [if_neg l0, e39, if_pos hr, X14_isDay, bi_t hx]
  simp only [rf_b]
  rw [if_neg o1, X14_in, bi_t hy]
  simp only
  rw [if_neg o1, gof (by omega) (by decide), g_t, tn_of (by omega), Rt229, hc]
  simp only [rf_o]
  rw [r1, r2, r3, r4, r5]
  simp only [g_t]
  rfl
/-- force -/
theorem k18 {cc : Nat} {w : rf_w} {m : rf_m} {y : Nat → Int32} (J : JCnt cc w m) (jc : JCache w m) (ji : JInj w m) (jt : JT m) : wp (g_lc_18 w m y) (fun r => r.1 = w ∧ JCnt cc w r.2 ∧ JCache w r.2 ∧ JT r.2 ∧ foF w m r.2) := by
  have ju := J.2.2.2.1
  have ja := J.2.2.2.2.1
  have h80 := ang80 ja
  have o1 : ¬ (1 : Int32) = 0 := by decide
  have q3 : m.1 13 3 = m.1 206 39 := ju.1
  have i39 := ju.2.1
  have hb : (m.1 206 39).toNatClampNeg ≤ 24 := tn_le i39.1 i39.2 (by decide)
  unfold g_lc_18
  by_cases h1 : ib (y 1) (m.1 206 39)
  · have ey : Int32.ofNat (y 1).toNatClampNeg = y 1 := of_tn h1.1
    have hr : (y 1).toNatClampNeg < (m.1 206 39).toNatClampNeg := tn_lt2 h1.1 h1.2
    have l2 : iv 0 (m.1 206 39 - 1) (y 1) := ⟨h1.1, by have a := h1.2; have b := i39.1; have b' := i39.2; have d := h1.1; clear J ju; grind⟩
    have l0 : ¬ y 1 < 0 := by have := h1.1; clear J ju; grind
    have l1 := h1.2
    by_cases h2 : ib (y 2) 10000 ∧ ib (y 3) 10000 ∧ ¬ y 3 < y 2
    · have hy : iv (y 2) 9999 (y 3) := ⟨by have := h2.2.2; clear J ju; grind, by have := h2.2.1.2; have := h2.2.1.1; clear J ju; grind⟩
      obtain ⟨c, hk⟩ := ju.2.2 _ hr
      have hc := hk.1
      have hob := hk.2.1
      have hc6 := hob.2.2.2.2.2
      generalize hrv : (y 1).toNatClampNeg = r at *
      -- what is left, from the class's memory X
      have fin : ∀ X : rf_m, (∀ z, z ≠ 0 → z ≠ 20 → z ≠ 21 → z ≠ 26 → z ≠ 40 → X.1 z = m.1 z) → X.1 0 = m.1 0 → X.1 20 = pu (m.1 20) r (y 2) → X.1 21 = pu (m.1 21) r (y 3) → (∀ k, k ≠ 19 → X.1 26 k = m.1 26 k) → (∀ M : rf_m, M.1 40 = X.1 40 → M.1 26 = X.1 26 → forM m M r c (y 2) (y 3) → JCache w M) → X.2 = m.2 → g_X11_force w m (y 1) (y 2) (y 3) = some (1, rf_i X 0 11 0) → wp (rf_b (g_X11_force w m (y 1) (y 2) (y 3)) fun z0 m0x => rf_b (g_X14_force w m0x (y 1) (y 2) (y 3)) fun z1 m1x => rf_g (decide (z0 = z1)) (some (w, m1x))) (fun r => r.1 = w ∧ JCnt cc w r.2 ∧ JCache w r.2 ∧ JT r.2 ∧ foF w m r.2) := by
        intro X x0 x1 x2 x3 x4 x5 xl x6
        have e39 : (rf_i X 0 11 0).1 206 39 = m.1 206 39 := by rw [rf_i_c, if_neg (by decide), x0 206 (by decide) (by decide) (by decide) (by decide) (by decide)]
        have := force_r (w := w) (M := rf_i X 0 11 0) (r := r) (c := c) (x := y 2) (y := y 3) (by omega) (by rw [e39, ey]; exact h1.2) hc hob h2.1 hy
        rw [ey] at this
        rw [x6, wp_b, wp_some, wp_b, this, wp_some, wp_g, wp_some]
        generalize hM : rf_i (rf_i (rf_i (rf_i (rf_i (rf_i X 0 11 0) 206 0 0) c 1 (y 2)) c 2 (y 3)) 206 1 0) 206 2 (-1) = M
        have nc : c ≠ 206 := by omega
        have z0 : ∀ z, z ≠ 0 → z ≠ 206 → z ≠ c → M.1 z = X.1 z := fun z a1 a2 a3 => by rw [← hM, rf_i_c, if_neg a2, rf_i_c, if_neg a2, rf_i_c, if_neg a3, rf_i_c, if_neg a3, rf_i_c, if_neg a2, rf_i_c, if_neg a1]
        have zc : M.1 c = pu (pu (m.1 c) 1 (y 2)) 2 (y 3) := by
          rw [← hM, rf_i_c, if_neg nc, rf_i_c, if_neg nc, rf_i_c, if_pos rfl, rf_i_c, if_pos rfl, rf_i_c, if_neg nc, rf_i_c, if_neg (by omega), x0 c (by omega) (by omega) (by omega) (by omega) (by omega)]
        have z6 : M.1 206 = pu (pu (pu (m.1 206) 0 0) 1 0) 2 (-1) := by
          rw [← hM, rf_i_c, if_pos rfl, rf_i_c, if_pos rfl, rf_i_c, if_neg (Ne.symm nc), rf_i_c, if_neg (Ne.symm nc), rf_i_c, if_pos rfl, rf_i_c, if_neg (by decide), x0 206 (by decide) (by decide) (by decide) (by decide) (by decide)]
        have zz : M.1 0 = pu (m.1 0) 11 0 := by
          have n0 : (0 : Nat) ≠ c := by omega
          rw [← hM, rf_i_c, if_neg (by decide), rf_i_c, if_neg (by decide), rf_i_c, if_neg n0, rf_i_c, if_neg n0, rf_i_c, if_neg (by decide), rf_i_c, if_pos rfl, x1]
        have hf : forM m M r c (y 2) (y 3) := by
          refine ⟨fun z a1 a2 a3 a4 a5 a6 a7 => ?_, ?_, ?_, zc, fun k hk => ?_, fun k a0 a1 a2 => ?_⟩
          · rw [z0 z a1 a6 a7]; exact x0 z a1 a2 a3 a4 a5
          · rw [z0 20 (by decide) (by decide) (by omega)]; exact x2
          · rw [z0 21 (by decide) (by decide) (by omega)]; exact x3
          · rw [z0 26 (by decide) (by decide) (by omega)]; exact x4 k hk
          · rw [z6, pu_ne a2, pu_ne a1, pu_ne a0]
        refine ⟨decide_eq_true rfl, rfl, (force_cnt J ji hr hc hf).1, x5 M (z0 40 (by decide) (by decide) (by omega)) (z0 26 (by decide) (by decide) (by omega)) hf, ?_, ⟨c, Or.inl hob, hf.1, hf.2.2.2.2.1, hf.2.2.2.2.2, fun k hk => by rw [zz, pu_ne hk], by rw [← hM]; exact xl⟩⟩
        unfold JT
        rw [zz, z6]
        refine ⟨rfl, jt.2.1, ?_⟩
        have : ¬ (0 : Int32) = 4 := by decide
        exact (if_neg this).symm
      have g24 : rf_in (y 1) 24 = true := by rw [← ey]; exact gof (by omega) (by decide)
      have hm1 : ∀ (X : rf_m) (k : Nat) (v : Int32) (z : Nat), (rf_i X z k v).1 z = pu (X.1 z) k v := fun X k v z => by rw [rf_i_c, if_pos rfl]
      by_cases hs : m.1 19 r = 1
      · obtain ⟨m', f1, f2, f3, f4, f5, f6⟩ := forgetAll_c (w := w) (m := rf_i (rf_i m 20 r (y 2)) 21 r (y 3)) (A := m.1 206 16) ja.1 h80 ja.2.1.1
        refine fin m' (fun z a1 a2 a3 a4 a5 => ?_) ?_ ?_ ?_ (fun k hk => ?_) (fun M e1 e2 hf => ?_) f6 ?_
        · rw [f2 z a4 a5, rf_i_c, if_neg a3, rf_i_c, if_neg a2]
        · rw [f2 0 (by decide) (by decide)]; rfl
        · rw [f2 20 (by decide) (by decide), rf_i_c, if_neg (by decide), hm1]
        · rw [f2 21 (by decide) (by decide), hm1, rf_i_c, if_neg (by decide)]
        · rw [f3 k hk]; rfl
        · have e16 := hf.2.2.2.2.2 16 (by decide) (by decide) (by decide)
          exact stale_cache (fun a ha => by rw [e1]; rw [e16] at ha; exact f4 a ha) (fun h => by rw [e2]; rw [e16] at h; exact f5 h)
        · have e19 : (rf_i (rf_i m 20 r (y 2)) 21 r (y 3)).1 19 r = 1 := hs
          unfold g_X11_force g_X9_putInForce g_X9_isStriking
          rw [X11_isWithin, q3, bi_t l2]
          simp only [rf_b]
          rw [if_neg o1, X11_isTime, bi_t h2]
          simp only [rf_bv]
          rw [if_neg o1, g24, hrv]
          simp only [g_t]
          rw [e19, if_pos rfl]
          simp only
          rw [if_neg o1, f1]
          rfl
      · refine fin (rf_i (rf_i m 20 r (y 2)) 21 r (y 3)) (fun z a1 a2 a3 a4 a5 => ?_) rfl ?_ ?_ (fun k hk => rfl) (fun M e1 e2 hf => ?_) rfl ?_
        · rw [rf_i_c, if_neg a3, rf_i_c, if_neg a2]
        · rw [rf_i_c, if_neg (by decide), hm1]
        · rw [hm1, rf_i_c, if_neg (by decide)]
        · exact force_cache J jc ji hr hc hf hs e1 (by rw [e2]; rfl)
        · have e19 : ¬ (rf_i (rf_i m 20 r (y 2)) 21 r (y 3)).1 19 r = 1 := hs
          unfold g_X11_force g_X9_putInForce g_X9_isStriking
          rw [X11_isWithin, q3, bi_t l2]
          simp only [rf_b]
          rw [if_neg o1, X11_isTime, bi_t h2]
          simp only [rf_bv]
          rw [if_neg o1, g24, hrv]
          simp only [g_t]
          rw [if_neg e19]
          rfl
    · have e39 : (rf_i (rf_i m 0 11 2) 206 0 0).1 206 39 = m.1 206 39 := rfl
      have hcl : g_X11_force w m (y 1) (y 2) (y 3) = some (0, rf_i m 0 11 2) := by
        unfold g_X11_force g_X11_denied
        rw [X11_isWithin, q3, bi_t l2]
        simp only [rf_b]
        rw [if_neg o1, X11_isTime, bi_f h2]
        rfl
      have hre : g_X14_force w (rf_i m 0 11 2) (y 1) (y 2) (y 3) = some (0, dnM m 2) := by
        unfold g_X14_force g_X14_denied
        rw [if_neg l0, e39, if_pos l1, X14_isDay]
        simp only [rf_b]
        by_cases p : ib (y 2) 10000
        · rw [bi_t p, if_neg o1, X14_in]
          have p2 : ¬ iv (y 2) 9999 (y 3) := fun q => h2 ⟨p, ⟨by have := p.1; have := q.1; clear J ju; grind, by have := q.2; clear J ju; grind⟩, by have := q.1; clear J ju; grind⟩
          rw [bi_f p2]
          rfl
        · rw [bi_f p]
          rfl
      rw [hcl, wp_b, wp_some, wp_b, hre, wp_some, wp_g, wp_some]
      have := dn_fin (v := 2) J jc jt (by decide)
      exact ⟨decide_eq_true rfl, rfl, this.1, this.2.1, this.2.2, foF_dn⟩
  · have l2 : ¬ iv 0 (m.1 206 39 - 1) (y 1) := fun q => h1 ⟨q.1, by have a := q.2; have b := i39.1; have b' := i39.2; have d := q.1; clear J ju; grind⟩
    have e39 : (rf_i (rf_i m 0 11 1) 206 0 0).1 206 39 = m.1 206 39 := rfl
    have hcl : g_X11_force w m (y 1) (y 2) (y 3) = some (0, rf_i m 0 11 1) := by
      unfold g_X11_force g_X11_denied
      rw [X11_isWithin, q3, bi_f l2]
      rfl
    have hre : g_X14_force w (rf_i m 0 11 1) (y 1) (y 2) (y 3) = some (0, dnM m 1) := by
      unfold g_X14_force g_X14_denied
      by_cases p : y 1 < 0
      · rw [if_pos p]; rfl
      · have l1 : ¬ y 1 < m.1 206 39 := fun q => h1 ⟨by clear J ju; grind, q⟩
        rw [if_neg p, e39, if_neg l1]; rfl
    rw [hcl, wp_b, wp_some, wp_b, hre, wp_some, wp_g, wp_some]
    have := dn_fin (v := 1) J jc jt (by decide)
    exact ⟨decide_eq_true rfl, rfl, this.1, this.2.1, this.2.2, foF_dn⟩
end PBForceK
