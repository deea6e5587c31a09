/-! blunder: the call -/
section PBBlunderK
theorem k41 {c : Nat} {w : rf_w} {m : rf_m} {y : Nat → Int32} (J : JCnt c w m) (jc : JCache w m) (jD : JD m) (jn : JNet m) (js : JSus m) (jg : JGuilt m) : wp (g_lc_41 w m y) (fun r => r.1 = w ∧ JCnt c w r.2 ∧ JCache w r.2 ∧ JNet r.2 ∧ JSus r.2 ∧ JGuilt r.2) := by
  have ja := J.2.2.2.2.1
  have ju := J.2.2.2.1
  have j := J.2.1
  have hn12 : (m.1 206 17).toNatClampNeg ≤ 1200 := tn_le j.2.1.1 j.2.1.2 (by decide)
  have hL : 0 ≤ allowV m (m.1 206 5) := by
    unfold allowV
    by_cases z : 0 < latV m 5 (m.1 206 5) 100
    · rw [if_pos z]; exact Int32.le_of_lt z
    · rw [if_neg z]; decide
  obtain ⟨m2, e1, e2⟩ := freshenAll_c J jc
  have d10 : m2.1 0 10 = m.1 206 5 := by rw [all_c e2 0 (by omega)]; exact jD.1
  obtain ⟨F, f, hF⟩ := allow_c (w := w) (m := m2) (day := m.1 206 5) (keep_rule (all_keep e2) ju)
  generalize hm3 : stl (stc m2 18 f) 25 F = m3 at hF
  have e3 : allF w m m3 := all_18 e2 (fun c hc => by rw [← hm3]; show (stc m2 18 f).1 c = _; rw [stc_c, if_neg hc])
  have eL : allowV m2 (m.1 206 5) = allowV m (m.1 206 5) := by unfold allowV; rw [lat_m (all_keep e2)]
  rw [eL] at hF
  have q3 : ∀ z, 41 ≤ z → m3.1 z = m.1 z := fun z hz => all_c e3 z (by omega)
  have h7 : 0 ≤ m.1 50 7 := jn.2.2.2.2.2.2.2.2.1
  have js' := js
  obtain ⟨u, u1, u2, u3, u4, u5, u6, u7⟩ := js
  obtain ⟨v, X4, f1, f2, f3, hV, f4⟩ := few_c (w := w) (A := allowV m (m.1 206 5)) (X := m3) J jn u1 (by rw [q3 184 (by decide)]; exact u2) (by rw [q3 186 (by decide)]; exact u4) u6 u7 hn12 (blA_of J jn e3) (by rw [q3 50 (by decide)]; exact h7)
  have x4 : ∀ z, 193 ≤ z → X4.1 z = m.1 z := fun z hz => by rw [f2.1 z (by omega) (by omega) (by omega) (by omega)]; exact q3 z (by omega)
  have A4 : mA m (rf_i X4 206 0 0) := mA_x (mA_all e3) (fun z hz => by rw [rf_i_c, if_neg (by omega), rf_i_c, if_neg (by omega), x4 z (by omega), q3 z (by omega)]) (fun k hk => by rw [rf_i_c, if_pos rfl, rf_i_c, if_pos rfl, x4 206 (by decide), q3 206 (by decide)])
  obtain ⟨M5, l1, l2, l3⟩ := live_r (s := isrt u) J A4 (by rw [isrt_len]; exact u1) (by rw [isrt_len, rf_i_c, if_pos rfl, pu_ne (by decide), x4 206 (by decide)]; exact u3) (by rw [rf_i_c, if_neg (by decide), x4 282 (by decide)]; exact u5) (fun x hx => u6 x (isrt_mem.mp hx))
  rw [fIl_isrt] at l1 l3
  have lm : ∀ x, x ∈ isrt (fIl (kpP w m) u) → ib x (m.1 206 17) := fun x h => u6 x ((fIl_mem u).mp (isrt_mem.mp h)).1
  generalize hl : isrt (fIl (kpP w m) u) = l at *
  have A5 := trF_mA A4 l2
  obtain ⟨M6, g1, g2, g3⟩ := gath56 (n := l.length) J A5
  have A6 := blF_mA A5 g2
  have m5 : ∀ z, 193 ≤ z → z ≠ 206 → z ≠ 226 → z ≠ 227 → z ≠ 228 → z ≠ 235 → z ≠ 283 → M5.1 z = m.1 z := fun z h0 h1 h2 h3 h4 h5 h6 => by rw [l2.1 z h1 h2 h3 h4 h5 h6, rf_i_c, if_neg h1, x4 z h0]
  have m5k : ∀ k, k ≠ 0 → (k < 33 ∨ 38 < k) → M5.1 206 k = m.1 206 k := fun k h0 h1 => by rw [l2.2.1 k h1, rf_i_c, if_pos rfl, pu_ne h0, x4 206 (by decide)]
  have m6 : ∀ z, 193 ≤ z → z ≠ 206 → z ≠ 226 → z ≠ 227 → z ≠ 228 → z ≠ 235 → z ≠ 283 → z ≠ 285 → M6.1 z = m.1 z := fun z h0 h1 h2 h3 h4 h5 h6 h7 => by rw [g2.1 z h1 h2 h3 h4 h5 h7, m5 z h0 h1 h2 h3 h4 h5 h6]
  have m6k : ∀ k, k ≠ 0 → (k < 33 ∨ 38 < k) → M6.1 206 k = m.1 206 k := fun k h0 h1 => by rw [g2.2.1 k h1, m5k k h0 h1]
  have RG : rgM w m (vL l) l.length M6 := ⟨m6k 16 (by decide) (by omega), m6 220 (by decide) (by decide) (by decide) (by decide) (by decide) (by decide) (by decide) (by decide), m6 221 (by decide) (by decide) (by decide) (by decide) (by decide) (by decide) (by decide) (by decide), fun k hk => by
    rw [g2.1 283 (by decide) (by decide) (by decide) (by decide) (by decide) (by decide), plI_gd l k l3 hk]
    exact (of_tn (lm _ (vL_mem hk)).1).symm, g3, fun z hz => m6 z (by omega) (by omega) (by omega) (by omega) (by omega) (by omega) (by omega) (by omega), m6k 64 (by decide) (by omega), m6k 65 (by decide) (by omega)⟩
  obtain ⟨v', M7, s1, s2, s3, s4, s5⟩ := sets142 J jn hV hL RG
  have sm := same41 f4 s5
  have r1 : g_X14_blunder w X4 = some (v', M7) := by
    unfold g_X14_blunder
    rw [l1, g1, s1]
  have z7 : ∀ z, z < 193 → M7.1 z = X4.1 z := fun z hz => by rw [s2 z (by omega) (by omega) (by omega) (by omega), g2.1 z (by omega) (by omega) (by omega) (by omega) (by omega) (by omega), l2.1 z (by omega) (by omega) (by omega) (by omega) (by omega) (by omega), rf_i_c, if_neg (by omega)]
  have z7b : ∀ z, 193 ≤ z → z ≠ 206 → z ≠ 226 → z ≠ 227 → z ≠ 228 → z ≠ 235 → z ≠ 283 → z ≠ 285 → z ≠ 248 → z ≠ 284 → z ≠ 286 → M7.1 z = m.1 z := fun z h0 h1 h2 h3 h4 h5 h6 h7 h8 h9 h10 => by rw [s2 z h1 h8 h9 h10, m6 z h0 h1 h2 h3 h4 h5 h6 h7]
  have z7k : ∀ k, k ≠ 0 → (k < 33 ∨ 38 < k) → k ≠ 117 → k ≠ 118 → M7.1 206 k = m.1 206 k := fun k h0 h1 h2 h3 => by rw [s3 k h2 h3, m6k k h0 h1]
  have fx := fin_x (M := M7) J e3 (fun z h0 h1 h2 hz => by
    by_cases q : z < 193
    · rw [z7 z q, f2.1 z (by omega) (by omega) (by omega) (by omega)]
    · rw [z7b z (by omega) (by omega) (by omega) (by omega) (by omega) (by omega) (by omega) (by omega) (by omega) (by omega) (by omega), q3 z (by omega)]) (fun k hk => by rw [z7k k (by omega) (by omega) (by omega) (by omega), q3 206 (by decide)])
  have z50 : ∀ k, k ≠ 7 → M7.1 50 k = m.1 50 k := fun k hk => by rw [z7 50 (by decide), f2.2.1 k hk, q3 50 (by decide)]
  have z5 : ∀ z, 51 ≤ z ∧ z ≤ 54 → M7.1 z = m.1 z := fun z hz => by rw [z7 z (by omega), f2.1 z (by omega) (by omega) (by omega) (by omega), q3 z (by omega)]
  have jn7 : JNet M7 := by
    unfold JNet at jn ⊢
    rw [z50 0 (by decide), z50 1 (by decide), z5 51 (by decide), z5 52 (by decide), z5 53 (by decide), z5 54 (by decide), z7k 16 (by decide) (by omega) (by decide) (by decide), z7k 64 (by decide) (by omega) (by decide) (by decide), z7k 65 (by decide) (by omega) (by decide) (by decide), z7b 217 (by decide) (by decide) (by decide) (by decide) (by decide) (by decide) (by decide) (by decide) (by decide) (by decide) (by decide), z7b 218 (by decide) (by decide) (by decide) (by decide) (by decide) (by decide) (by decide) (by decide) (by decide) (by decide) (by decide), z7b 219 (by decide) (by decide) (by decide) (by decide) (by decide) (by decide) (by decide) (by decide) (by decide) (by decide) (by decide), z7b 243 (by decide) (by decide) (by decide) (by decide) (by decide) (by decide) (by decide) (by decide) (by decide) (by decide) (by decide), z7b 244 (by decide) (by decide) (by decide) (by decide) (by decide) (by decide) (by decide) (by decide) (by decide) (by decide) (by decide), z7b 245 (by decide) (by decide) (by decide) (by decide) (by decide) (by decide) (by decide) (by decide) (by decide) (by decide) (by decide), z7b 246 (by decide) (by decide) (by decide) (by decide) (by decide) (by decide) (by decide) (by decide) (by decide) (by decide) (by decide)]
    obtain ⟨a1, a2, a3, a4, a5, a6, a7, a8, _, a10⟩ := jn
    exact ⟨a1, a2, a3, a4, a5, a6, a7, a8, by rw [z7 50 (by decide)]; exact f3, a10⟩
  have js7 : JSus M7 := JSus_e js' (by rw [z7 184 (by decide), f2.2.2.1 1 (by decide) (by decide) (by decide), q3 184 (by decide)]) (by rw [z7 186 (by decide), f2.1 186 (by decide) (by decide) (by decide) (by decide), q3 186 (by decide)]) (z7k 116 (by decide) (by omega) (by decide) (by decide)) (z7b 282 (by decide) (by decide) (by decide) (by decide) (by decide) (by decide) (by decide) (by decide) (by decide) (by decide) (by decide)) (by rw [z7k 17 (by decide) (by omega) (by decide) (by decide)]; exact Int32.le_refl _)
  have jg7 : JGuilt M7 := by
    unfold JGuilt at jg ⊢
    obtain ⟨a1, a2, a3, a4⟩ := jg
    rw [z7 184 (by decide), z7 185 (by decide)]
    have x6 : ∀ k, M6.1 206 k = M6.1 206 k := fun _ => rfl
    rcases sm.2 with ⟨_, b1, b2, b3, b4, b5, b6⟩ | ⟨s, b1, b2, b3, b4, b5⟩
    · have c4 := q3 184 (by decide)
      have c5 := q3 185 (by decide)
      have d7 : M7.1 206 117 = m.1 206 117 := by rw [b4]; exact m6k 117 (by decide) (by omega)
      have d8 : M7.1 206 118 = m.1 206 118 := by rw [b5]; exact m6k 118 (by decide) (by omega)
      have d9 : M7.1 284 = m.1 284 := by rw [b6]; exact m6 284 (by decide) (by decide) (by decide) (by decide) (by decide) (by decide) (by decide) (by decide)
      rw [b1, b2, b3, d7, d8, d9, c4, c5]
      exact ⟨a1, a2, a3, a4⟩
    · have l12 := hV.1
      rw [b2, b3, b4, tn_of (by omega)]
      exact ⟨⟨of_nn (by omega), (of_le (b := 12) (by omega) (by omega)).mpr (by omega)⟩, rfl, rfl, b5⟩
  unfold g_lc_41 g_X11_blunder
  simp only [wp_b, wp_bv, wp_g, wp_some, e1, d10, hF, f1, r1, sm.1, decide_true, true_and]
  exact ⟨fx.1, fx.2, jn7, js7, jg7⟩
end PBBlunderK
