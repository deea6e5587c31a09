/-! chains: chain and close -/
section PBChainK
theorem seek_both {c : Nat} {w : rf_w} {m m4 : rf_m} {b one oth : Int32} (J : JCnt c w m) (jn : JNet m) (jb : JBase m) (e4 : allF w m m4) (hb : ib b (m.1 206 55)) (p1 : ib one 30) (p2 : ib oth 30) : ∃ X' why, g_X4_seek w m4 b (sd one oth) (leastV m (m.1 206 5)) = some (why, X') ∧ skF m4 X' ∧ (why = 0 ∨ why = 5 ∨ why = 7) ∧ ∀ M : rf_m, (∀ z, z ≠ 0 → z ≠ 206 → M.1 z = X'.1 z) → (∀ k, k ≠ 0 → M.1 206 k = X'.1 206 k) → ∃ M', g_X14_chainOf w M b one oth = some (why, M') ∧ crF M M' ∧ (why ≠ 0 → tlN m4 X' ∧ trN M M') ∧ (why = 0 → X'.1 175 2 = M'.1 206 111 ∧ X'.1 175 3 = M'.1 206 112 ∧ iv 0 6 (M'.1 206 110) ∧ X'.1 175 1 = M'.1 206 110 ∧ ∀ i, i < (M'.1 206 110).toNatClampNeg → X'.1 176 i = M'.1 278 i) := by
  have ja := J.2.2.2.2.1
  have jm := J.2.2.2.2.2.1
  obtain ⟨lo, hi, _, _, hsp, s0, s1, s2⟩ := span_eq (w := w) jb jm hb
  have he : bEq m m4 := ⟨fun z hz => all_c e4 z (by omega), all_c e4 206 (by omega)⟩
  obtain ⟨X', k1, k2⟩ := seek_c (side := sd one oth) (L := leastV m (m.1 206 5)) J jn jb (clA_of jn ja e4) he (by rw [all_c e4 50 (by omega)]; exact jn.1) hb hsp s0 s1 s2
  -- the reference, from any such memory
  have ref : ∀ M : rf_m, (∀ z, z ≠ 0 → z ≠ 206 → M.1 z = X'.1 z) → (∀ k, k ≠ 0 → M.1 206 k = X'.1 206 k) → _ := fun M h1 h2 => seek_r (w := w) (M := M) (b := b) (one := one) (oth := oth) (lo := lo) (hi := hi) J jn jb (by
      have mz : ∀ z, z ≠ 0 → z ≠ 206 → (z < 175 ∨ 182 < z) → M.1 z = m.1 z ∨ (z < 41) := fun z a b' d => by
        by_cases q : z < 41
        · exact Or.inr q
        · exact Or.inl (by rw [h1 z a b', k1.1 z d]; exact all_c e4 z (by omega))
      have x6 : X'.1 206 = m.1 206 := by rw [k1.1 206 (by omega)]; exact all_c e4 206 (by omega)
      refine ⟨fun z hz => ?_, ?_, ?_, ?_, ?_, ?_⟩
      · rw [h1 z (by omega) (by omega), k1.1 z (by omega)]; exact all_c e4 z (by omega)
      · rw [h2 5 (by decide), x6]
      · rw [h2 16 (by decide), x6]
      · rw [h2 17 (by decide), x6]
      · rw [h2 18 (by decide), x6]
      · rw [h2 39 (by decide), x6]) (by
      have x6 : X'.1 206 = m.1 206 := by rw [k1.1 206 (by omega)]; exact all_c e4 206 (by omega)
      have g : ∀ z, 236 ≤ z ∧ z ≤ 242 → M.1 z = m.1 z := fun z hz => by rw [h1 z (by omega) (by omega), k1.1 z (by omega)]; exact all_c e4 z (by omega)
      exact ⟨by rw [h2 55 (by decide), x6], by rw [h2 56 (by decide), x6], g 236 (by omega), g 237 (by omega), g 239 (by omega), g 240 (by omega), g 241 (by omega), g 242 (by omega)⟩) (fun z hz => by rw [h1 z (by omega) (by omega), k1.1 z (by omega)]; exact all_c e4 z (by omega)) (by rw [h2 64 (by decide), k1.1 206 (by omega), all_c e4 206 (by omega)]) (by rw [h2 65 (by decide), k1.1 206 (by omega), all_c e4 206 (by omega)]) hb p1 p2 hsp s0 s1 s2
  have hinj : eInj (envE w m (leastV m (m.1 206 5)) (sd one oth) (m.1 43 b.toNatClampNeg) lo.toInt hi.toInt) := env_inj jn ja jm
  have o0 : (7 : Int32) ≠ 0 := by decide
  have o5 : (5 : Int32) ≠ 0 := by decide
  rcases k2 with ⟨l8, q1, q2⟩ | ⟨l8, B, sB, ⟨hB, q1, q2⟩ | ⟨q, hB, q1, q2⟩⟩
  · refine ⟨X', 7, q1, k1, Or.inr (Or.inr rfl), fun M h1 h2 => ?_⟩
    obtain ⟨M', r1, r2⟩ := ref M h1 h2
    rcases r2 with ⟨_, r3, r4⟩ | ⟨r3, _⟩
    · exact ⟨M', r3, r1, fun _ => ⟨q2, r4⟩, fun z => absurd z o0⟩
    · exact absurd r3 l8
  · refine ⟨X', 5, q1, k1, Or.inr (Or.inl rfl), fun M h1 h2 => ?_⟩
    obtain ⟨M', r1, r2⟩ := ref M h1 h2
    rcases r2 with ⟨r3, _⟩ | ⟨_, B', sB', ⟨_, r3, r4⟩ | ⟨q', hB', _⟩⟩
    · exact absurd l8 r3
    · exact ⟨M', r3, r1, fun _ => ⟨q2, r4⟩, fun z => absurd z o5⟩
    · have := best_eq hinj sB sB'
      rw [hB, hB'] at this
      cases this
  · refine ⟨X', 0, q1, k1, Or.inl rfl, fun M h1 h2 => ?_⟩
    obtain ⟨M', r1, r2⟩ := ref M h1 h2
    rcases r2 with ⟨r3, _⟩ | ⟨_, B', sB', ⟨hB', _⟩ | ⟨q', hB', r3, r4⟩⟩
    · exact absurd l8 r3
    · have := best_eq hinj sB sB'
      rw [hB, hB'] at this
      cases this
    · have := best_eq hinj sB sB'
      rw [hB, hB'] at this
      injection this with this
      subst this
      obtain ⟨a1, a2, a3, a4, a5⟩ := q2
      obtain ⟨b1, b2, b3⟩ := r4
      have lq : q.length ≤ 6 := a1
      rw [a3] at b2
      injection b2 with b2
      injection b2 with _ b2
      injection b2 with c1 c2
      refine ⟨M', r3, r1, fun z => absurd rfl z, fun _ => ⟨Int32.toInt_inj.mp c1, Int32.toInt_inj.mp c2, ?_, by rw [a2, b1], fun i hi => ?_⟩⟩
      · rw [b1]
        exact ⟨of_nn (by omega), (of_le (b := 6) (by omega) (by omega)).mpr lq⟩
      · rw [b1, tn_of (by omega)] at hi
        rw [a5 i hi, b3 i hi]
theorem tell_n {m m4 X' M M' Mf : rf_m} {w : rf_w} (jl : JTell m) (e4 : allF w m m4) (h1 : tlN m4 X') (h2 : trN M M') (hM : ∀ z, z ≠ 0 → z ≠ 206 → M.1 z = X'.1 z) (hM6 : ∀ k, k ≠ 0 → M.1 206 k = X'.1 206 k) (hk : skF m4 X') (hc : crF M M') (f1 : ∀ z, z ≠ 206 → Mf.1 z = M'.1 z) (f2 : ∀ k, k ≠ 1 → k ≠ 2 → Mf.1 206 k = M'.1 206 k) : JTell Mf := by
  have x6 : X'.1 206 = m.1 206 := by rw [hk.1 206 (by omega)]; exact all_c e4 206 (by omega)
  have a : ∀ k, k = 110 ∨ k = 111 ∨ k = 112 → Mf.1 206 k = m.1 206 k := fun k hk' => by rw [f2 k (by omega) (by omega), h2.2 k hk', hM6 k (by omega), x6]
  have b : ∀ k, k = 1 ∨ k = 2 ∨ k = 3 → Mf.1 175 k = m.1 175 k := fun k hk' => by rw [f1 175 (by decide), hc.1 175 (by decide) (by decide) (by decide) (by decide) (by decide) (by decide) (by omega), hM 175 (by decide) (by decide), h1.2 k hk', all_c e4 175 (by omega)]
  have d : Mf.1 176 = m.1 176 := by rw [f1 176 (by decide), hc.1 176 (by decide) (by decide) (by decide) (by decide) (by decide) (by decide) (by omega), hM 176 (by decide) (by decide), h1.1, all_c e4 176 (by omega)]
  have g : Mf.1 278 = m.1 278 := by rw [f1 278 (by decide), h2.1, hM 278 (by decide) (by decide), hk.1 278 (by omega), all_c e4 278 (by omega)]
  unfold JTell
  rw [a 110 (by omega), a 111 (by omega), a 112 (by omega), b 1 (by omega), b 2 (by omega), b 3 (by omega), d, g]
  exact jl
theorem tell_y {X' M M' Mf : rf_m} (hy : X'.1 175 2 = M'.1 206 111 ∧ X'.1 175 3 = M'.1 206 112 ∧ iv 0 6 (M'.1 206 110) ∧ X'.1 175 1 = M'.1 206 110 ∧ ∀ i, i < (M'.1 206 110).toNatClampNeg → X'.1 176 i = M'.1 278 i) (hM : ∀ z, z ≠ 0 → z ≠ 206 → M.1 z = X'.1 z) (hc : crF M M') (f1 : ∀ z, z ≠ 206 → Mf.1 z = M'.1 z) (f2 : ∀ k, k ≠ 1 → k ≠ 2 → Mf.1 206 k = M'.1 206 k) : JTell Mf := by
  obtain ⟨y1, y2, y3, y4, y5⟩ := hy
  have b : Mf.1 175 = X'.1 175 := by rw [f1 175 (by decide), hc.1 175 (by decide) (by decide) (by decide) (by decide) (by decide) (by decide) (by omega), hM 175 (by decide) (by decide)]
  have d : Mf.1 176 = X'.1 176 := by rw [f1 176 (by decide), hc.1 176 (by decide) (by decide) (by decide) (by decide) (by decide) (by decide) (by omega), hM 176 (by decide) (by decide)]
  unfold JTell
  rw [b, d, f1 278 (by decide), f2 110 (by decide) (by decide), f2 111 (by decide) (by decide), f2 112 (by decide) (by decide)]
  exact Or.inr ⟨y3, y4, y1, y2, y5⟩
/-- the end of both calls -/
theorem fa_3 {w : rf_w} {m m2 : rf_m} (h : g_X3_freshenAll w m = some m2) : ∀ z, 41 ≤ z → m2.2 z = m.2 z := fun z hz => funext fun k => by
  have e : ∀ (a b : Nat) (o : Option Nat), b < 41 → 0 < b → fr_e (a, b, o) z k = false := fun a b o h1 h2 => by
    have x1 : Nat.ble z b = false := by
      cases e : Nat.ble z b with
      | false => rfl
      | true => have := Nat.le_of_ble_eq_true e; omega
    have x2 : Nat.beq b 0 = false := by
      cases e : Nat.beq b 0 with
      | false => rfl
      | true => have := Nat.eq_of_beq_eq_true e; omega
    show (Nat.ble a z && ((Nat.beq b 0 && Nat.ble 1 a) || Nat.ble z b) && _) = false
    rw [x1, x2, Bool.false_and, Bool.or_false, Bool.and_false, Bool.false_and]
  refine (fg_X3_freshenAll h z k ?_).2
  unfold fr_in S_X3_freshenAll
  simp only [List.any_cons, List.any_nil, e 18 18 none (by decide) (by decide), e 25 25 none (by decide) (by decide), e 26 26 (some 19) (by decide) (by decide), e 31 31 none (by decide) (by decide), e 32 32 none (by decide) (by decide), e 34 34 none (by decide) (by decide), e 35 35 none (by decide) (by decide), e 40 40 none (by decide) (by decide), Bool.or_false]
/-- what chain and close leave as it was -/
def chA (m M : rf_m) : Prop := (∀ z, z ≠ 0 → z ≠ 18 → z ≠ 25 → z ≠ 26 → z ≠ 31 → z ≠ 32 → z ≠ 34 → z ≠ 35 → z ≠ 40 → (z < 175 ∨ 182 < z) → z ≠ 206 → z ≠ 226 → z ≠ 227 → z ≠ 228 → z ≠ 235 → z ≠ 248 → (z < 268 ∨ 278 < z) → M.1 z = m.1 z) ∧ (∀ k, k ≠ 11 → M.1 0 k = m.1 0 k) ∧ (∀ k, k ≠ 19 → M.1 26 k = m.1 26 k) ∧ (∀ k, (2 < k ∧ k < 33) ∨ (38 < k ∧ k < 104) ∨ 112 < k → M.1 206 k = m.1 206 k) ∧ ∀ z, 41 ≤ z → z ≠ 175 → M.2 z = m.2 z
theorem chA_dn {m : rf_m} {v : Int32} : chA m (dnM m v) := ⟨fun z h0 _ _ _ _ _ _ _ _ _ h6 _ _ _ _ _ _ => dn_0 z h0 h6, fun k hk => by
  unfold dnM
  rw [rf_i_c, if_neg (by decide), rf_i_c, if_neg (by decide), rf_i_c, if_neg (by decide), rf_i_c, if_pos rfl, pu_ne hk], fun k _ => by rw [dn_0 26 (by decide) (by decide)], fun k hk => dn_206 k (by omega) (by omega) (by omega), fun z _ _ => rfl⟩
theorem ch_fin {c : Nat} {w : rf_w} {m m4 X' M M' Mf : rf_m} {v : Int32} (J : JCnt c w m) (jt : JT m) (e4 : allF w m m4) (hk : skF m4 X') (hM : ∀ z, z ≠ 0 → z ≠ 206 → M.1 z = X'.1 z) (hM0 : M.1 0 = pu (X'.1 0) 11 v) (hM6 : ∀ k, k ≠ 0 → M.1 206 k = X'.1 206 k) (hc : crF M M') (f1 : ∀ z, z ≠ 206 → Mf.1 z = M'.1 z) (f2 : ∀ k, k ≠ 1 → k ≠ 2 → Mf.1 206 k = M'.1 206 k) (f3 : Mf.1 206 1 = v) (f4 : Mf.1 206 2 = -1) (hv : v ≠ 4) (hl : ∀ z, 41 ≤ z → m4.2 z = m.2 z) (hMl : M.2 = X'.2) (f5 : Mf.2 = M'.2) : JCnt c w Mf ∧ JCache w Mf ∧ JT Mf ∧ chA m Mf := by
  have x6 : X'.1 206 = m4.1 206 := hk.1 206 (by omega)
  have fx := fin_x (w := w) (m := m) (m2 := m4) (M := Mf) J e4 (fun z h0 h18 h25 hz => by rw [f1 z (by omega), hc.1 z (by omega) (by omega) (by omega) (by omega) (by omega) (by omega) (by omega), hM z h0 (by omega), hk.1 z (by omega)]) (fun k hk' => by rw [f2 k (by omega) (by omega), hc.2.1 k (by omega), hM6 k (by omega), x6])
  refine ⟨fx.1, fx.2, fin_JT (m2 := m) (v := v) jt hv ?_ f3 f4 ?_, ⟨fun z h0 a18 a25 a26 a31 a32 a34 a35 a40 a175 a206 a226 a227 a228 a235 a248 a268 => ?_, fun k hk' => ?_, fun k hk' => ?_, fun k hk' => ?_, fun z h1 h2 => ?_⟩⟩
  · rw [f1 0 (by decide), hc.1 0 (by decide) (by decide) (by decide) (by decide) (by decide) (by decide) (by omega), hM0, hk.1 0 (by omega), all_c e4 0 (by omega)]
  · rw [f2 3 (by decide) (by decide), hc.2.1 3 (by omega), hM6 3 (by decide), x6, all_c e4 206 (by omega)]
  · rw [f1 z a206, hc.1 z a206 a226 a227 a228 a235 a248 a268, hM z h0 a206, hk.1 z a175]
    exact e4.1 z a18 a25 a26 a31 a32 a34 a35 a40
  · rw [f1 0 (by decide), hc.1 0 (by decide) (by decide) (by decide) (by decide) (by decide) (by decide) (by omega), hM0, hk.1 0 (by omega), all_c e4 0 (by omega), pu_ne hk']
  · rw [f1 26 (by decide), hc.1 26 (by decide) (by decide) (by decide) (by decide) (by decide) (by decide) (by omega), hM 26 (by decide) (by decide), hk.1 26 (by omega)]
    exact e4.2.1 k hk'
  · rw [f2 k (by omega) (by omega), hc.2.1 k (by omega), hM6 k (by omega), x6, all_c e4 206 (by omega)]
  · rw [f5, hc.2.2, hMl, hk.2 z h2]
    exact hl z h1
theorem dn_mem {M : rf_m} {v : Int32} : (∀ z, z ≠ 206 → (rf_i (rf_i M 206 1 v) 206 2 (-1)).1 z = M.1 z) ∧ (∀ k, k ≠ 1 → k ≠ 2 → (rf_i (rf_i M 206 1 v) 206 2 (-1)).1 206 k = M.1 206 k) ∧ (rf_i (rf_i M 206 1 v) 206 2 (-1)).1 206 1 = v ∧ (rf_i (rf_i M 206 1 v) 206 2 (-1)).1 206 2 = -1 := by
  refine ⟨fun z hz => by rw [rf_i_c, if_neg hz, rf_i_c, if_neg hz], fun k h1 h2 => by rw [rf_i_c, if_pos rfl, pu_ne h2, rf_i_c, if_pos rfl, pu_ne h1], ?_, ?_⟩
  · rw [rf_i_c, if_pos rfl, pu_ne (by decide), rf_i_c, if_pos rfl, pu_at]
  · rw [rf_i_c, if_pos rfl, pu_at]
theorem zM {X' : rf_m} {v : Int32} : (∀ z, z ≠ 0 → z ≠ 206 → (rf_i (rf_i X' 0 11 v) 206 0 0).1 z = X'.1 z) ∧ (rf_i (rf_i X' 0 11 v) 206 0 0).1 0 = pu (X'.1 0) 11 v ∧ ∀ k, k ≠ 0 → (rf_i (rf_i X' 0 11 v) 206 0 0).1 206 k = X'.1 206 k := by
  refine ⟨fun z h0 h6 => by rw [rf_i_c, if_neg h6, rf_i_c, if_neg h0], by rw [rf_i_c, if_neg (by decide), rf_i_c, if_pos rfl], fun k hk => by rw [rf_i_c, if_pos rfl, pu_ne hk, rf_i_c, if_neg (by decide)]⟩
theorem tell_dn {m : rf_m} {v : Int32} (j : JTell m) : JTell (dnM m v) := by
  unfold JTell
  rw [dn_206 110 (by decide) (by decide) (by decide), dn_206 111 (by decide) (by decide) (by decide), dn_206 112 (by decide) (by decide) (by decide), dn_0 175 (by decide) (by decide), dn_0 176 (by decide) (by decide), dn_0 278 (by decide) (by decide)]
  exact j
theorem k34 {c : Nat} {w : rf_w} {m : rf_m} {y : Nat → Int32} (J : JCnt c w m) (jc : JCache w m) (jn : JNet m) (jb : JBase m) (jD : JD m) (jt : JT m) (jl : JTell m) : wp (g_lc_34 w m y) (fun r => r.1 = w ∧ JCnt c w r.2 ∧ JCache w r.2 ∧ JT r.2 ∧ JTell r.2 ∧ chA m r.2) := by
  have o1 : ¬ (1 : Int32) = 0 := by decide
  have ja := J.2.2.2.2.1
  have jm := J.2.2.2.2.2.1
  have ju := J.2.2.2.1
  unfold g_lc_34 g_X11_chain
  rw [X6_isBase, jb.1, b_sm, X5_isPair, jm.1, b_sm]
  by_cases C : ib (y 1) (m.1 206 55) ∧ ib (y 2) (m.1 206 4) ∧ ib (y 3) (m.1 206 4) ∧ y 2 ≠ y 3
  · obtain ⟨q1, q2⟩ := C
    have p1 : ib (y 2) 30 := ⟨q2.1.1, by have a := q2.1.2; have b := jm.2.1.2; clear jb jn; grind⟩
    have p2 : ib (y 3) 30 := ⟨q2.2.1.1, by have a := q2.2.1.2; have b := jm.2.1.2; clear jb jn; grind⟩
    rw [bi_t q1, if_neg o1, bi_t q2, if_neg o1]
    obtain ⟨m2, e1, e2⟩ := freshenAll_c J jc
    have d10 : m2.1 0 10 = m.1 206 5 := by rw [all_c e2 0 (by omega)]; exact jD.1
    obtain ⟨F, f, hF⟩ := least_c (w := w) (m := m2) (day := m.1 206 5) (keep_rule (all_keep e2) ju)
    generalize hm4 : stl (stc m2 18 f) 25 F = m4 at hF
    have hl4 : ∀ z, 41 ≤ z → m4.2 z = m.2 z := fun z hz => by rw [← hm4]; show (if z = 25 then F else m2.2 z) = _; rw [if_neg (by omega)]; exact fa_3 e1 z hz
    have e4 : allF w m m4 := all_18 e2 (fun c hc => by rw [← hm4]; show (stc m2 18 f).1 c = _; rw [stc_c, if_neg hc])
    rw [show leastV m2 (m.1 206 5) = leastV m (m.1 206 5) from lat_m (all_keep e2)] at hF
    obtain ⟨X', why, s1, s2, s3, s4⟩ := seek_both J jn jb e4 q1 p1 p2
    rw [e1, bv_sm, X11_sideOf, b_sm, d10, hF, b_sm, s1, b_sm]
    have refE : ∀ Z : rf_m, Z.1 206 = m.1 206 → g_X14_chain w Z (y 1) (y 2) (y 3) = rf_b (g_X14_chainOf w (rf_i Z 206 0 0) (y 1) (y 2) (y 3)) fun y6 m6 => (if y6 ≤ 0 then rf_b (g_X14_done w m6 ((m6.1 206 112) - (m6.1 206 111))) fun y7 m7 => some (y7, m7) else rf_b (g_X14_refused w m6 y6) fun y8 m8 => some (y8, m8)) := fun Z hZ => by
      have i1 : (rf_i Z 206 0 0).1 206 55 = m.1 206 55 := by rw [rf_i_c, if_pos rfl, pu_ne (by decide), hZ]
      have i2 : (rf_i Z 206 0 0).1 206 4 = m.1 206 4 := by rw [rf_i_c, if_pos rfl, pu_ne (by decide), hZ]
      unfold g_X14_chain
      rw [X14_isBase, i1, b_sm, bi_t q1, if_neg o1, X14_isMark, i2, b_sm, bi_t q2.1, if_neg o1, X14_isMark, i2, b_sm, bi_t q2.2.1, if_neg o1, if_neg q2.2.2]
    have x6 : X'.1 206 = m.1 206 := by rw [s2.1 206 (by omega)]; exact all_c e4 206 (by omega)
    have z6 : ∀ v : Int32, (rf_i X' 0 11 v).1 206 = m.1 206 := fun v => by rw [rf_i_c, if_neg (by decide)]; exact x6
    by_cases hw : why = 0
    · rw [if_pos hw]
      have an : (rf_b (g_X11_answered w X' ((X'.1 175 3) - (X'.1 175 2))) fun y8 m8 => some (y8, m8)) = some ((X'.1 175 3) - (X'.1 175 2), rf_i X' 0 11 0) := rfl
      rw [an, b_sm, refE _ (z6 0)]
      obtain ⟨zm1, zm2, zm3⟩ := zM (X' := X') (v := 0)
      obtain ⟨M', r1, r2, r3, r4⟩ := s4 _ zm1 zm3
      have le : why ≤ 0 := by rw [hw]; exact Int32.le_refl _
      rw [r1, b_sm, if_pos le]
      have dn : (rf_b (g_X14_done w M' ((M'.1 206 112) - (M'.1 206 111))) fun y7 m7 => some (y7, m7)) = some ((M'.1 206 112) - (M'.1 206 111), rf_i (rf_i M' 206 1 0) 206 2 (-1)) := rfl
      have ry := r4 hw
      rw [dn, b_sm, ry.1, ry.2.1, decide_eq_true rfl, g_t, wp_some]
      obtain ⟨f1, f2, f3, f4⟩ := dn_mem (M := M') (v := 0)
      obtain ⟨a1, a2, a3, a4⟩ := ch_fin J jt e4 s2 zm1 zm2 zm3 r2 f1 f2 f3 f4 (by decide) hl4 rfl rfl
      exact ⟨rfl, a1, a2, a3, tell_y ry zm1 r2 f1 f2, a4⟩
    · rw [if_neg hw]
      have rf : (rf_b (g_X11_refused w X' why) fun y7 m7 => some (y7, m7)) = some (-1, rf_i X' 0 11 why) := rfl
      rw [rf, b_sm, refE _ (z6 why)]
      obtain ⟨zm1, zm2, zm3⟩ := zM (X' := X') (v := why)
      obtain ⟨M', r1, r2, r3, r4⟩ := s4 _ zm1 zm3
      have nle' : ¬ why ≤ 0 := by rcases s3 with q | q | q <;> rw [q] at hw ⊢ <;> first | exact absurd rfl hw | decide
      rw [r1, b_sm, if_neg nle']
      have dn : (rf_b (g_X14_refused w M' why) fun y7 m7 => some (y7, m7)) = some (-1, rf_i (rf_i M' 206 1 why) 206 2 (-1)) := rfl
      rw [dn, b_sm, decide_eq_true rfl, g_t, wp_some]
      obtain ⟨f1, f2, f3, f4⟩ := dn_mem (M := M') (v := why)
      have h4 : why ≠ 4 := by rcases s3 with q | q | q <;> rw [q] <;> decide
      obtain ⟨a1, a2, a3, a4⟩ := ch_fin J jt e4 s2 zm1 zm2 zm3 r2 f1 f2 f3 f4 h4 hl4 rfl rfl
      exact ⟨rfl, a1, a2, a3, tell_n jl e4 (r3 hw).1 (r3 hw).2 zm1 zm3 s2 r2 f1 f2, a4⟩
  · have rc : (rf_b (g_X11_refused w m 1) fun y1 m1 => some (y1, m1)) = some (-1, rf_i m 0 11 1) := rfl
    have cls : (if bi (ib (y 1) (m.1 206 55)) = 0 then rf_b (g_X11_refused w m 1) fun y1 m1 => some (y1, m1) else (if bi (ib (y 2) (m.1 206 4) ∧ ib (y 3) (m.1 206 4) ∧ y 2 ≠ y 3) = 0 then rf_b (g_X11_refused w m 1) fun y9 m9 => some (y9, m9) else rf_bv (g_X3_freshenAll w m) fun m3 => rf_b (g_X11_sideOf w m3 (y 2) (y 3)) fun y4 m4 => rf_b (g_X9_leastAngle w m4 (m4.1 0 10)) fun y5 m5 => rf_b (g_X4_seek w m5 (y 1) y4 y5) fun y6 m6 => (if y6 = 0 then rf_b (g_X11_answered w m6 ((m6.1 175 3) - (m6.1 175 2))) fun y8 m8 => some (y8, m8) else rf_b (g_X11_refused w m6 y6) fun y7 m7 => some (y7, m7)))) = some (-1, rf_i m 0 11 1) := by
      by_cases q1 : ib (y 1) (m.1 206 55)
      · have q2 : ¬ (ib (y 2) (m.1 206 4) ∧ ib (y 3) (m.1 206 4) ∧ y 2 ≠ y 3) := fun z => C ⟨q1, z⟩
        rw [bi_t q1, if_neg o1, bi_f q2, if_pos rfl, rc]
      · rw [bi_f q1, if_pos rfl, rc]
    rw [cls, b_sm]
    have refE : g_X14_chain w (rf_i m 0 11 1) (y 1) (y 2) (y 3) = some (-1, dnM m 1) := by
      have i1 : (rf_i (rf_i m 0 11 1) 206 0 0).1 206 55 = m.1 206 55 := rfl
      have i2 : (rf_i (rf_i m 0 11 1) 206 0 0).1 206 4 = m.1 206 4 := rfl
      have rr : (rf_b (g_X14_refused w (rf_i (rf_i m 0 11 1) 206 0 0) 1) fun y1 m1 => some (y1, m1)) = some (-1, dnM m 1) := rfl
      unfold g_X14_chain
      rw [X14_isBase, i1, b_sm, X14_isMark, i2, b_sm, X14_isMark, i2, b_sm]
      by_cases q1 : ib (y 1) (m.1 206 55)
      · rw [bi_t q1, if_neg o1]
        by_cases q2 : ib (y 2) (m.1 206 4)
        · rw [bi_t q2, if_neg o1]
          by_cases q3 : ib (y 3) (m.1 206 4)
          · rw [bi_t q3, if_neg o1]
            by_cases q4 : y 2 = y 3
            · rw [if_pos q4, rr]
            · exact absurd ⟨q1, q2, q3, q4⟩ C
          · rw [bi_f q3, if_pos rfl, rr]
        · rw [bi_f q2, if_pos rfl, rr]
      · rw [bi_f q1, if_pos rfl, rr]
    rw [refE, b_sm, decide_eq_true rfl, g_t, wp_some]
    obtain ⟨a1, a2, a3⟩ := dn_fin (v := 1) J jc jt (by decide)
    exact ⟨rfl, a1, a2, a3, tell_dn jl, chA_dn⟩
end PBChainK
