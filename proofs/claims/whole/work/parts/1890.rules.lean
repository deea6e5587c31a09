/-! rules: due, holding, their totals, the first and the latest -/
section PBRules
/-- a rule's test and sum, by the class's rows -/
noncomputable def tstP (m : rf_m) (N : Nat → Int32) (r : Nat) : Prop := m.1 22 r = m.1 23 r ∨ runA (fun k => dC (m.1 24 (160 * r + k))) N ((m.1 23 r).toNatClampNeg - (m.1 22 r).toNatClampNeg) (m.1 22 r).toNatClampNeg [] = some [1]
noncomputable def totV (m : rf_m) (N : Nat → Int32) (r : Nat) : Int := match runA (fun k => dC (m.1 24 (160 * r + k))) N (m.1 22 r).toNatClampNeg 0 [] with
  | some (v :: _) => v
  | _ => 0
def dueP (m : rf_m) (r : Nat) (act day : Int32) : Prop := m.1 19 r = act ∧ m.1 20 r ≤ day ∧ day ≤ m.1 21 r
/-- rule r of the class is the reference's object at c -/
def rulOK (w : rf_w) (m : rf_m) (r c : Nat) : Prop := w.2.2 (r + 2) = some c ∧ rob w c ∧ iv 0 4 (m.1 c 0) ∧ m.1 19 r = m.1 c 0 + 1 ∧ m.1 20 r = m.1 c 1 ∧ m.1 21 r = m.1 c 2 ∧ iv 0 (m.1 23 r) (m.1 22 r) ∧ m.1 23 r ≤ 160 ∧ iv 0 (m.1 c 3) (m.1 c 4) ∧ m.1 c 3 ≤ 300 ∧ (m.1 22 r = m.1 23 r ↔ m.1 c 3 = m.1 c 4) ∧ (∀ N, nok N → (m.1 19 r ≠ 1 → m.1 19 r ≠ 3 → ∃ v, runA (fun k => dC (m.1 24 (160 * r + k))) N (m.1 22 r).toNatClampNeg 0 [] = some [v] ∧ runA (fun k => dR (m.1 (c + 1) k) (m.1 (c + 2) k)) N (m.1 c 4).toNatClampNeg 0 [] = some [v]) ∧ (m.1 22 r ≠ m.1 23 r → ∃ v, bol v ∧ runA (fun k => dC (m.1 24 (160 * r + k))) N ((m.1 23 r).toNatClampNeg - (m.1 22 r).toNatClampNeg) (m.1 22 r).toNatClampNeg [] = some [v] ∧ runA (fun k => dR (m.1 (c + 1) k) (m.1 (c + 2) k)) N ((m.1 c 3).toNatClampNeg - (m.1 c 4).toNatClampNeg) (m.1 c 4).toNatClampNeg [] = some [v]))
/-- M has m's rules: the class's rows, and the reference's objects -/
def rAg (w : rf_w) (m M : rf_m) : Prop := M.1 206 39 = m.1 206 39 ∧ ∀ r c, r < (m.1 206 39).toNatClampNeg → w.2.2 (r + 2) = some c → M.1 c = m.1 c ∧ M.1 (c + 1) = m.1 (c + 1) ∧ M.1 (c + 2) = m.1 (c + 2)
def JRule (w : rf_w) (m : rf_m) : Prop := m.1 13 3 = m.1 206 39 ∧ iv 0 24 (m.1 206 39) ∧ ∀ r, r < (m.1 206 39).toNatClampNeg → ∃ c, rulOK w m r c
theorem Rt229 {w : rf_w} {i : Nat} : rf_Rt w 229 i = w.2.2 (i + 2) := rfl
theorem X9_isDue {w : rf_w} {m : rf_m} {r : Nat} {a d : Int32} (hr : r < 24) : g_X9_isDue w m (Int32.ofNat r) a d = some (bi (dueP m r a d), m) := by
  refine wp_eq.mp ?_
  unfold g_X9_isDue
  simp only [wp_g, wp_ite, wp_some, gof hr (by decide), tn_of (show r < 2147483648 by omega), true_and]
  by_cases h : dueP m r a d
  · rw [bi_t h]
    obtain ⟨h1, h2, h3⟩ := h
    refine ⟨fun _ => ⟨fun q => ?_, fun _ => ⟨fun q => ?_, fun _ => rfl⟩⟩, fun q => absurd h1 q⟩
    · exact absurd h2 (by grind)
    · exact absurd h3 (by grind)
  · rw [bi_f h]
    refine ⟨fun q1 => ⟨fun _ => rfl, fun q2 => ⟨fun _ => rfl, fun q3 => absurd ⟨q1, by grind, by grind⟩ h⟩⟩, fun _ => rfl⟩
theorem iv_le {a b x : Int32} (h : iv a b x) : a ≤ x ∧ x ≤ b := h
theorem holds_c {w : rf_w} {m : rf_m} {r c : Nat} (hr : r < 24) (hk : rulOK w m r c) (hN : nok (m.1 18)) : ∃ F, g_X9_holds w m (Int32.ofNat r) = some (bi (tstP m (m.1 18) r), stl m 25 F) := by
  obtain ⟨k1, k2, k3, k4, k5, k6, k7, k8, k9, ka, kb, kc⟩ := hk
  unfold g_X9_holds
  rw [gof hr (by decide), g_t, g_t, tn_of (by omega)]
  by_cases e : m.1 22 r = m.1 23 r
  · rw [if_pos e]
    exact ⟨m.2 25, by rw [bi_t (show tstP m (m.1 18) r from Or.inl e), stl_self]⟩
  · rw [if_neg e, g_t, g_t]
    obtain ⟨v, hv, h1, _⟩ := (kc (m.1 18) hN).2 e
    have s0 : 0 ≤ m.1 23 r := by have := k7.1; have := k7.2; grind
    have n1 : (m.1 23 r).toNatClampNeg ≤ 160 := tn_le s0 k8 (by decide)
    have n2 : (m.1 22 r).toNatClampNeg ≤ (m.1 23 r).toNatClampNeg := by
      have a := tn_toInt k7.1; have b := tn_toInt s0; have d := i_le.mp k7.2; omega
    obtain ⟨F, hF1, hF2⟩ := run_run (w := w) hr n1 ((m.1 23 r).toNatClampNeg - (m.1 22 r).toNatClampNeg) (m.1 22 r).toNatClampNeg [] [v] m rf_fuel (by unfold rf_fuel; omega) (by omega) hN (by intro x hx; cases hx) trivial h1 (by simp)
    have er : g_X9_run w m (Int32.ofNat r) (m.1 22 r) (m.1 23 r) = some (F 0, stl m 25 F) := by
      unfold g_X9_run
      rw [show Int32.ofNat r * 160 + m.1 22 r = Int32.ofNat (160 * r + (m.1 22 r).toNatClampNeg) by rw [Int32.ofNat_add, of_tn k7.1, Int32.ofNat_mul, Int32.mul_comm]; rfl]
      rw [of_tn s0] at hF1
      exact hF1
    refine ⟨F, ?_⟩
    rw [er]
    simp only [rf_b]
    have hv0 : (F 0).toInt = v := hF2.1
    by_cases z : lg_cmp (F 0) 0 = 0
    · rw [if_pos z]
      have z' := l_eq.mp (cmp_eq0.mp z)
      rw [hv0, l_0] at z'
      have nt : ¬ tstP m (m.1 18) r := by
        rintro (q | q)
        · exact e q
        · rw [h1] at q
          have := (List.cons.inj (Option.some.inj q)).1
          omega
      rw [bi_f nt]
    · rw [if_neg z]
      have z' : v ≠ 0 := fun q => z (cmp_eq0.mpr (l_eq.mpr (by rw [hv0, q]; rfl)))
      have : v = 1 := by rcases hv with q | q; exact absurd q z'; exact q
      subst this
      rw [bi_t (show tstP m (m.1 18) r from Or.inr h1)]
theorem test_r {w : rf_w} {m M : rf_m} {r c : Nat} (hk : rulOK w m r c) (hN : nok (M.1 228)) (e0 : M.1 c = m.1 c) (e1 : M.1 (c + 1) = m.1 (c + 1)) (e2 : M.1 (c + 2) = m.1 (c + 2)) : ∃ G, g_X14_testOf w M c = some (bi (tstP m (M.1 228) r), stc M 235 G) := by
  obtain ⟨k1, k2, k3, k4, k5, k6, k7, k8, k9, ka, kb, kc⟩ := hk
  have k2' := k2
  obtain ⟨r1, r2, r3, r4, r5, r6⟩ := k2
  unfold g_X14_testOf
  rw [r1, r2, r3, r4, r5, g_t, g_t, g_t, g_t, g_t, e0]
  by_cases e : m.1 22 r = m.1 23 r
  · rw [if_pos (kb.mp e)]
    exact ⟨M.1 235, by rw [bi_t (show tstP m (M.1 228) r from Or.inl e), stc_self]⟩
  · rw [if_neg (fun q => e (kb.mpr q))]
    obtain ⟨v, hv, h0, h1⟩ := (kc (M.1 228) hN).2 e
    have s0 : 0 ≤ m.1 c 3 := by have := k9.1; have := k9.2; grind
    have n1 : (m.1 c 3).toNatClampNeg ≤ 300 := tn_le s0 ka (by decide)
    have n2 : (m.1 c 4).toNatClampNeg ≤ (m.1 c 3).toNatClampNeg := by
      have a := tn_toInt k9.1; have b := tn_toInt s0; have d := i_le.mp k9.2; omega
    obtain ⟨G, hG1, hG2⟩ := valueOf_run (w := w) k2' ((m.1 c 3).toNatClampNeg - (m.1 c 4).toNatClampNeg) (m.1 c 4).toNatClampNeg [] [v] M rf_fuel (by unfold rf_fuel; omega) (by omega) hN (by intro x hx; cases hx) trivial (by rw [e1, e2]; exact h1) (by simp)
    have er : g_X14_valueOf w M c (m.1 c 4) (m.1 c 3) = some (G 0, stc M 235 G) := by
      unfold g_X14_valueOf
      rw [r1, r2, r3, r4, r5, g_t, g_t, g_t, g_t, g_t]
      rw [show (m.1 c 4).toNatClampNeg + ((m.1 c 3).toNatClampNeg - (m.1 c 4).toNatClampNeg) = (m.1 c 3).toNatClampNeg by omega, of_tn s0, of_tn k9.1] at hG1
      exact hG1
    refine ⟨G, ?_⟩
    rw [er]
    simp only [rf_b]
    have hv0 : (G 0).toInt = v := hG2.1
    by_cases z : G 0 = 1
    · rw [if_pos z]
      have : v = 1 := by rw [← hv0, z]; rfl
      subst this
      rw [bi_t (show tstP m (M.1 228) r from Or.inr h0)]
    · rw [if_neg z]
      have z' : v ≠ 1 := fun q => z (i_eq.mpr (by rw [hv0, q]; rfl))
      have nt : ¬ tstP m (M.1 228) r := by
        rintro (q | q)
        · exact e q
        · rw [h0] at q
          exact z' (List.cons.inj (Option.some.inj q)).1
      rw [bi_f nt]
theorem total_c {w : rf_w} {m : rf_m} {r c : Nat} (hr : r < 24) (hk : rulOK w m r c) (hN : nok (m.1 18)) (ha : m.1 19 r ≠ 1) (hb : m.1 19 r ≠ 3) : ∃ F v, g_X9_total w m (Int32.ofNat r) = some (v, stl m 25 F) ∧ v.toInt = totV m (m.1 18) r := by
  obtain ⟨k1, k2, k3, k4, k5, k6, k7, k8, k9, ka, kb, kc⟩ := hk
  unfold g_X9_total
  rw [gof hr (by decide), g_t, tn_of (by omega)]
  obtain ⟨v, h1, _⟩ := (kc (m.1 18) hN).1 ha hb
  have s0 : 0 ≤ m.1 23 r := by have := k7.1; have := k7.2; grind
  have n1 : (m.1 23 r).toNatClampNeg ≤ 160 := tn_le s0 k8 (by decide)
  have n2 : (m.1 22 r).toNatClampNeg ≤ (m.1 23 r).toNatClampNeg := by
    have a := tn_toInt k7.1; have b := tn_toInt s0; have d := i_le.mp k7.2; omega
  obtain ⟨F, hF1, hF2⟩ := run_run (w := w) (E := (m.1 22 r).toNatClampNeg) hr (by omega) (m.1 22 r).toNatClampNeg 0 [] [v] m rf_fuel (by unfold rf_fuel; omega) (by omega) hN (by intro x hx; cases hx) trivial h1 (by simp)
  have er : g_X9_run w m (Int32.ofNat r) 0 (m.1 22 r) = some (F 0, stl m 25 F) := by
    unfold g_X9_run
    rw [show Int32.ofNat r * 160 + 0 = Int32.ofNat (160 * r + 0) by rw [Nat.add_zero, Int32.ofNat_mul, Int32.mul_comm, Int32.add_zero]; rfl]
    rw [of_tn k7.1] at hF1
    exact hF1
  have hv0 : (F 0).toInt = v := hF2.1
  have hbd : bnd [v] := by
    have key : ∀ n k (s s' : List Int), bnd s → runA (fun k => dC (m.1 24 (160 * r + k))) (m.1 18) n k s = some s' → bnd s' := by
      intro n
      induction n with
      | zero => intro k s s' hs h; rw [← Option.some.inj h]; exact hs
      | succ n ih =>
        intro k s s' hs h
        unfold runA at h
        cases q : stepA (m.1 18) (dC (m.1 24 (160 * r + k))) s with
        | none => rw [q] at h; cases h
        | some s1 => rw [q] at h; exact ih (k + 1) s1 s' (stepA_bnd hN hs q) h
    exact key _ _ [] _ (by intro x hx; cases hx) h1
  have hb2 := hbd v (List.mem_cons_self ..)
  refine ⟨F, Int64.toInt32 (F 0), ?_, ?_⟩
  · rw [er]; rfl
  · rw [l2i (by omega) (by omega), hv0]
    unfold totV
    rw [h1]
theorem sum_r {w : rf_w} {m M : rf_m} {r c : Nat} (hk : rulOK w m r c) (hN : nok (M.1 228)) (e0 : M.1 c = m.1 c) (e1 : M.1 (c + 1) = m.1 (c + 1)) (e2 : M.1 (c + 2) = m.1 (c + 2)) (ha : m.1 19 r ≠ 1) (hb : m.1 19 r ≠ 3) : ∃ G v, g_X14_sumOf w M c = some (v, stc M 235 G) ∧ v.toInt = totV m (M.1 228) r := by
  obtain ⟨k1, k2, k3, k4, k5, k6, k7, k8, k9, ka, kb, kc⟩ := hk
  have k2' := k2
  obtain ⟨r1, r2, r3, r4, r5, r6⟩ := k2
  unfold g_X14_sumOf
  rw [r1, r2, r3, r4, r5, g_t, g_t, g_t, g_t, g_t, e0]
  obtain ⟨v, h0, h1⟩ := (kc (M.1 228) hN).1 ha hb
  have s0 : 0 ≤ m.1 c 3 := by have := k9.1; have := k9.2; grind
  have n1 : (m.1 c 3).toNatClampNeg ≤ 300 := tn_le s0 ka (by decide)
  have n2 : (m.1 c 4).toNatClampNeg ≤ (m.1 c 3).toNatClampNeg := by
    have a := tn_toInt k9.1; have b := tn_toInt s0; have d := i_le.mp k9.2; omega
  obtain ⟨G, hG1, hG2⟩ := valueOf_run (w := w) k2' (m.1 c 4).toNatClampNeg 0 [] [v] M rf_fuel (by unfold rf_fuel; omega) (by omega) hN (by intro x hx; cases hx) trivial (by rw [e1, e2]; exact h1) (by simp)
  have er : g_X14_valueOf w M c 0 (m.1 c 4) = some (G 0, stc M 235 G) := by
    unfold g_X14_valueOf
    rw [r1, r2, r3, r4, r5, g_t, g_t, g_t, g_t, g_t]
    rw [Nat.zero_add, of_tn k9.1] at hG1
    exact hG1
  refine ⟨G, G 0, ?_, ?_⟩
  · rw [er]; rfl
  · unfold totV
    rw [h0]
    exact hG2.1
theorem inForce_r {w : rf_w} {m M : rf_m} {r c : Nat} {d : Int32} (hr : r < 24) (hk : rulOK w m r c) (e0 : M.1 c = m.1 c) : g_X14_isInForce w M (Int32.ofNat r) d = some (bi (m.1 20 r ≤ d ∧ d ≤ m.1 21 r), M) := by
  obtain ⟨k1, k2, k3, k4, k5, k6, _⟩ := hk
  obtain ⟨r1, r2, r3, r4, r5, r6⟩ := k2
  refine wp_eq.mp ?_
  unfold g_X14_isInForce
  rw [gof hr (by decide), g_t, tn_of (by omega), Rt229, k1]
  simp only [rf_o]
  rw [r1, r2, r3, r4, r5]
  simp only [g_t, X14_in, wp_b, wp_some, wp_g, bi_01, true_and, e0, k5, k6]
  rfl
/-- the first place from i on at which P holds, else d -/
noncomputable def fstI (P : Nat → Prop) (d : Int32) : Nat → Nat → Int32
  | 0, _ => d
  | n + 1, i => @ite Int32 (P i) (Classical.propDecidable _) (Int32.ofNat i) (fstI P d n (i + 1))
theorem fstI_t {P : Nat → Prop} {d : Int32} {n i : Nat} (h : P i) : fstI P d (n + 1) i = Int32.ofNat i := if_pos h
theorem fstI_f {P : Nat → Prop} {d : Int32} {n i : Nat} (h : ¬ P i) : fstI P d (n + 1) i = fstI P d n (i + 1) := if_neg h
/-- what strikes a reading: the first rule that is due and holds -/
noncomputable def stkV (m : rf_m) (N : Nat → Int32) (d : Int32) : Int32 := fstI (fun r => dueP m r 1 d ∧ tstP m N r) (-2) (m.1 206 39).toNatClampNeg 0
theorem tstP_stl {m : rf_m} {N : Nat → Int32} {F : Nat → Int64} {r : Nat} : tstP (stl m 25 F) N r = tstP m N r := rfl
theorem rulOK_stl {w : rf_w} {m : rf_m} {F : Nat → Int64} {r c : Nat} (h : rulOK w m r c) : rulOK w (stl m 25 F) r c := h
theorem striker_c {w : rf_w} {m : rf_m} {d : Int32} (j : JRule w m) (hN : nok (m.1 18)) : ∃ F, g_X9_striker w m d = some (stkV m (m.1 18) d, stl m 25 F) := by
  obtain ⟨c1, c2, c3⟩ := j
  have hR := of_tn c2.1
  have hb : (m.1 206 39).toNatClampNeg ≤ 24 := tn_le c2.1 c2.2 (by decide)
  have key : ∀ n f i F, i + n = (m.1 206 39).toNatClampNeg → n < f → ∃ F', g_X9_striker_2 w f d (Int32.ofNat i) (stl m 25 F) = some (fstI (fun r => dueP m r 1 d ∧ tstP m (m.1 18) r) (-2) n i, stl m 25 F') := by
    intro n
    induction n with
    | zero =>
      intro f i F hi hf
      obtain ⟨f, rfl⟩ : ∃ g, f = g + 1 := ⟨f - 1, by omega⟩
      show ∃ F', g_X9_striker_2_b w _ d _ (stl m 25 F) = _
      unfold g_X9_striker_2_b
      rw [stl_i, show i = (m.1 206 39).toNatClampNeg by omega, hR, c1, if_pos (Int32.le_refl _)]
      exact ⟨F, rfl⟩
    | succ n ih =>
      intro f i F hi hf
      obtain ⟨f, rfl⟩ : ∃ g, f = g + 1 := ⟨f - 1, by omega⟩
      show ∃ F', g_X9_striker_2_b w (g_X9_striker_2 w f) d _ (stl m 25 F) = _
      unfold g_X9_striker_2_b g_X9_striker_30
      have h1 : ¬ m.1 206 39 ≤ Int32.ofNat i := by rw [← hR]; exact nle (by omega) (by omega)
      obtain ⟨c, hc⟩ := c3 i (by omega)
      rw [stl_i, c1, if_neg h1, X9_isDue (by omega)]
      simp only [rf_b]
      have ed : dueP (stl m 25 F) i 1 d = dueP m i 1 d := rfl
      rw [ed]
      by_cases hd : dueP m i 1 d
      · rw [bi_t hd, if_neg (show ¬ (1 : Int32) = 0 by decide)]
        obtain ⟨F1, hF1⟩ := holds_c (w := w) (m := stl m 25 F) (by omega) (rulOK_stl hc) hN
        rw [hF1, stl_stl, tstP_stl, stl_i]
        simp only
        by_cases ht : tstP m (m.1 18) i
        · rw [bi_t ht, if_neg (show ¬ (1 : Int32) = 0 by decide), fstI_t ⟨hd, ht⟩]
          exact ⟨F1, rfl⟩
        · rw [bi_f ht, if_pos rfl, fstI_f (fun q => ht q.2), of_succ]
          exact ih f (i + 1) F1 (by omega) (by omega)
      · rw [bi_f hd, if_pos rfl, fstI_f (fun q => hd q.1), of_succ]
        exact ih f (i + 1) F (by omega) (by omega)
  have := key (m.1 206 39).toNatClampNeg rf_fuel 0 (m.2 25) (by omega) (by unfold rf_fuel; omega)
  rw [stl_self] at this
  exact this
theorem rAg_stc {w : rf_w} {m M : rf_m} {G : Nat → Int32} (j : JRule w m) (h : rAg w m M) : rAg w m (stc M 235 G) := by
  refine ⟨h.1, fun r c hr hc => ?_⟩
  obtain ⟨c', hk⟩ := j.2.2 r hr
  have : c' = c := by have := hk.1; rw [hc] at this; exact (Option.some.inj this).symm
  subst this
  obtain ⟨_, _, _, _, _, r6⟩ := hk.2.1
  obtain ⟨h1, h2, h3⟩ := h.2 r c' hr hc
  refine ⟨?_, ?_, ?_⟩
  · rw [stc_c, if_neg (by omega)]; exact h1
  · rw [stc_c, if_neg (by omega)]; exact h2
  · rw [stc_c, if_neg (by omega)]; exact h3
theorem striker_r {w : rf_w} {m M : rf_m} {a : Int32} (j : JRule w m) (hA : rAg w m M) (hN : nok (M.1 228)) (ha : rf_in a 1200 = true) : ∃ G, g_X14_strikerOf_95 w rf_fuel a 0 M = some (stkV m (M.1 228) (M.1 224 a.toNatClampNeg), stc M 235 G) := by
  have j' := j
  obtain ⟨c1, c2, c3⟩ := j
  have hR := of_tn c2.1
  have hb : (m.1 206 39).toNatClampNeg ≤ 24 := tn_le c2.1 c2.2 (by decide)
  have key : ∀ n f i G, i + n = (m.1 206 39).toNatClampNeg → n < f → ∃ G', g_X14_strikerOf_95 w f a (Int32.ofNat i) (stc M 235 G) = some (fstI (fun r => dueP m r 1 (M.1 224 a.toNatClampNeg) ∧ tstP m (M.1 228) r) (-2) n i, stc M 235 G') := by
    intro n
    induction n with
    | zero =>
      intro f i G hi hf
      obtain ⟨f, rfl⟩ : ∃ g, f = g + 1 := ⟨f - 1, by omega⟩
      show ∃ G', g_X14_strikerOf_95_b w _ a _ (stc M 235 G) = _
      unfold g_X14_strikerOf_95_b
      have e : (stc M 235 G).1 206 39 = m.1 206 39 := hA.1
      rw [e, show i = (m.1 206 39).toNatClampNeg by omega, hR, if_pos (Int32.le_refl _)]
      exact ⟨G, rfl⟩
    | succ n ih =>
      intro f i G hi hf
      obtain ⟨f, rfl⟩ : ∃ g, f = g + 1 := ⟨f - 1, by omega⟩
      show ∃ G', g_X14_strikerOf_95_b w (g_X14_strikerOf_95 w f) a _ (stc M 235 G) = _
      unfold g_X14_strikerOf_95_b g_X14_strikerOf_144
      have h1 : ¬ m.1 206 39 ≤ Int32.ofNat i := by rw [← hR]; exact nle (by omega) (by omega)
      obtain ⟨c, hc⟩ := c3 i (by omega)
      have e : (stc M 235 G).1 206 39 = m.1 206 39 := hA.1
      obtain ⟨a0, a1, a2⟩ := (rAg_stc (G := G) j' hA).2 i c (by omega) hc.1
      have r := hc.2.1
      obtain ⟨r1, r2, r3, r4, r5, r6⟩ := r
      have gi : rf_in (Int32.ofNat i) 24 = true := gof (by omega) (by decide)
      have ti : (Int32.ofNat i).toNatClampNeg = i := tn_of (by omega)
      rw [e, if_neg h1, gi, g_t, ti, Rt229, hc.1]
      simp only [rf_o]
      rw [r1, r2, r3, r4, r5, g_t, g_t, g_t, g_t, g_t, a0]
      have hact : m.1 c 0 = 0 ↔ m.1 19 i = 1 := by
        have k3 := hc.2.2.1
        have k4 := hc.2.2.2.1
        rw [k4]
        unfold iv at k3
        constructor
        · intro q; rw [q]; rfl
        · intro q; grind
      have e4 : (stc M 235 G).1 224 = M.1 224 := rfl
      have e8 : (stc M 235 G).1 228 = M.1 228 := rfl
      by_cases q0 : m.1 c 0 = 0
      · rw [if_pos q0, ha, g_t, inForce_r (by omega) hc a0, e4]
        simp only [rf_b]
        by_cases q1 : m.1 20 i ≤ M.1 224 a.toNatClampNeg ∧ M.1 224 a.toNatClampNeg ≤ m.1 21 i
        · rw [bi_t q1, if_neg (show ¬ (1 : Int32) = 0 by decide), g_t, g_t, g_t, g_t, g_t, g_t]
          obtain ⟨G1, hG1⟩ := test_r (w := w) (M := stc M 235 G) hc hN a0 a1 a2
          rw [hG1, stc_stc, e8]
          simp only
          by_cases ht : tstP m (M.1 228) i
          · rw [bi_t ht, if_neg (show ¬ (1 : Int32) = 0 by decide), fstI_t ⟨⟨hact.mp q0, q1.1, q1.2⟩, ht⟩]
            exact ⟨G1, rfl⟩
          · rw [bi_f ht, if_pos rfl, fstI_f (fun q => ht q.2), of_succ]
            exact ih f (i + 1) G1 (by omega) (by omega)
        · rw [bi_f q1, if_pos rfl, fstI_f (fun q => q1 q.1.2), of_succ]
          exact ih f (i + 1) G (by omega) (by omega)
      · rw [if_neg q0, fstI_f (fun q => q0 (hact.mpr q.1.1)), of_succ]
        exact ih f (i + 1) G (by omega) (by omega)
  have := key (m.1 206 39).toNatClampNeg rf_fuel 0 (M.1 235) (by omega) (by unfold rf_fuel; omega)
  rw [stc_self] at this
  exact this
end PBRules
