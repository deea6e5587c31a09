/-! the latest rule, weight, again -/
section PBLat
theorem tstP_N {m : rf_m} {N N' : Nat → Int32} {r : Nat} (h : ∀ i, i < 7 → N i = N' i) : tstP m N r = tstP m N' r := by unfold tstP; rw [runA_N h]
theorem totV_N {m : rf_m} {N N' : Nat → Int32} {r : Nat} (h : ∀ i, i < 7 → N i = N' i) : totV m N r = totV m N' r := by unfold totV; rw [runA_N h]
theorem fstI_congr {P P' : Nat → Prop} {d : Int32} (h : ∀ i, P i = P' i) : ∀ n i, fstI P d n i = fstI P' d n i := by
  rw [show P = P' from funext h]; intros; rfl
theorem stkV_N {m : rf_m} {N N' : Nat → Int32} {d : Int32} (h : ∀ i, i < 7 → N i = N' i) : stkV m N d = stkV m N' d := by
  unfold stkV
  exact fstI_congr (fun r => by rw [tstP_N h]) _ _
noncomputable def tv (m : rf_m) (N : Nat → Int32) (r : Nat) : Int32 := Int32.ofInt (totV m N r)
theorem tv_of {m : rf_m} {N : Nat → Int32} {r : Nat} {v : Int32} (h : v.toInt = totV m N r) : v = tv m N r := by
  unfold tv; rw [← h, Int32.ofInt_toInt]
/-- the last one below n at which P holds -/
noncomputable def lstI (P : Nat → Prop) (V : Nat → Int32) (d : Int32) : Nat → Int32
  | 0 => d
  | n + 1 => @ite Int32 (P n) (Classical.propDecidable _) (V n) (lstI P V d n)
theorem lstI_t {P : Nat → Prop} {V : Nat → Int32} {d : Int32} {n : Nat} (h : P n) : lstI P V d (n + 1) = V n := if_pos h
theorem lstI_f {P : Nat → Prop} {V : Nat → Int32} {d : Int32} {n : Nat} (h : ¬ P n) : lstI P V d (n + 1) = lstI P V d n := if_neg h
def zer : Nat → Int32 := fun _ => 0
theorem nok_zer : nok zer := fun _ _ => ⟨show (0 : Int32) ≤ 0 by decide, show (0 : Int32) ≤ 1000000000 by decide⟩
noncomputable def latV (m : rf_m) (what day d : Int32) : Int32 := lstI (fun r => dueP m r what day) (tv m zer) d (m.1 206 39).toNatClampNeg
/-- the first seven are 0 -/
def z7 (f : Nat → Int32) : Nat → Int32 := fun i => if i < 7 then 0 else f i
theorem clear_c {w : rf_w} {m : rf_m} : g_X9_clearFacts w m = some (stc m 18 (z7 (m.1 18))) := by
  have key : ∀ n f i (m : rf_m), i + n = 7 → n < f → g_J7_fill_53178__18_5 w f 0 (Int32.ofNat i) 7 m = some (stc m 18 (fun k => if i ≤ k ∧ k < 7 then 0 else m.1 18 k)) := by
    intro n
    induction n with
    | zero =>
      intro f i m hi hf
      obtain ⟨f, rfl⟩ : ∃ g, f = g + 1 := ⟨f - 1, by omega⟩
      show g_J7_fill_53178__18_5_b w _ 0 _ 7 m = _
      unfold g_J7_fill_53178__18_5_b
      rw [show i = 7 by omega, if_pos (by decide)]
      have : (fun k => if 7 ≤ k ∧ k < 7 then 0 else m.1 18 k) = m.1 18 := by
        funext k; rw [if_neg (by omega)]
      rw [this, stc_self]
    | succ n ih =>
      intro f i m hi hf
      obtain ⟨f, rfl⟩ : ∃ g, f = g + 1 := ⟨f - 1, by omega⟩
      show g_J7_fill_53178__18_5_b w (g_J7_fill_53178__18_5 w f) 0 _ 7 m = _
      unfold g_J7_fill_53178__18_5_b
      have h1 : ¬ (7 : Int32) ≤ Int32.ofNat i := nle (R := 7) (by omega) (by decide)
      rw [if_neg h1, gof (by omega) (by decide), g_t, tn_of (by omega), of_succ, ih f (i + 1) _ (by omega) (by omega), stc_i, stc_stc, stc_c, if_pos rfl]
      congr 2
      funext k
      unfold pu
      by_cases q : k = i
      · rw [if_neg (by omega), if_pos q, if_pos (by omega)]
      · by_cases q2 : i + 1 ≤ k ∧ k < 7
        · rw [if_pos q2, if_pos (by omega)]
        · rw [if_neg q2, if_neg q, if_neg (by omega)]
  unfold g_X9_clearFacts g_J7_fill_53178__18
  have h := key 7 rf_fuel 0 m (by omega) (by unfold rf_fuel; omega)
  have h' : g_J7_fill_53178__18_5 w rf_fuel 0 0 7 m = some (stc m 18 (z7 (m.1 18))) := by
    rw [show (0 : Int32) = Int32.ofNat 0 from rfl] at h ⊢
    rw [h]
    congr 2
    funext k
    unfold z7
    by_cases q : k < 7
    · rw [if_pos (by omega), if_pos q]; rfl
    · rw [if_neg (by omega), if_neg q]
  rw [h']
  rfl
theorem z7_zer {f : Nat → Int32} : ∀ i, i < 7 → z7 f i = zer i := fun i h => by unfold z7; rw [if_pos h]; rfl
theorem nok_z7 {f : Nat → Int32} : nok (z7 f) := fun i h => by rw [z7_zer i h]; exact nok_zer i h
theorem rulOK_18 {w : rf_w} {m : rf_m} {f : Nat → Int32} {r c : Nat} (h : rulOK w m r c) : rulOK w (stc m 18 f) r c := by
  obtain ⟨k1, k2, kk⟩ := h
  have r6 := k2.2.2.2.2.2
  have e : ∀ a, a ≠ 18 → (stc m 18 f).1 a = m.1 a := fun a ha => by rw [stc_c, if_neg ha]
  refine ⟨k1, k2, ?_⟩
  rw [e c (by omega), e (c + 1) (by omega), e (c + 2) (by omega), e 19 (by decide), e 20 (by decide), e 21 (by decide), e 22 (by decide), e 23 (by decide), e 24 (by decide)]
  exact kk
theorem JRule_18 {w : rf_w} {m : rf_m} {f : Nat → Int32} (h : JRule w m) : JRule w (stc m 18 f) := by
  obtain ⟨c1, c2, c3⟩ := h
  exact ⟨c1, c2, fun r hr => (c3 r hr).elim fun c hc => ⟨c, rulOK_18 hc⟩⟩
theorem latest_c {w : rf_w} {m : rf_m} {what day d : Int32} (j : JRule w m) (h1 : what ≠ 1) (h3 : what ≠ 3) : ∃ F f, g_X9_latest w m what day d = some (latV m what day d, stl (stc m 18 f) 25 F) := by
  unfold g_X9_latest
  rw [clear_c]
  simp only [rf_bv]
  obtain ⟨c1, c2, c3⟩ := JRule_18 (f := z7 (m.1 18)) j
  generalize hM : stc m 18 (z7 (m.1 18)) = M at *
  have eN : M.1 18 = z7 (m.1 18) := by rw [← hM, stc_c, if_pos rfl]
  have hN : nok (M.1 18) := by rw [eN]; exact nok_z7
  have e39 : M.1 206 39 = m.1 206 39 := by rw [← hM]; rfl
  have hR := of_tn c2.1
  have hb : (M.1 206 39).toNatClampNeg ≤ 24 := tn_le c2.1 c2.2 (by decide)
  have key : ∀ n f F, n ≤ (M.1 206 39).toNatClampNeg → n < f → ∃ F', g_X9_latest_12 w f what day d (Int32.ofNat n - 1) (stl M 25 F) = some (lstI (fun r => dueP m r what day) (tv m zer) d n, stl M 25 F') := by
    intro n
    induction n with
    | zero =>
      intro f F hi hf
      obtain ⟨f, rfl⟩ : ∃ g, f = g + 1 := ⟨f - 1, by omega⟩
      show ∃ F', g_X9_latest_12_b w _ what day d _ (stl M 25 F) = _
      unfold g_X9_latest_12_b
      rw [if_pos (by decide)]
      exact ⟨F, rfl⟩
    | succ n ih =>
      intro f F hi hf
      obtain ⟨f, rfl⟩ : ∃ g, f = g + 1 := ⟨f - 1, by omega⟩
      show ∃ F', g_X9_latest_12_b w (g_X9_latest_12 w f) what day d _ (stl M 25 F) = _
      unfold g_X9_latest_12_b
      have n0 : ¬ Int32.ofNat n < 0 := by have := of_nn (a := n) (by omega); grind
      have em : Int32.ofNat n + (-1) = Int32.ofNat n - 1 := by grind
      obtain ⟨c, hc⟩ := c3 n (by omega)
      rw [ofm1', if_neg n0, X9_isDue (by omega)]
      simp only [rf_b]
      have ed : dueP (stl M 25 F) n what day = dueP m n what day := by rw [← hM]; rfl
      rw [ed]
      by_cases hd : dueP m n what day
      · rw [bi_t hd, if_neg (show ¬ (1 : Int32) = 0 by decide), lstI_t hd]
        have hw : M.1 19 n = what := by rw [← hM]; exact hd.1
        obtain ⟨F1, v, hF1, hv⟩ := total_c (w := w) (m := stl M 25 F) (by omega) (rulOK_stl hc) hN (by rw [stl_i, hw]; exact h1) (by rw [stl_i, hw]; exact h3)
        rw [hF1, stl_stl]
        have ev : totV (stl M 25 F) ((stl M 25 F).1 18) n = totV m zer n := by
          rw [stl_i, eN, totV_N (N' := zer) z7_zer, ← hM]
          rfl
        rw [ev] at hv
        exact ⟨F1, by rw [tv_of hv]⟩
      · rw [bi_f hd, if_pos rfl, lstI_f hd, em]
        exact ih f F (by omega) (by omega)
  have := key (M.1 206 39).toNatClampNeg rf_fuel (M.2 25) (Nat.le_refl _) (by unfold rf_fuel; omega)
  rw [stl_self, hR] at this
  obtain ⟨F', hF'⟩ := this
  refine ⟨F', z7 (m.1 18), ?_⟩
  rw [hM, c1, hF', e39]
  rfl
theorem names0 {w : rf_w} {a b : Int32} : ∀ n f i (M : rf_m), i + n = 7 → n < f → ∃ g, g_X14_latest_2 w f a b (Int32.ofNat i) M = g_X14_latest_28 w rf_fuel a b (M.1 206 39 - 1) (stc M 228 g) ∧ ∀ k, k < 7 → g k = if i ≤ k then 0 else M.1 228 k := by
  intro n
  induction n with
  | zero =>
    intro f i M hi hf
    obtain ⟨f, rfl⟩ : ∃ g, f = g + 1 := ⟨f - 1, by omega⟩
    refine ⟨M.1 228, ?_, fun k hk => by rw [if_neg (by omega)]⟩
    show g_X14_latest_2_b w _ a b _ M = _
    unfold g_X14_latest_2_b
    rw [show i = 7 by omega, if_pos (by decide), stc_self]
  | succ n ih =>
    intro f i M hi hf
    obtain ⟨f, rfl⟩ : ∃ g, f = g + 1 := ⟨f - 1, by omega⟩
    obtain ⟨g, h1, h2⟩ := ih f (i + 1) (rf_i M 228 i 0) (by omega) (by omega)
    refine ⟨g, ?_, fun k hk => ?_⟩
    · show g_X14_latest_2_b w (g_X14_latest_2 w f) a b _ M = _
      unfold g_X14_latest_2_b
      have n7 : ¬ (7 : Int32) ≤ Int32.ofNat i := nle (R := 7) (by omega) (by decide)
      rw [if_neg n7, gof (by omega) (by decide), g_t, tn_of (by omega), of_succ, h1, show rf_i M 228 i 0 = stc M 228 (pu (M.1 228) i 0) from stc_i, stc_stc]
      rfl
    · rw [h2 k hk, rf_i_c, if_pos rfl]
      unfold pu
      by_cases q : k = i
      · rw [if_neg (by omega), if_pos q, if_pos (by omega)]
      · by_cases q2 : i + 1 ≤ k
        · rw [if_pos q2, if_pos (by omega)]
        · rw [if_neg q2, if_neg q, if_neg (by omega)]
theorem rAg_228 {w : rf_w} {m M : rf_m} {G : Nat → Int32} (j : JRule w m) (h : rAg w m M) : rAg w m (stc M 228 G) := by
  refine ⟨h.1, fun r c hr hc => ?_⟩
  obtain ⟨c', hk⟩ := j.2.2 r hr
  have : c' = c := by have := hk.1; rw [hc] at this; exact (Option.some.inj this).symm
  subst this
  obtain ⟨_, _, _, _, _, r6⟩ := hk.2.1
  obtain ⟨h1, h2, h3⟩ := h.2 r c' hr hc
  refine ⟨?_, ?_, ?_⟩
  · rw [stc_c, if_neg (by omega)]; exact h1
  · rw [stc_c, if_neg (by omega)]; exact h2
  · rw [stc_c, if_neg (by omega)]; exact h3
theorem latest_r {w : rf_w} {m M : rf_m} {what d : Int32} (j : JRule w m) (hA : rAg w m M) (h1 : what ≠ 0) (h3 : what ≠ 2) : ∃ G g, g_X14_latest w M what d = some (latV m (what + 1) (M.1 206 5) d, stc (stc M 228 g) 235 G) := by
  have j' := j
  obtain ⟨c1, c2, c3⟩ := j
  obtain ⟨g, hg1, hg2⟩ := names0 (w := w) (a := what) (b := d) 7 rf_fuel 0 M (by omega) (by unfold rf_fuel; omega)
  have hg1' : g_X14_latest w M what d = g_X14_latest_28 w rf_fuel what d (M.1 206 39 - 1) (stc M 228 g) := hg1
  rw [hg1']
  have hA' := rAg_228 (G := g) j' hA
  have gz : ∀ i, i < 7 → g i = zer i := fun i hi => by rw [hg2 i hi, if_pos (by omega)]; rfl
  have hN : nok ((stc M 228 g).1 228) := fun i hi => by
    rw [stc_c, if_pos rfl, gz i hi]; exact nok_zer i hi
  have e39 : M.1 206 39 = m.1 206 39 := hA.1
  have e5 : (stc M 228 g).1 206 5 = M.1 206 5 := rfl
  have hR := of_tn c2.1
  have hb : (m.1 206 39).toNatClampNeg ≤ 24 := tn_le c2.1 c2.2 (by decide)
  have eN : (stc M 228 g).1 228 = g := by rw [stc_c, if_pos rfl]
  generalize hM : stc M 228 g = M1 at *
  have key : ∀ n f G, n ≤ (m.1 206 39).toNatClampNeg → n < f → ∃ G', g_X14_latest_28 w f what d (Int32.ofNat n - 1) (stc M1 235 G) = some (lstI (fun r => dueP m r (what + 1) (M.1 206 5)) (tv m zer) d n, stc M1 235 G') := by
    intro n
    induction n with
    | zero =>
      intro f G hi hf
      obtain ⟨f, rfl⟩ : ∃ g, f = g + 1 := ⟨f - 1, by omega⟩
      show ∃ G', g_X14_latest_28_b w _ what d _ (stc M1 235 G) = _
      unfold g_X14_latest_28_b
      rw [if_pos (by decide)]
      exact ⟨G, rfl⟩
    | succ n ih =>
      intro f G hi hf
      obtain ⟨f, rfl⟩ : ∃ g, f = g + 1 := ⟨f - 1, by omega⟩
      show ∃ G', g_X14_latest_28_b w (g_X14_latest_28 w f) what d _ (stc M1 235 G) = _
      unfold g_X14_latest_28_b g_X14_latest_68
      have n0 : ¬ Int32.ofNat n < 0 := by have := of_nn (a := n) (by omega); clear hN; grind
      have em : Int32.ofNat n + (-1) = Int32.ofNat n - 1 := by clear hN; grind
      obtain ⟨c, hc⟩ := c3 n (by omega)
      obtain ⟨a0, a1, a2⟩ := (rAg_stc (G := G) j' hA').2 n c (by omega) hc.1
      obtain ⟨r1, r2, r3, r4, r5, r6⟩ := hc.2.1
      have gi : rf_in (Int32.ofNat n) 24 = true := gof (by omega) (by decide)
      have ti : (Int32.ofNat n).toNatClampNeg = n := tn_of (by omega)
      have e5' : (stc M1 235 G).1 206 5 = M.1 206 5 := by show M1.1 206 5 = _; exact e5
      rw [ofm1', if_neg n0, gi, g_t, ti, Rt229, hc.1]
      simp only [rf_o]
      rw [r1, r2, r3, r4, r5, g_t, g_t, g_t, g_t, g_t, a0]
      have hact : m.1 c 0 = what ↔ m.1 19 n = what + 1 := by
        rw [hc.2.2.2.1]
        constructor
        · intro q; rw [q]
        · intro q; clear hN; grind
      by_cases q0 : m.1 c 0 = what
      · rw [if_pos q0, inForce_r (by omega) hc a0, e5']
        simp only [rf_b]
        by_cases q1 : m.1 20 n ≤ M.1 206 5 ∧ M.1 206 5 ≤ m.1 21 n
        · rw [bi_t q1, if_neg (show ¬ (1 : Int32) = 0 by decide), g_t, g_t, g_t, g_t, g_t, g_t, lstI_t ⟨hact.mp q0, q1.1, q1.2⟩]
          have k3 := hc.2.2.1
          obtain ⟨G1, v, hG1, hv⟩ := sum_r (w := w) (M := stc M1 235 G) hc (by show nok (M1.1 228); exact hN) a0 a1 a2 (by rw [hact.mp q0]; clear hN; grind) (by rw [hact.mp q0]; clear hN; grind)
          rw [hG1, stc_stc]
          have ev : totV m ((stc M1 235 G).1 228) n = totV m zer n := by
            show totV m (M1.1 228) n = _
            rw [eN, totV_N gz]
          rw [ev] at hv
          exact ⟨G1, by rw [tv_of hv]⟩
        · rw [bi_f q1, if_pos rfl, lstI_f (fun q => q1 q.2), em]
          exact ih f G (by omega) (by omega)
      · rw [if_neg q0, lstI_f (fun q => q0 (hact.mpr q.1)), em]
        exact ih f G (by omega) (by omega)
  have := key (m.1 206 39).toNatClampNeg rf_fuel (M1.1 235) (Nat.le_refl _) (by unfold rf_fuel; omega)
  rw [stc_self, hR] at this
  obtain ⟨G', hG'⟩ := this
  refine ⟨G', g, ?_⟩
  rw [hM, e39, hG']
  rfl
theorem rAg_of {w : rf_w} {m M : rf_m} (j : JRule w m) (h0 : M.1 206 39 = m.1 206 39) (h : ∀ a, (230 ≤ a ∧ a ≤ 232) ∨ 306 ≤ a → M.1 a = m.1 a) : rAg w m M := by
  refine ⟨h0, fun r c hr hc => ?_⟩
  obtain ⟨c', hk⟩ := j.2.2 r hr
  have : c' = c := by have := hk.1; rw [hc] at this; exact (Option.some.inj this).symm
  subst this
  have r6 := hk.2.1.2.2.2.2.2
  exact ⟨h c' (by omega), h (c' + 1) (by omega), h (c' + 2) (by omega)⟩
noncomputable def leastV (m : rf_m) (day : Int32) : Int32 := latV m 4 day 0
noncomputable def allowV (m : rf_m) (day : Int32) : Int32 := if 0 < latV m 5 day 100 then latV m 5 day 100 else 0
theorem least_c {w : rf_w} {m : rf_m} {day : Int32} (j : JRule w m) : ∃ F f, g_X9_leastAngle w m day = some (leastV m day, stl (stc m 18 f) 25 F) := by
  obtain ⟨F, f, h⟩ := latest_c (w := w) (what := 4) (day := day) (d := 0) j (by decide) (by decide)
  exact ⟨F, f, by unfold g_X9_leastAngle; rw [h]; rfl⟩
theorem allow_c {w : rf_w} {m : rf_m} {day : Int32} (j : JRule w m) : ∃ F f, g_X9_allowedMiss w m day = some (allowV m day, stl (stc m 18 f) 25 F) := by
  obtain ⟨F, f, h⟩ := latest_c (w := w) (what := 5) (day := day) (d := 100) j (by decide) (by decide)
  refine ⟨F, f, wp_eq.mp ?_⟩
  unfold g_X9_allowedMiss allowV
  simp only [wp_b, h, wp_some, max_eq]
theorem least_r {w : rf_w} {m M : rf_m} (j : JRule w m) (hA : rAg w m M) : ∃ G g, g_X14_latest w M 3 0 = some (leastV m (M.1 206 5), stc (stc M 228 g) 235 G) := latest_r (what := 3) (d := 0) j hA (by decide) (by decide)
theorem allow_r {w : rf_w} {m M : rf_m} (j : JRule w m) (hA : rAg w m M) : ∃ G g, g_X14_allowed w M = some (allowV m (M.1 206 5), stc (stc M 228 g) 235 G) := by
  obtain ⟨G, g, h⟩ := latest_r (w := w) (what := 4) (d := 100) j hA (by decide) (by decide)
  refine ⟨G, g, wp_eq.mp ?_⟩
  unfold g_X14_allowed allowV
  simp only [wp_b, h, wp_some, max_eq]
  rfl
/-- what a call tells of the rules, on both sides -/
theorem k19 {w : rf_w} {m : rf_m} {y : Nat → Int32} (j : JRule w m) (jd : JD m) : wp (g_lc_19 w m y) (fun r => r.1 = w) := by
  have d1 := jd.1
  unfold g_lc_19 g_X11_told g_X14_told
  have ag : ∀ f F, rAg w m (rf_i (stl (stc m 18 f) 25 F) 206 0 0) := by
    intro f F
    refine rAg_of j rfl (fun a ha => ?_)
    rw [rf_i_c, if_neg (by omega), stl_i, stc_c, if_neg (by omega)]
  by_cases a0 : y 1 = 0
  · obtain ⟨F, f, h⟩ := least_c (w := w) (day := m.1 206 5) j
    obtain ⟨G, g, h2⟩ := least_r (w := w) j (ag f F)
    have e5 : (rf_i (stl (stc m 18 f) 25 F) 206 0 0).1 206 5 = m.1 206 5 := rfl
    rw [e5] at h2
    simp [wp_b, wp_g, wp_ite, wp_some, a0, d1, h, h2]
  · by_cases a1 : y 1 = 1
    · obtain ⟨F, f, h⟩ := allow_c (w := w) (day := m.1 206 5) j
      obtain ⟨G, g, h2⟩ := allow_r (w := w) j (ag f F)
      have e5 : (rf_i (stl (stc m 18 f) 25 F) 206 0 0).1 206 5 = m.1 206 5 := rfl
      rw [e5] at h2
      simp [wp_b, wp_g, wp_ite, wp_some, a1, d1, h, h2]
    · simp [wp_b, wp_g, wp_ite, wp_some, a0, a1]
end PBLat
