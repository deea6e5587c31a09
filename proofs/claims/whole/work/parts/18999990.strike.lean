/-! strike -/
section PBStrike
/-- what the class has behind a strike -/
def stM (m : rf_m) (s r a : Nat) (v : Int32) : rf_m := rf_i (rf_i (rf_i (rf_i (rf_i (rf_i (rf_i m 37 s (m.1 0 10)) 39 s v) 38 s (m.1 36 r)) 36 r (Int32.ofNat s)) 26 17 (Int32.ofNat s + 1)) 40 a 1) 26 19 1
theorem nar01 {v : Int32} (h : v = 0 ∨ v = 1) : vp_nar .boolean v = v := by
  rcases h with h | h <;> rw [h] <;> decide
theorem add_c {w : rf_w} {m : rf_m} {s r a : Nat} {v : Int32} (hs : m.1 26 17 = Int32.ofNat s) (h512 : s < 512) (hr : r < 1200) (ha : m.1 32 (9 * r) = Int32.ofNat a) (ha8 : a < 80) (hv : v = 0 ∨ v = 1) : g_X3_addStrike w m (Int32.ofNat r) (m.1 0 10) v = some (1, stM m s r a v) := by
  have l : (m.1 26 17) < 512 := by rw [hs]; exact (of_lt (b := 512) (by omega) (by omega)).mpr h512
  have g1 : rf_in (Int32.ofNat s) 512 = true := gof h512 (by decide)
  have g2 : rf_in (Int32.ofNat r) 1200 = true := gof hr (by decide)
  have t1 : (Int32.ofNat s).toNatClampNeg = s := tn_of (by omega)
  have t2 : (Int32.ofNat r).toNatClampNeg = r := tn_of (by omega)
  have f := fun X : rf_m => X3_factOf (w := w) (m := X) (r := r) (k := 0) hr (by omega)
  have g3 : rf_in (Int32.ofNat a) 80 = true := gof ha8 (by decide)
  have t3 : (Int32.ofNat a).toNatClampNeg = a := tn_of (by omega)
  unfold g_X3_addStrike
  rw [if_pos l]
  show rf_g (rf_in (m.1 26 17) 512) (rf_g (rf_in (m.1 26 17) 512) (rf_g (rf_in (Int32.ofNat r) 1200) (rf_g (rf_in (m.1 26 17) 512) (rf_g (rf_in (Int32.ofNat r) 1200) (rf_b (g_X3_factOf w (rf_i (rf_i (rf_i (rf_i (rf_i m 37 (m.1 26 17).toNatClampNeg (m.1 0 10)) 39 (m.1 26 17).toNatClampNeg (vp_nar .boolean v)) 38 (m.1 26 17).toNatClampNeg (m.1 36 (Int32.ofNat r).toNatClampNeg)) 36 (Int32.ofNat r).toNatClampNeg (m.1 26 17)) 26 17 (m.1 26 17 + 1)) (Int32.ofNat r) (Int32.ofNat 0)) fun y5 m5 => rf_bv (g_X3_forget w m5 y5) fun m6 => some (1, m6)))))) = _
  rw [hs, g1, g2, g_t, g_t, g_t, g_t, g_t, t1, t2, nar01 hv, f, b_sm]
  show rf_bv (g_X3_forget w _ (m.1 32 (9 * r))) _ = _
  unfold g_X3_forget
  rw [ha, g3, g_t, bv_sm, t3, nar01 (Or.inr rfl)]
  rfl
/-- what the reference has behind the telling -/
def srM (M : rf_m) (l s r : Nat) (v : Int32) : rf_m := rf_i (rf_i (rf_i (rf_i (rf_i (rf_i M l (3 * s) (Int32.ofNat r)) l (3 * s + 1) (M.1 206 5)) l (3 * s + 2) v) 206 18 (Int32.ofNat s + 1)) 206 1 0) 206 2 (-1)
theorem log_r {w : rf_w} {M : rf_m} {l len s r : Nat} {v : Int32} (h1 : w.2.2 1 = some l) (h2 : rf_al w l = some len) (hl : l ≠ 206) (h3 : len ≤ 3072) (h4 : 3 * s + 3 ≤ len) (h5 : M.1 206 18 = Int32.ofNat s) (hv : v = 0 ∨ v = 1) : g_X14_strike_132 w (Int32.ofNat r) v M = some (1, w, srM M l s r v) := by
  have e : ∀ (X : rf_m) k x, (rf_i X l k x).1 206 = X.1 206 := fun X k x => by rw [rf_i_c, if_neg (Ne.symm hl)]
  have m3 : 3 * Int32.ofNat s = Int32.ofNat (3 * s) := by
    apply Int32.toInt_inj.mp
    rw [mulI (by rw [ofI (by omega)]; simp; omega) (by rw [ofI (by omega)]; simp; omega), ofI (by omega), ofI (by omega)]
    simp
  have a1 : Int32.ofNat (3 * s) + 1 = Int32.ofNat (3 * s + 1) := of_succ
  have a2 : Int32.ofNat (3 * s) + 2 = Int32.ofNat (3 * s + 2) := by
    have : (2 : Int32) = 1 + 1 := by decide
    rw [this, ← Int32.add_assoc, of_succ, of_succ]
  have g0 : rf_in (Int32.ofNat (3 * s)) len = true := gof (by omega) (by omega)
  have g1 : rf_in (Int32.ofNat (3 * s + 1)) len = true := gof (by omega) (by omega)
  have g2 : rf_in (Int32.ofNat (3 * s + 2)) len = true := gof (by omega) (by omega)
  have t0 : (Int32.ofNat (3 * s)).toNatClampNeg = 3 * s := tn_of (by omega)
  have t1 : (Int32.ofNat (3 * s + 1)).toNatClampNeg = 3 * s + 1 := tn_of (by omega)
  have t2 : (Int32.ofNat (3 * s + 2)).toNatClampNeg = 3 * s + 2 := tn_of (by omega)
  have o01 : rf_01 1 = true := by decide
  unfold g_X14_strike_132
  simp only [h1, h2, rf_o, e, h5, m3, a1, a2, g0, g1, g2, g_t, t0, t1, t2]
  rcases hv with hv | hv
  · rw [if_pos hv, hv]; unfold g_X14_granted srM; simp only [rf_b, o01, g_t]
  · rw [if_neg (by rw [hv]; decide), hv]; unfold g_X14_granted srM; simp only [rf_b, o01, g_t]
theorem al_old {w : rf_w} {C : rf_C} {k : Nat} (h : k ≠ w.1) : rf_at (rf_sh (rf_w1 w C)) k = rf_at (rf_sh w) k := by
  show (bif Nat.ble k 305 then some (rf_s k) else if k = w.1 then some C else w.2.1 k) = _
  rw [if_neg h]
  rfl
theorem al_new {w : rf_w} {C : rf_C} (h : 306 ≤ w.1) : rf_at (rf_sh (rf_w1 w C)) w.1 = some C := by
  show (bif Nat.ble w.1 305 then some (rf_s w.1) else if w.1 = w.1 then some C else w.2.1 w.1) = _
  have : Nat.ble w.1 305 = false := by
    cases q : Nat.ble w.1 305
    · rfl
    · have := Nat.le_of_ble_eq_true q; omega
  rw [this, if_pos rfl]
  rfl
theorem copy_r {w : rf_w} {a1 a3 : Int32} {l len q big : Nat} (h1 : w.2.2 1 = some l) (h2 : rf_al w l = some len) (h3 : rf_al w q = some big) (hl : len ≤ big) (hb : big ≤ 3072) (hq : l ≠ q) : ∀ n F i (M : rf_m), i + n = len → n < F → ∃ G, g_X14_strike_98 w F a1 a3 q (Int32.ofNat i) M = h_X14_strike_126 w a1 a3 q (stc M q G) ∧ ∀ k, k < len → G k = if i ≤ k then M.1 l k else M.1 q k := by
  intro n
  induction n with
  | zero =>
    intro F i M hi hF
    obtain ⟨F, rfl⟩ : ∃ g, F = g + 1 := ⟨F - 1, by omega⟩
    refine ⟨M.1 q, ?_, fun k hk => by rw [if_neg (by omega)]⟩
    rw [stc_self]
    show g_X14_strike_98_b w _ _ _ _ _ M = _
    unfold g_X14_strike_98_b
    simp only [h1, h2, h3, rf_o]
    rw [show i = len by omega, if_pos (Int32.le_refl _)]
  | succ n ih =>
    intro F i M hi hF
    obtain ⟨F, rfl⟩ : ∃ g, F = g + 1 := ⟨F - 1, by omega⟩
    obtain ⟨G, g1, g2⟩ := ih F (i + 1) (rf_i M q i (M.1 l i)) (by omega) (by omega)
    refine ⟨G, ?_, fun k hk => ?_⟩
    · show g_X14_strike_98_b w (g_X14_strike_98 w F) _ _ _ _ M = _
      unfold g_X14_strike_98_b
      simp only [h1, h2, h3, rf_o]
      rw [if_neg (nle (by omega) (by omega)), gof (by omega) (by omega), g_t, gof (by omega) (by omega), g_t, tn_of (by omega), of_succ, g1, stc_i, stc_stc]
    · rw [g2 k hk, rf_i_c, if_neg hq, rf_i_c, if_pos rfl]
      by_cases e : k = i
      · rw [if_neg (by omega), if_pos (by omega), e, pu_at]
      · rw [pu_ne e]
        by_cases e2 : i ≤ k
        · rw [if_pos (by omega), if_pos e2]
        · rw [if_neg (by omega), if_neg e2]
/-- the numbers of changing references that stand for rules: 0 the fresh one, 2 .. the told ones -/
def ix (n i : Nat) : Prop := i = 0 ∨ (2 ≤ i ∧ i < n + 2)
/-- the cells that were made behind the start -/
def JW (c : Nat) (w : rf_w) (m : rf_m) : Prop := 306 ≤ w.1 ∧ w.1 ≤ 306 + 4 * c ∧ (∀ l, w.2.2 1 = some l → l < w.1 ∧ ∀ len, rf_al w l = some len → len % 3 = 0 ∧ 3 ≤ len) ∧ (∀ i, ix (m.1 206 39).toNatClampNeg i → ∃ k, w.2.2 i = some k ∧ rob w k ∧ k + 2 < w.1 ∧ ∀ l, w.2.2 1 = some l → l < k ∨ k + 2 < l) ∧ ∀ i j k k', ix (m.1 206 39).toNatClampNeg i → ix (m.1 206 39).toNatClampNeg j → i ≠ j → w.2.2 i = some k → w.2.2 j = some k' → k + 2 < k' ∨ k' + 2 < k
theorem srM_f {M : rf_m} {l s r : Nat} {v : Int32} (hl : l ≠ 206) : (∀ z, z ≠ l → z ≠ 206 → (srM M l s r v).1 z = M.1 z) ∧ (∀ k, k ≠ 1 → k ≠ 2 → k ≠ 18 → (srM M l s r v).1 206 k = M.1 206 k) ∧ (srM M l s r v).1 206 1 = 0 ∧ (srM M l s r v).1 206 2 = -1 ∧ (srM M l s r v).1 206 18 = Int32.ofNat s + 1 ∧ (∀ k, k < 3 * s → (srM M l s r v).1 l k = M.1 l k) ∧ (srM M l s r v).1 l (3 * s) = Int32.ofNat r ∧ (srM M l s r v).1 l (3 * s + 1) = M.1 206 5 ∧ (srM M l s r v).1 l (3 * s + 2) = v ∧ (srM M l s r v).2 = M.2 := by
  have e6 : (srM M l s r v).1 206 = pu (pu (pu (M.1 206) 18 (Int32.ofNat s + 1)) 1 0) 2 (-1) := by
    unfold srM
    rw [rf_i_c, if_pos rfl, rf_i_c, if_pos rfl, rf_i_c, if_pos rfl, rf_i_c, if_neg (Ne.symm hl), rf_i_c, if_neg (Ne.symm hl), rf_i_c, if_neg (Ne.symm hl)]
  have el : (srM M l s r v).1 l = pu (pu (pu (M.1 l) (3 * s) (Int32.ofNat r)) (3 * s + 1) (M.1 206 5)) (3 * s + 2) v := by
    unfold srM
    rw [rf_i_c, if_neg hl, rf_i_c, if_neg hl, rf_i_c, if_neg hl, rf_i_c, if_pos rfl, rf_i_c, if_pos rfl, rf_i_c, if_pos rfl]
  rw [e6, el]
  refine ⟨fun z h1 h2 => ?_, fun k h1 h2 h3 => ?_, ?_, ?_, ?_, fun k hk => ?_, ?_, ?_, ?_, rfl⟩
  · unfold srM
    rw [rf_i_c, if_neg h2, rf_i_c, if_neg h2, rf_i_c, if_neg h2, rf_i_c, if_neg h1, rf_i_c, if_neg h1, rf_i_c, if_neg h1]
  · rw [pu_ne h2, pu_ne h1, pu_ne h3]
  · rw [pu_ne (by decide), pu_at]
  · rw [pu_at]
  · rw [pu_ne (by decide), pu_ne (by decide), pu_at]
  · rw [pu_ne (by omega), pu_ne (by omega), pu_ne (by omega)]
  · rw [pu_ne (by omega), pu_ne (by omega), pu_at]
  · rw [pu_ne (by omega), pu_at]
  · rw [pu_at]
/-- the world behind a strike -/
def wS (w w' : rf_w) (l l' len' : Nat) : Prop := ((w' = w ∧ l' = l) ∨ ∃ n, w' = rf_wlog (rf_w1 w (.inl (.int, n))) w.1 ∧ l' = w.1) ∧ w'.2.2 1 = some l' ∧ rf_al w' l' = some len' ∧ len' ≤ 3072 ∧ len' % 3 = 0
theorem tell_r {w : rf_w} {M1 : rf_m} {l len s r : Nat} {v : Int32} (h1 : w.2.2 1 = some l) (h2 : rf_al w l = some len) (hl : l < w.1) (hlc : l = 225 ∨ 306 ≤ l) (h3 : len ≤ 3072) (h4 : 3 * s ≤ len) (h5 : len % 3 = 0) (h6 : 3 ≤ len) (hs : s < 512) (hw : 306 ≤ w.1) (hw2 : w.1 ≤ 3000) (h18 : M1.1 206 18 = Int32.ofNat s) (hv : v = 0 ∨ v = 1) : ∃ w' l' len' M, (rf_o (w.2.2 1) fun k9 => rf_o (rf_al w k9) fun k10 => (if (3 * (M1.1 206 18)) = (Int32.ofNat k10) then h_X14_strike_84 w (Int32.ofNat r) v M1 else g_X14_strike_132 w (Int32.ofNat r) v M1)) = some (1, w', M) ∧ wS w w' l l' len' ∧ 3 * (s + 1) ≤ len' ∧ (∀ z, z ≠ l' → z ≠ 206 → z < w.1 → M.1 z = M1.1 z) ∧ (∀ k, k ≠ 1 → k ≠ 2 → k ≠ 18 → M.1 206 k = M1.1 206 k) ∧ M.1 206 1 = 0 ∧ M.1 206 2 = -1 ∧ M.1 206 18 = Int32.ofNat s + 1 ∧ (∀ k, k < 3 * s → M.1 l' k = M1.1 l k) ∧ M.1 l' (3 * s) = Int32.ofNat r ∧ M.1 l' (3 * s + 1) = M1.1 206 5 ∧ M.1 l' (3 * s + 2) = v ∧ ∀ z, z < w.1 → M.2 z = M1.2 z := by
  have m3 : 3 * Int32.ofNat s = Int32.ofNat (3 * s) := by
    apply Int32.toInt_inj.mp
    rw [mulI (by rw [ofI (by omega)]; simp; omega) (by rw [ofI (by omega)]; simp; omega), ofI (by omega), ofI (by omega)]
    simp
  have hl6 : l ≠ 206 := by omega
  simp only [h1, h2, rf_o]
  rw [h18, m3]
  by_cases e : 3 * s = len
  · rw [if_pos (by rw [e])]
    generalize hw1 : rf_w1 w (.inl (.int, 2 * len)) = w1
    have c1 : w1.2.2 1 = some l := by rw [← hw1]; exact h1
    have c2 : rf_al w1 l = some len := by
      unfold rf_al
      rw [← hw1, al_old (by omega)]
      exact h2
    have c3 : rf_al w1 w.1 = some (2 * len) := by
      unfold rf_al
      rw [← hw1, al_new hw]
    have c4 : w1.1 = w.1 + 1 := by rw [← hw1]; rfl
    obtain ⟨G, g1, g2⟩ := copy_r (a1 := Int32.ofNat r) (a3 := v) c1 c2 c3 (by omega) (by omega) (by omega) len rf_fuel 0 (rf_z M1 w.1) (by omega) (by unfold rf_fuel; omega)
    have z1 : ∀ z, z < w.1 → (rf_z M1 w.1).1 z = M1.1 z := fun z hz => by
      funext k
      show (if w.1 ≤ z then 0 else M1.1 z k) = _
      rw [if_neg (by omega)]
    have z2 : ∀ z, z < w.1 → (rf_z M1 w.1).2 z = M1.2 z := fun z hz => by
      funext k
      show (if w.1 ≤ z then 0 else M1.2 z k) = _
      rw [if_neg (by omega)]
    have b1 : Nat.ble (2 * len) 3072 = true := Nat.ble_eq_true_of_le (by omega)
    have b2 : Nat.ble (w.1 + 2) 1000000 = true := Nat.ble_eq_true_of_le (by omega)
    have b3 : Nat.ble (w.1 + 1) w1.1 = true := Nat.ble_eq_true_of_le (by omega)
    have d1 : (rf_wlog w1 w.1).2.2 1 = some w.1 := rfl
    have d2 : rf_al (rf_wlog w1 w.1) w.1 = some (2 * len) := c3
    generalize hX : stc (rf_z M1 w.1) w.1 G = X at g1
    have x1 : ∀ z, z < w.1 → X.1 z = M1.1 z := fun z hz => by rw [← hX, stc_c, if_neg (by omega)]; exact z1 z hz
    have x2 : ∀ z, z < w.1 → X.2 z = M1.2 z := fun z hz => by rw [← hX, stc_l]; exact z2 z hz
    have x3 : ∀ k, k < len → X.1 w.1 k = M1.1 l k := fun k hk => by rw [← hX, stc_c, if_pos rfl, g2 k hk, if_pos (Nat.zero_le _), z1 l hl]
    have hR := log_r (w := rf_wlog w1 w.1) (M := X) (r := r) (s := s) d1 d2 (by omega) (by omega) (by omega) (by rw [x1 206 (by omega)]; exact h18) hv
    obtain ⟨f1, f2, f3, f4, f5, f6, f7, f8, f9, f10⟩ := srM_f (M := X) (l := w.1) (s := s) (r := r) (v := v) (by omega)
    refine ⟨rf_wlog w1 w.1, w.1, 2 * len, srM X w.1 s r v, ?_, ⟨Or.inr ⟨2 * len, by rw [hw1], rfl⟩, d1, d2, by omega, by omega⟩, by omega, fun z q1 q2 q3 => ?_, fun k q1 q2 q3 => ?_, f3, f4, f5, fun k hk => ?_, f7, ?_, f9, fun z hz => ?_⟩
    · unfold h_X14_strike_84
      simp only [h1, h2, rf_o]
      rw [b1, b2, g_t, g_t, hw1, show (0 : Int32) = Int32.ofNat 0 from rfl, g1]
      unfold h_X14_strike_126
      rw [b3, g_t]
      exact hR
    · rw [f1 z q1 q2, x1 z q3]
    · rw [f2 k q1 q2 q3, x1 206 (by omega)]
    · rw [f6 k hk, x3 k (by omega)]
    · rw [f8, x1 206 (by omega)]
    · rw [f10, x2 z hz]
  · rw [if_neg (fun q => e ((of_inj (by omega) (by omega)).mp q))]
    have hR := log_r (w := w) (M := M1) (r := r) (s := s) h1 h2 hl6 h3 (by omega) h18 hv
    obtain ⟨f1, f2, f3, f4, f5, f6, f7, f8, f9, f10⟩ := srM_f (M := M1) (l := l) (s := s) (r := r) (v := v) hl6
    exact ⟨w, l, len, srM M1 l s r v, hR, ⟨Or.inl ⟨rfl, rfl⟩, h1, h2, h3, h5⟩, by omega, fun z q1 q2 q3 => f1 z q1 q2, f2, f3, f4, f5, f6, f7, f8, f9, fun z hz => by rw [f10]⟩
/-- what counting tells, the strikes by hand aside -/
def eqU (m m' : rf_m) : Prop := (∀ c, c = 217 ∨ (220 ≤ c ∧ c ≤ 224) → m'.1 c = m.1 c) ∧ m'.1 206 17 = m.1 206 17 ∧ ∀ N d, stkV m' N d = stkV m N d
theorem U_rdl {m m' : rf_m} (h : eqU m m') (a : Nat) : rdl m' a = rdl m a := by unfold rdl; rw [h.1 220 (by omega), h.2.1]
theorem U_ok {m m' : rf_m} (h : eqU m m') (d : Int32) : okP m' d = okP m d := by funext r; unfold okP; rw [h.1 221 (by omega), h.1 224 (by omega)]
theorem U_srt {m m' : rf_m} (h : eqU m m') (d : Int32) (l : List Nat) : srt m' d l = srt m d l := by
  have : srS m' d = srS m d := by funext s r; unfold srS; rw [U_ok h, h.1 221 (by omega)]
  unfold srt; rw [this]
theorem U_mid {m m' : rf_m} (h : eqU m m') (d : Int32) (a : Nat) : midV m' d a = midV m d a := by unfold midV; rw [U_rdl h, U_srt h]
theorem U_nm {m m' : rf_m} (h : eqU m m') (d : Int32) (a r : Nat) : nmV m' d a r = nmV m d a r := by
  funext i
  unfold nmV
  rw [U_mid h, U_rdl h, U_srt h, h.1 221 (by omega), h.1 222 (by omega), h.1 223 (by omega), h.1 217 (by omega)]
theorem U_sk {m m' : rf_m} (h : eqU m m') (d : Int32) (a r : Nat) : skV m' d a r = skV m d a r := by
  unfold skV
  rw [U_nm h, h.1 224 (by omega), h.2.2]
theorem U_kp {w w' : rf_w} {m m' : rf_m} (h : eqU m m') {d : Int32} {a r : Nat} (hs : svV w' m' r d = svV w m r d) : keptP w' m' d a r = keptP w m d a r := by unfold keptP; rw [U_ok h, hs, U_sk h]
theorem U_kpl {w w' : rf_w} {m m' : rf_m} (h : eqU m m') {d : Int32} {a : Nat} : ∀ (l s : List Nat), (∀ r, r ∈ l → svV w' m' r d = svV w m r d) → l.foldl (kpS w' m' d a) s = l.foldl (kpS w m d a) s := by
  intro l
  induction l with
  | nil => intro s _; rfl
  | cons x l ih =>
    intro s hl
    have e : kpS w' m' d a s x = kpS w m d a s x := by unfold kpS; rw [U_kp h (hl x List.mem_cons_self)]
    rw [List.foldl_cons, List.foldl_cons, e]
    exact ih _ (fun r hr => hl r (List.mem_cons_of_mem _ hr))
theorem U_kpt {w w' : rf_w} {m m' : rf_m} (h : eqU m m') {d : Int32} {a : Nat} (hs : ∀ r, r ∈ rdl m a → svV w' m' r d = svV w m r d) : kpt w' m' d a = kpt w m d a := by
  unfold kpt kpl
  rw [U_rdl h]
  exact U_kpl h _ _ hs
theorem U_fre {w w' : rf_w} {m m' x : rf_m} (h : eqU m m') {a : Nat} (hs : ∀ r, r ∈ rdl m a → svV w' m' r 9999 = svV w m r 9999) (hf : fre w m x a) : fre w' m' x a := by
  refine ⟨?_, fun r hr => ?_⟩
  · have := hf.1
    unfold tal meanV sprV loV hiV smL loL hiL at this ⊢
    rw [U_kpt h hs, U_rdl h, U_srt h, U_mid h, h.1 221 (by omega)]
    exact this
  · rw [U_rdl h] at hr
    have := hf.2 r hr
    unfold fact4 strV offV at this ⊢
    rw [hs r hr, U_sk h, U_kp h (hs r hr), U_ok h, U_mid h, h.1 221 (by omega)]
    exact this
end PBStrike
