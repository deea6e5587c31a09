/-! the class's whole numbers: quotients -/
section PBBig7
def qV (x y : Int) : Int := if (x < 0 ↔ y < 0) then mg x / mg y else - (mg x / mg y)
def rV (x y : Int) : Int := if x < 0 then - (mg x % mg y) else mg x % mg y
def qF (a r s : Nat) (m m' : rf_m) : Prop := (∀ z, z ≠ a → z ≠ r → z ≠ s → m'.1 z = m.1 z) ∧ ∀ z, z ≠ a + 1 → z ≠ r + 1 → z ≠ s + 1 → m'.2 z = m.2 z
theorem qF_F {a r s b : Nat} {m m' : rf_m} (h : bF b m m') (hb : b = a ∨ b = r ∨ b = s) : qF a r s m m' := ⟨fun z h1 h2 h3 => h.1 z (by omega), fun z h1 h2 h3 => h.2 z (by omega)⟩
theorem qF_trans {a r s : Nat} {m m' m'' : rf_m} (h : qF a r s m m') (k : qF a r s m' m'') : qF a r s m m'' := ⟨fun z a b c => (k.1 z a b c).trans (h.1 z a b c), fun z a b c => (k.2 z a b c).trans (h.2 z a b c)⟩
theorem bg_q {m m' : rf_m} {a r s b : Nat} {v : Int} (h : bg m b v) (f : qF a r s m m') (n1 : b ≠ a) (n2 : b ≠ r) (n3 : b ≠ s) : bg m' b v := bg_c h (f.1 b n1 n2 n3) (f.2 (b + 1) (by omega) (by omega) (by omega))
theorem mg_nn (v : Int) : 0 ≤ mg v := by unfold mg; split <;> omega
theorem mg_pos {v : Int} (h : v ≠ 0) : 0 < mg v := by unfold mg; split <;> omega
theorem div77 {w : rf_w} {a b c r s na nb sh pl : Nat} {x y A D : Int} {G : Nat → Int64} (ha : bC w a) (hb : bC w b) (hc : bC w c) (hr : bC w r) (hs : bC w s) (ar : a ≠ r) (as : a ≠ s) (rs : r ≠ s) (ab : a ≠ b) (ac : a ≠ c) (rb : r ≠ b) (rc : r ≠ c) (hsh : sh < 30) (hpl : pl + nb = na) (nb0 : 0 < nb) (na9 : na ≤ 9) (y0 : 0 < mg y) (hA : A = mg x * 2 ^ sh) (hD : D = mg y * 2 ^ sh) (gl : lmb G nb) (gD : lv G nb = D) (gt : 536870912 ≤ (G (nb - 1)).toInt) {M0 : rf_m} (hb1 : (M0.1 b 1 = 0 ∧ 0 ≤ x) ∨ (M0.1 b 1 = 1 ∧ x < 0)) (hc1 : (M0.1 c 1 = 0 ∧ 0 ≤ y) ∨ (M0.1 c 1 = 1 ∧ y < 0)) (hc0 : M0.1 c 0 = Int32.ofNat nb) (hr1 : M0.1 r 1 = M0.1 b 1) : ∀ i f (M : rf_m), i ≤ pl + 1 → i < f → qF a r s M0 M → M.1 = M0.1 → M.2 (s + 1) = G → lmb (M.2 (r + 1)) (na + 1) → (∀ k, i ≤ k → k < pl + 1 → 0 ≤ (M.2 (a + 1) k).toInt ∧ (M.2 (a + 1) k).toInt < 1073741824) → A = D * (pB i * lvo (M.2 (a + 1)) i (pl + 1 - i)) + lv (M.2 (r + 1)) (i + nb) → lvo (M.2 (r + 1)) i nb < D → ∃ m', g_X1_setQuotient_77 w f a b c r s (Int32.ofNat pl) (Int32.ofNat sh) (Int32.ofNat i - 1) M = some m' ∧ qF a r s M0 m' ∧ bg m' a (qV x y) ∧ bg m' r (rV x y) := by
  have p0 := p2_pos sh
  have o10 : ¬ (1 : Int32) = 0 := by decide
  have o01 : ¬ (0 : Int32) = 1 := by decide
  intro i
  induction i with
  | zero =>
    intro f M _ hf fM e1 eG hl hq hA' hlt
    obtain ⟨f, rfl⟩ : ∃ g, f = g + 1 := ⟨f - 1, by omega⟩
    have lq : lmb (M.2 (a + 1)) (pl + 1) := fun k hk => hq k (by omega) hk
    have rQ := lv_rng (pl + 1) lq
    have rR := lv_rng nb (lmb_le hl (show nb ≤ na + 1 by omega))
    have eQ : lvo (M.2 (a + 1)) 0 (pl + 1 - 0) = lv (M.2 (a + 1)) (pl + 1) := by
      show lv (fun i => M.2 (a + 1) (0 + i)) (pl + 1) = _
      exact lv_c _ (fun i _ => by rw [Nat.zero_add])
    have eR : lvo (M.2 (r + 1)) 0 nb = lv (M.2 (r + 1)) nb := by
      show lv (fun i => M.2 (r + 1) (0 + i)) nb = _
      exact lv_c _ (fun i _ => by rw [Nat.zero_add])
    rw [eQ, Nat.zero_add] at hA'
    rw [eR] at hlt
    have pz : pB 0 = 1 := rfl
    rw [pz, Int.one_mul] at hA'
    generalize hQ : lv (M.2 (a + 1)) (pl + 1) = Q at *
    -- the rest
    have hR : lv (M.2 (r + 1)) nb = (mg x - mg y * Q) * 2 ^ sh := by
      rw [hA, hD] at hA'
      generalize (2 : Int) ^ sh = E at *
      generalize lv (M.2 (r + 1)) nb = L at *
      grind
    have R0 : 0 ≤ mg x - mg y * Q := by
      refine Classical.byContradiction fun z => ?_
      have := Int.mul_le_mul_of_nonneg_right (show mg x - mg y * Q ≤ -1 by omega) (show 0 ≤ (2 : Int) ^ sh by omega)
      omega
    have R1 : mg x - mg y * Q < mg y := by
      refine Classical.byContradiction fun z => ?_
      have := Int.mul_le_mul_of_nonneg_right (show mg y ≤ mg x - mg y * Q by omega) (show 0 ≤ (2 : Int) ^ sh by omega)
      omega
    have dm := Int.emod_add_mul_ediv (mg x) (mg y)
    have m0 := Int.emod_nonneg (mg x) (show mg y ≠ 0 by omega)
    have m1 := Int.emod_lt_of_pos (mg x) y0
    have eq1 : Q = mg x / mg y := by
      have c1 : ¬ Q < mg x / mg y := fun z => by
        have := Int.mul_le_mul_of_nonneg_left (show Q + 1 ≤ mg x / mg y by omega) (show 0 ≤ mg y by omega)
        have e : mg y * (Q + 1) = mg y * Q + mg y := by grind
        omega
      have c2 : ¬ mg x / mg y < Q := fun z => by
        have := Int.mul_le_mul_of_nonneg_left (show mg x / mg y + 1 ≤ Q by omega) (show 0 ≤ mg y by omega)
        have e : mg y * (mg x / mg y + 1) = mg y * (mg x / mg y) + mg y := by grind
        omega
      omega
    have eq2 : mg x - mg y * Q = mg x % mg y := by rw [eq1]; omega
    rw [eq2] at hR
    have fin : ∀ sg : Int32, (sg = 0 ∨ sg = 1) → (if sg = 0 then Q else - Q) = qV x y → ∃ m', (rf_bv (g_X1_settle w M a (Int32.ofNat pl + 1) sg) fun m15 => rf_bv (g_X1_shiftDown w m15 r (m15.1 c 0) (Int32.ofNat sh)) fun m16 => some m16) = some m' ∧ qF a r s M0 m' ∧ bg m' a (qV x y) ∧ bg m' r (rV x y) := by
      intro sg hsg hv
      obtain ⟨M1, k1, k2, k3⟩ := settle_c (m := M) (k := pl + 1) (N := pl + 1) ha hsg (by omega) (by rw [if_pos (by omega)]) lq
      rw [hQ, hv] at k3
      have c0 : M1.1 c 0 = Int32.ofNat nb := by rw [k2.1 c (Ne.symm ac), e1]; exact hc0
      have r1 : M1.1 r 1 = M0.1 b 1 := by rw [k2.1 r (Ne.symm ar), e1]; exact hr1
      obtain ⟨M2, s1, s2, s3⟩ := shiftDown_c (m := M1) (n := nb) (s := sh) (R := mg x % mg y) hr hsh (by omega) (by rw [r1]; rcases hb1 with ⟨q, _⟩ | ⟨q, _⟩; exact Or.inl q; exact Or.inr q) (by rw [k2.2]; exact lmb_le hl (by omega)) (by rw [k2.2]; exact hR)
      refine ⟨M2, ?_, qF_trans fM (qF_trans (qF_F (bF1_F k2) (Or.inl rfl)) (qF_F s2 (Or.inr (Or.inl rfl)))), bg_F k3 s2 ar, ?_⟩
      · rw [of_succ, k1, bv_sm, c0, s1, bv_sm]
      · rw [r1] at s3
        unfold rV
        rcases hb1 with ⟨q, q2⟩ | ⟨q, q2⟩
        · rw [q, if_pos rfl] at s3
          rw [if_neg (by omega)]; exact s3
        · rw [q, if_neg o10] at s3
          rw [if_pos q2]; exact s3
    show ∃ m', g_X1_setQuotient_77_b w _ _ _ _ _ _ _ _ _ M = _ ∧ _
    unfold g_X1_setQuotient_77_b
    have l0 : Int32.ofNat 0 - 1 < 0 := by decide
    rw [bC_g ha, bC_g hb, bC_g hc, bC_g hr, bC_g hs, if_pos l0, e1]
    unfold qV at fin ⊢
    rcases hb1 with ⟨g1, g2⟩ | ⟨g1, g2⟩ <;> rcases hc1 with ⟨g3, g4⟩ | ⟨g3, g4⟩
    · rw [g1, g3, if_pos rfl]
      exact fin 0 (Or.inl rfl) (by rw [if_pos rfl, if_pos (by omega), eq1])
    · rw [g1, g3, if_neg o01]
      exact fin 1 (Or.inr rfl) (by rw [if_neg o10, if_neg (by omega), eq1])
    · rw [g1, g3, if_neg o10]
      exact fin 1 (Or.inr rfl) (by rw [if_neg o10, if_neg (by omega), eq1])
    · rw [g1, g3, if_pos rfl]
      exact fin 0 (Or.inl rfl) (by rw [if_pos rfl, if_pos (by omega), eq1])
  | succ i ih =>
    intro f M hi hf fM e1 eG hl hq hA' hlt
    obtain ⟨f, rfl⟩ : ∃ g, f = g + 1 := ⟨f - 1, by omega⟩
    have bi' := (lmb_le hl (show i + (nb + 1) ≤ na + 1 by omega))
    have lU := lvo_lo (f := M.2 (r + 1)) (p := i) nb
    have f0 := hl i (by omega)
    obtain ⟨q, M1, t1, t2, t3, t4, t5, t6, t7, t8, t9, t10⟩ := takeOut_c (w := w) (m := M) (n := nb) (p := i) hr hs rs nb0 (by omega) (fun k hk => hl (i + k) (by omega)) (by rw [eG]; exact gl) (by rw [eG]; exact gt) (by rw [eG, gD, lU]; omega)
    rw [eG, gD] at t9 t10
    have e2 : M1.1 = M0.1 := t4.trans e1
    have rq : (rf_l M1 (a + 1) i q).2 (r + 1) = M1.2 (r + 1) := by rw [rf_l_c, if_neg (by omega)]
    have aq : (rf_l M1 (a + 1) i q).2 (a + 1) = pu (M.2 (a + 1)) i q := by rw [rf_l_c, if_pos rfl, t5 (a + 1) (by omega)]
    have sq : (rf_l M1 (a + 1) i q).2 (s + 1) = G := by rw [rf_l_c, if_neg (by omega), t5 (s + 1) (by omega)]; exact eG
    have hl1 : lmb (M1.2 (r + 1)) (na + 1) := fun k hk => by
      by_cases c1 : k < i
      · rw [t6 k (Or.inl c1)]; exact hl k hk
      · by_cases c2 : i + nb < k
        · rw [t6 k (Or.inr c2)]; exact hl k hk
        · have : 0 ≤ (M1.2 (r + 1) (i + (k - i))).toInt ∧ (M1.2 (r + 1) (i + (k - i))).toInt < 1073741824 := t7 (k - i) (by omega)
          rw [show i + (k - i) = k by omega] at this
          exact this
    obtain ⟨m', k1, k2⟩ := ih f (rf_l M1 (a + 1) i q) (by omega) (by omega) (qF_trans fM ⟨fun z _ _ _ => by rw [rf_l_i, t4], fun z h1 h2 h3 => by rw [rf_l_c, if_neg h1, t5 z h2]⟩) (by rw [rf_l_i, e2]) sq (by rw [rq]; exact hl1) (fun k h1 h2 => by
      rw [aq]
      by_cases e : k = i
      · rw [e, pu_at]; exact ⟨t2, t3⟩
      · rw [pu_ne e]; exact hq k (by omega) h2) (by
      rw [rq, aq, show pl + 1 - i = (pl + 1 - (i + 1)) + 1 by omega, lvo_lo, pu_at, lvo_c (g := M.2 (a + 1)) (p := i + 1) (n := pl + 1 - (i + 1)) (fun k hk => pu_ne (by omega)), lvo_split]
      have sp := lvo_split (f := M.2 (r + 1)) (p := i) (nb + 1)
      have pj : pB (i + 1) = pB i * 1073741824 := rfl
      have lo : lv (M1.2 (r + 1)) i = lv (M.2 (r + 1)) i := lv_c i (fun k hk => t6 k (Or.inl hk))
      rw [show i + 1 + nb = i + (nb + 1) by omega, sp, ← t9, pj] at hA'
      rw [lo]
      generalize pB i = P at *
      generalize lvo (M.2 (a + 1)) (i + 1) (pl + 1 - (i + 1)) = L at *
      generalize lvo (M1.2 (r + 1)) i nb = L2 at *
      generalize lv (M.2 (r + 1)) i = L3 at *
      rw [hA']
      grind) (by rw [rq]; exact t10)
    refine ⟨m', ?_, k2⟩
    show g_X1_setQuotient_77_b w (g_X1_setQuotient_77 w f) _ _ _ _ _ _ _ _ M = _
    unfold g_X1_setQuotient_77_b
    have l0 : ¬ Int32.ofNat i < 0 := fun z => by rw [i_lt, i_0, ofI (by omega)] at z; omega
    have em : Int32.ofNat i + (-1) = Int32.ofNat i - 1 := by grind
    have c0 : M.1 c 0 = Int32.ofNat nb := by rw [e1]; exact hc0
    rw [bC_g ha, bC_g hb, bC_g hc, bC_g hr, bC_g hs, ofm1', if_neg l0, c0, t1, b_sm, gof (n := i) (by omega) (by decide), g_t, tn_of (n := i) (by omega), em, k1]
theorem setQuotient_c {w : rf_w} {m : rf_m} {a b c r s : Nat} {x y : Int} (ha : bC w a) (hb : bC w b) (hc : bC w c) (hr : bC w r) (hs : bC w s) (ar : a ≠ r) (as : a ≠ s) (rs : r ≠ s) (ab : a ≠ b) (ac : a ≠ c) (rb : r ≠ b) (rc : r ≠ c) (sb : s ≠ b) (sc : s ≠ c) (hx : bg m b x) (hy : bg m c y) (bx : mg x < pB 9) (y0 : y ≠ 0) : ∃ m', g_X1_setQuotient w m a b c r s = some m' ∧ qF a r s m m' ∧ bg m' a (qV x y) ∧ bg m' r (rV x y) := by
  obtain ⟨F, hF, hFb⟩ := fuel_ex
  obtain ⟨M1, c1, c2, c3⟩ := copyFrom_c hr hb rb hx
  have hx1 := bg_F hx c2 (Ne.symm rb)
  have hy1 := bg_F hy c2 (Ne.symm rc)
  obtain ⟨na, sa, ma, ga⟩ := bg_mg hx1
  obtain ⟨nb, snb, mb, gb⟩ := bg_mg hy1
  obtain ⟨na', sa', ma', ga'⟩ := bg_mg c3
  have na9 := bgs_le sa (by rw [← ma]; exact bx)
  have nb10 := snb.1
  have na10 := sa.1
  have en : na' = na := by
    have h1 := bgs_le sa' (p := na) (by rw [← ma', ma]; exact (bgs_rng sa).2.1)
    have h2 := bgs_le sa (p := na') (by rw [← ma, ma']; exact (bgs_rng sa').2.1)
    omega
  subst en
  have yp := mg_pos y0
  have nbn : ¬ nb = 0 := fun z => by have := (bgs_0 snb).mp z; rw [← mb] at this; omega
  unfold g_X1_setQuotient rf_vi
  rw [bC_g ha, bC_g hb, bC_g hc, bC_g hr, bC_g hs, c1, bv_sm]
  dsimp only
  have z0 : ¬ Int32.ofNat nb = 0 := fun z => nbn ((of_inj (b := 0) (by omega) (by omega)).mp z)
  rw [sa.2.1, snb.2.1, if_neg z0]
  have sI := subI (a := Int32.ofNat na') (b := Int32.ofNat nb) (by rw [ofI (by omega), ofI (by omega)]; omega) (by rw [ofI (by omega), ofI (by omega)]; omega)
  rw [ofI (by omega), ofI (by omega)] at sI
  by_cases q : nb ≤ na'
  · have q' : (0 : Int32) ≤ Int32.ofNat na' - Int32.ofNat nb := by rw [i_le, sI, i_0]; omega
    have ep : Int32.ofNat na' - Int32.ofNat nb = Int32.ofNat (na' - nb) := by rw [i_eq, sI, ofI (by omega)]; omega
    obtain ⟨k, rfl⟩ : ∃ k, nb = k + 1 := ⟨nb - 1, by omega⟩
    have lt := snb.2.2.1 k (by omega)
    have ltn := snb.2.2.2 k rfl
    obtain ⟨r0, sh, n1, n2, n3, n4, n5⟩ := nlzL (w := w) (m := M1) (x := M1.2 (c + 1) k) (by omega) lt.2
    have p0 := p2_pos sh
    obtain ⟨M2, u1, u2, u3, u4, u5⟩ := shiftUp_c (m := M1) hr n3 na9 sa'.2.1 sa'.2.2.1
    have hy2 : bg M2 c y := bg_c hy1 (by rw [u2]) (u3 (c + 1) (by omega))
    obtain ⟨M3, d1, d2, d3⟩ := copyFrom_c (m := M2) hs hc sc hy2
    obtain ⟨nb', sb', mb', gb'⟩ := bg_mg d3
    have enb : nb' = k + 1 := by
      have h1 := bgs_le sb' (p := k + 1) (by rw [← mb', mb]; exact (bgs_rng snb).2.1)
      have h2 := bgs_le snb (p := nb') (by rw [← mb, mb']; exact (bgs_rng sb').2.1)
      omega
    subst enb
    obtain ⟨M4, v1, v2, v3, v4, v5⟩ := shiftUp_c (m := M3) hs n3 (show k + 1 ≤ 9 by omega) sb'.2.1 sb'.2.2.1
    rw [← ma', ] at u5
    rw [← mb'] at v5
    -- the divisor's lead
    have rl := lv_rng k (lmb_le snb.2.2.1 (show k ≤ k + 1 by omega))
    have pk := pB_pos k
    have eY : mg y = lv (M1.2 (c + 1)) k + (M1.2 (c + 1) k).toInt * pB k := by rw [mb, lv_s]
    have Dlo : 536870912 * pB k ≤ mg y * 2 ^ sh := by
      have h1 := Int.mul_le_mul_of_nonneg_right n4 (show 0 ≤ pB k by omega)
      have h2 : mg y * 2 ^ sh = (M1.2 (c + 1) k).toInt * 2 ^ sh * pB k + lv (M1.2 (c + 1)) k * 2 ^ sh := by rw [eY]; grind
      have h3 := Int.mul_nonneg rl.1 (show 0 ≤ (2 : Int) ^ sh by omega)
      omega
    have Dhi : mg y * 2 ^ sh < pB (k + 1) := by
      have h1 : ((M1.2 (c + 1) k).toInt * 2 ^ sh + 2 ^ sh) ≤ 1073741824 := by
        obtain ⟨pa, pb⟩ := p2_30 n3
        have : ((M1.2 (c + 1) k).toInt + 1) * 2 ^ sh ≤ 2 ^ (30 - sh) * 2 ^ sh := by
          refine Int.mul_le_mul_of_nonneg_right ?_ (by omega)
          refine Classical.byContradiction fun z => ?_
          have := Int.mul_le_mul_of_nonneg_right (show (2 : Int) ^ (30 - sh) ≤ (M1.2 (c + 1) k).toInt by omega) (show 0 ≤ (2 : Int) ^ sh by omega)
          rw [Int.mul_comm (2 ^ (30 - sh)), pb] at this
          omega
        rw [Int.mul_comm (2 ^ (30 - sh)), pb] at this
        have e : ((M1.2 (c + 1) k).toInt + 1) * 2 ^ sh = (M1.2 (c + 1) k).toInt * 2 ^ sh + 2 ^ sh := by grind
        omega
      have h2 : mg y + 1 ≤ ((M1.2 (c + 1) k).toInt + 1) * pB k := by
        have e : ((M1.2 (c + 1) k).toInt + 1) * pB k = (M1.2 (c + 1) k).toInt * pB k + pB k := by grind
        omega
      have h3 := Int.mul_le_mul_of_nonneg_right h2 (show 0 ≤ (2 : Int) ^ sh by omega)
      have h4 := Int.mul_le_mul_of_nonneg_right h1 (show 0 ≤ pB k by omega)
      have e1 : ((M1.2 (c + 1) k).toInt + 1) * pB k * 2 ^ sh = ((M1.2 (c + 1) k).toInt * 2 ^ sh + 2 ^ sh) * pB k := by grind
      have e2 : (mg y + 1) * 2 ^ sh = mg y * 2 ^ sh + 2 ^ sh := by grind
      have e3 : pB (k + 1) = pB k * 1073741824 := rfl
      omega
    have tz : (M4.2 (s + 1) (k + 1)).toInt = 0 := by
      have r4 := v4 (k + 1) (by omega)
      have l4 := lv_rng (k + 1) (lmb_le v4 (show k + 1 ≤ k + 1 + 1 by omega))
      rw [lv_s] at v5
      have pp := pB_pos (k + 1)
      refine Classical.byContradiction fun z => ?_
      have := Int.mul_le_mul_of_nonneg_right (show 1 ≤ (M4.2 (s + 1) (k + 1)).toInt by omega) (show 0 ≤ pB (k + 1) by omega)
      omega
    have gD : lv (M4.2 (s + 1)) (k + 1) = mg y * 2 ^ sh := by rw [lv_s, tz, Int.zero_mul, Int.add_zero] at v5; exact v5
    have gl : lmb (M4.2 (s + 1)) (k + 1) := lmb_le v4 (by omega)
    have gt : 536870912 ≤ (M4.2 (s + 1) (k + 1 - 1)).toInt := by
      rw [Nat.add_sub_cancel]
      have l4 := lv_rng k (lmb_le gl (show k ≤ k + 1 by omega))
      have e : lv (M4.2 (s + 1)) (k + 1) = lv (M4.2 (s + 1)) k + (M4.2 (s + 1) k).toInt * pB k := rfl
      refine Classical.byContradiction fun z => ?_
      have := Int.mul_le_mul_of_nonneg_right (show (M4.2 (s + 1) k).toInt + 1 ≤ 536870912 by omega) (show 0 ≤ pB k by omega)
      have e2 : ((M4.2 (s + 1) k).toInt + 1) * pB k = (M4.2 (s + 1) k).toInt * pB k + pB k := by grind
      omega
    have R4 : M4.2 (r + 1) = M2.2 (r + 1) := by rw [v3 (r + 1) (by omega), d2.2 (r + 1) (by omega)]
    have q4 : ∀ z, z ≠ s → M4.1 z = M1.1 z := fun z hz => by rw [v2, d2.1 z hz, u2]
    -- the top limbs of what is divided are below the divisor
    have top : lvo (M4.2 (r + 1)) (na' - (k + 1) + 1) (k + 1) < mg y * 2 ^ sh := by
      rw [R4]
      have sp := lvo_split (f := M2.2 (r + 1)) (p := na' - (k + 1) + 1) (k + 1)
      rw [show na' - (k + 1) + 1 + (k + 1) = na' + 1 by omega, u5] at sp
      have l2 := lv_rng (na' - (k + 1) + 1) (lmb_le u4 (show na' - (k + 1) + 1 ≤ na' + 1 by omega))
      have ax : mg x + 1 ≤ pB (na' - (k + 1) + 1) * pB k := by
        have := (bgs_rng sa').2.1
        rw [← ma'] at this
        rw [← pB_add, show na' - (k + 1) + 1 + k = na' by omega]
        omega
      have h1 := Int.mul_le_mul_of_nonneg_right ax (show 0 ≤ (2 : Int) ^ sh by omega)
      have pp := pB_pos (na' - (k + 1) + 1)
      have yk : pB k ≤ mg y := by
        have := (bgs_rng snb).2.2 k rfl
        rw [← mb] at this
        exact this
      have h2 := Int.mul_le_mul_of_nonneg_right yk (show 0 ≤ (2 : Int) ^ sh by omega)
      refine Classical.byContradiction fun z => ?_
      have h3 := Int.mul_le_mul_of_nonneg_left (show pB k * 2 ^ sh ≤ lvo (M2.2 (r + 1)) (na' - (k + 1) + 1) (k + 1) by omega) (show 0 ≤ pB (na' - (k + 1) + 1) by omega)
      have e1 : pB (na' - (k + 1) + 1) * pB k * 2 ^ sh = pB (na' - (k + 1) + 1) * (pB k * 2 ^ sh) := Int.mul_assoc _ _ _
      have e2 : (mg x + 1) * 2 ^ sh = mg x * 2 ^ sh + 2 ^ sh := by grind
      omega
    obtain ⟨m', w1, w2, w3, w4⟩ := div77 (w := w) (a := a) (b := b) (c := c) (r := r) (s := s) (na := na') (nb := k + 1) (sh := sh) (pl := na' - (k + 1)) (x := x) (y := y) (A := mg x * 2 ^ sh) (D := mg y * 2 ^ sh) (G := M4.2 (s + 1)) (M0 := M4) ha hb hc hr hs ar as rs ab ac rb rc n3 (by omega) (by omega) na9 yp rfl rfl gl gD gt (by rw [q4 b (Ne.symm sb)]; exact ga) (by rw [q4 c (Ne.symm sc)]; exact gb) (by rw [q4 c (Ne.symm sc)]; exact snb.2.1) (by
      rw [q4 r rs, q4 b (Ne.symm sb)]
      rcases ga with ⟨g1, g2⟩ | ⟨g1, g2⟩ <;> rcases ga' with ⟨g3, g4⟩ | ⟨g3, g4⟩
      · rw [g1, g3]
      · omega
      · omega
      · rw [g1, g3]) (na' - (k + 1) + 1) F M4 (Nat.le_refl _) (by omega) ⟨fun _ _ _ _ => rfl, fun _ _ _ _ => rfl⟩ rfl rfl (by rw [R4]; exact u4) (fun k' h1 h2 => by omega) (by
      rw [Nat.sub_self]
      show _ = mg y * 2 ^ sh * (pB (na' - (k + 1) + 1) * 0) + _
      rw [R4, show na' - (k + 1) + 1 + (k + 1) = na' + 1 by omega, u5]
      grind) top
    refine ⟨m', ?_, ?_, w3, w4⟩
    · rw [if_pos q', ofm1', gof (n := k) (by omega) (by decide), g_t, tn_of (n := k) (by omega), n1, b_sm, n2, u1, bv_sm, d1, bv_sm, v1, bv_sm, ep, hF]
      rw [ofm1'] at w1
      exact w1
    · refine qF_trans (qF_F c2 (Or.inr (Or.inl rfl))) (qF_trans ?_ w2)
      exact ⟨fun z h1 h2 h3 => q4 z h3, fun z h1 h2 h3 => by rw [v3 z h3, d2.2 z h3, u3 z h2]⟩
  · have q' : ¬ (0 : Int32) ≤ Int32.ofNat na' - Int32.ofNat nb := by rw [i_le, sI, i_0]; omega
    rw [if_neg q']
    obtain ⟨M2, k1, k2, k3⟩ := settle_c (m := M1) (k := 0) (N := 0) (s := 0) ha (Or.inl rfl) (by omega) (by rw [if_pos (by omega)]) (fun i hi => by omega)
    have xy : mg x < mg y := by
      have h1 := (bgs_rng sa).2.1
      obtain ⟨k, rfl⟩ : ∃ k, nb = k + 1 := ⟨nb - 1, by omega⟩
      have h2 := (bgs_rng snb).2.2 k rfl
      have h3 := pB_le (a := na') (b := k) (by omega)
      omega
    have z00 : Int32.ofNat 0 = 0 := rfl
    rw [z00] at k1
    refine ⟨M2, by rw [k1, bv_sm], qF_trans (qF_F c2 (Or.inr (Or.inl rfl))) (qF_F (bF1_F k2) (Or.inl rfl)), ?_, ?_⟩
    · have e : qV x y = 0 := by
        unfold qV
        rw [Int.ediv_eq_zero_of_lt (mg_nn x) xy]
        split <;> rfl
      rw [e]
      exact k3
    · have e : rV x y = x := by
        unfold rV
        rw [Int.emod_eq_of_lt (mg_nn x) xy]
        unfold mg
        split <;> omega
      rw [e]
      exact bg_c c3 (k2.1 r (Ne.symm ar)) (by rw [k2.2])
end PBBig7
