/-! rule, the call -/
section PBK15c
theorem byte_bits {a : Int32} : a &&& 255 = Int32.ofNat (a.toUInt32.toNat % 256) := by
  refine i_of_nat ?_ (by omega)
  rw [tou_and, UInt32.toNat_and]
  exact Nat.and_two_pow_sub_one_eq_mod a.toUInt32.toNat 8
theorem byte_rng {a : Int32} : 0 ≤ (a &&& 255).toInt ∧ (a &&& 255).toInt ≤ 255 := by
  rw [byte_bits, ofI (by omega)]
  omega
theorem jt_of {M : rf_m} {A : Nat → Int32} {v fl pl : Int32} (h : M.1 0 = pu (pu (pu A 12 fl) 13 pl) 11 v) (h1 : M.1 206 1 = v) (h3 : M.1 206 3 = fl) (h2 : M.1 206 2 = if v = 4 then pl else -1) : JT M := by
  unfold JT
  rw [h, h1, h2, h3]
  exact ⟨rfl, rfl, rfl⟩
def end15 (cc : Nat) (w : rf_w) (m : rf_m) (r : rf_w × rf_m) : Prop := JCnt (cc + 1) r.1 r.2 ∧ JCache r.1 r.2 ∧ JW (cc + 1) r.1 r.2 ∧ JLg r.1 r.2 ∧ JT r.2 ∧ JFeed r.2 ∧ ruF w r.1 m r.2
theorem k15 {cc : Nat} {w : rf_w} {m : rf_m} {y : Nat → Int32} (hcc : cc < 512) (J : JCnt cc w m) (jc : JCache w m) (jw : JW cc w m) (jl : JLg w m) (jt : JT m) (jf : JFeed m) : wp (g_lc_15 w m y) (end15 cc w m) := by
  have o1 : ¬ (1 : Int32) = 0 := by decide
  have n4 : ¬ (0 : Int32) = 4 ∧ ¬ (2 : Int32) = 4 ∧ ¬ (3 : Int32) = 4 := by decide
  obtain ⟨f1, f2, f3⟩ := jf
  obtain ⟨c, hc, hr, hc2, _⟩ := jw.2.2.2.1 0 (Or.inl rfl)
  have hw6 := jw.1
  have hw7 := jw.2.1
  have hc6 := hr.2.2.2.2.2
  unfold g_lc_15
  by_cases h : iv 0 (m.1 206 44) (y 1) ∧ (ib (y 2) 10000 ∧ ib (y 3) 10000 ∧ ¬ y 3 < y 2)
  · obtain ⟨h1, h2⟩ := h
    have q0 : ¬ y 1 < 0 := by have := h1.1; grind
    have q1 : ¬ m.1 206 44 < y 1 := by have := h1.2; grind
    have hy : y 1 = Int32.ofNat (y 1).toNatClampNeg := (of_tn h1.1).symm
    have hn : (y 1).toNatClampNeg ≤ 300 := tn_le h1.1 (Int32.le_trans h1.2 f2.2) (by decide)
    generalize (y 1).toNatClampNeg = n at hy hn
    have hb : ∀ k, 0 ≤ (m.1 15 k).toInt ∧ (m.1 15 k).toInt ≤ 255 := fun k => by rw [f3 k]; exact byte_rng
    have H : HC w n (m.1 15) c := ⟨hn, hb, hc, hr⟩
    obtain ⟨ac0, hg⟩ := parse_K (w := w) (n := n) (m := rf_i m 13 2 0) (f := m.1 15) (by rw [rf_i_c, if_neg (by decide)])
    rw [← hy] at hg
    have first := reads_K H (m := rf_i m 206 45 (y 1)) (by rw [rf_i_c, if_pos rfl, pu_at]; exact hy) (fun k => by rw [rf_i_c, if_neg (by decide)]; exact (f3 k).symm) hg
    generalize hpr : g_X8_parse w (rf_i m 13 2 0) (y 1) = r at hg first
    have h1' : iv 0 (m.1 13 2) (y 1) := by rw [f1]; exact h1
    rcases first with ⟨_, kd, pl, _, _, _, ⟨m3, hv, hcf⟩, _⟩ | ⟨_, ac, st1, st2, _, _, _, _, _, _, _, ⟨m3, s5, h5, o5, k5, b5, hv, ca, ls, cn, sl⟩, _⟩
    · -- refused
      obtain ⟨X0, c1, c2, c3, c4, c5, c6, c7, c8⟩ := rule_c h1' h2 (hpr.trans hv)
      rw [if_pos rfl] at c8
      have hX := claX_11 (v' := 4) c1
      obtain ⟨B, r1, r2, r3⟩ := rule_mid H hX f3 hy q0 q1 h2 hg
      rcases r2 with ⟨M', kd', pl', t1, t2, t3, ⟨m4, u1, u2⟩, t5⟩ | ⟨M', ac', s1, s2, I1, I2, d1, d2, t1, t2, t3, ⟨m4, s5, h5, o5, k5, b5, u1, _⟩, _⟩
      · have e34 : m4 = m3 := by rw [hv] at u1; exact ((Prod.mk.inj (Option.some.inj u1)).2).symm
        subst e34
        obtain ⟨p1, p2, p3, p4, p5⟩ := r3 M' t5
        have fin := rule_end (M := rf_i (rf_i (rf_i M' 206 3 (M'.1 233 6)) 206 1 4) 206 2 (M'.1 233 7)) J jc jw jl f3 hc hr hX (by rw [rf_i_c, if_neg (by decide)]; exact c2) (fun z z1 z2 => by rw [rf_i_c, if_neg (by omega)]; exact c3 z z1 z2) (by rw [rf_i_c, if_neg (by decide)]; exact c6) (by rw [rf_i_c, if_neg (by decide)]; exact c7) p1 p2 p4 p5 (fun z hz => by rw [rf_i_c, if_neg hz, rf_i_c, if_neg hz, rf_i_c, if_neg hz]) (fun k hk => by rw [rf_i_c, if_pos rfl, pu_ne (by omega), rf_i_c, if_pos rfl, pu_ne (by omega), rf_i_c, if_pos rfl, pu_ne (by omega)]) rfl
        have e63 : g_X14_rule_63 w M' = some (-1, w, rf_i (rf_i (rf_i M' 206 3 (M'.1 233 6)) 206 1 4) 206 2 (M'.1 233 7)) := by
          unfold g_X14_rule_63
          have e7 : (rf_i (rf_i M' 206 3 (M'.1 233 6)) 206 1 4).1 233 7 = M'.1 233 7 := by rw [rf_i_c, if_neg (by decide), rf_i_c, if_neg (by decide)]
          rw [e7]
        rw [c8, b_sm, r1, r56_no t1, e63, bw_sm]
        show wp (rf_g (decide ((-1 : Int32) = -1)) (some _)) _
        rw [decide_eq_true rfl, g_t, wp_some]
        obtain ⟨g1, g2, g3, g4, g5, g6, g7⟩ := fin
        generalize hM : rf_i (rf_i (rf_i M' 206 3 (M'.1 233 6)) 206 1 4) 206 2 (M'.1 233 7) = M at *
        refine ⟨cnt_m g1 (by omega) (by omega), g2, jw_m g3 (by omega), g4, ?_, g5, g6⟩
        have m6 : ∀ k, M.1 206 k = pu (pu (pu (M'.1 206) 3 (M'.1 233 6)) 1 4) 2 (M'.1 233 7) k := fun k => by rw [← hM, rf_i_c, if_pos rfl, rf_i_c, if_pos rfl, rf_i_c, if_pos rfl]
        refine jt_of (g7.trans hX.1) ?_ ?_ ?_
        · rw [m6, pu_ne (by decide), pu_at]
        · rw [m6, pu_ne (by decide), pu_ne (by decide), pu_at, t2]; exact u2.1.symm
        · rw [m6, pu_at, if_pos rfl, t3]; exact u2.2.symm
      · rw [hv] at u1
        exact absurd ((Prod.mk.inj (Option.some.inj u1)).1) (by decide)
    · -- taken
      obtain ⟨X0, c1, c2, c3, c4, c5, c6, c7, c8⟩ := rule_c h1' h2 (hpr.trans hv)
      rw [if_neg o1] at c8
      rw [ca.2.2.1, ca.2.2.2] at c1
      have ju := J.2.2.2.1
      have hR : Int32.ofNat (m.1 206 39).toNatClampNeg = m.1 206 39 := of_tn ju.2.1.1
      have hR24 : (m.1 206 39).toNatClampNeg ≤ 24 := tn_le ju.2.1.1 ju.2.1.2 (by decide)
      generalize hRv : (m.1 206 39).toNatClampNeg = R at hR hR24
      have h13 : m.1 13 3 = Int32.ofNat R := by rw [ju.1, hR]
      by_cases lt : R < 24
      · have lt' : m.1 13 3 < 24 := by rw [h13]; exact (of_lt (b := 24) (by omega) (by decide)).mpr lt
        rw [if_pos lt'] at c8
        obtain ⟨Y, a0, a19, a20, a21, a22, a23, a24, a13, az, al⟩ := addRule_c (w := w) (m := X0) (x := y 2) (y := y 3) (c2.trans h13) lt (by rw [c4]; exact ls.1) (by omega)
        have yz : ∀ z, z ≠ 0 → z ≠ 13 → z ≠ 14 → z ≠ 16 → z ≠ 17 → (z < 19 ∨ 24 < z) → z ≠ 26 → z ≠ 40 → Y.1 z = m.1 z := fun z b0 b1 b2 b3 b4 b5 b6 b7 => (az z b1 b5).trans (c1.2.1 z b0 b1 b2 b3 b4 b5 b6 b7)
        have y19 : Y.1 19 R = m3.1 14 4 := by rw [a19, pu_at, c4]
        have g24 : rf_in (Int32.ofNat R) 24 = true := gof lt (by decide)
        have tR : (Int32.ofNat R).toNatClampNeg = R := tn_of (by omega)
        have ja := J.2.2.2.2.1
        -- the class's end
        have cls : ∃ X, g_X11_rule w m (y 1) (y 2) (y 3) = some (Int32.ofNat R, X) ∧ claX m X 0 0 0 ∧ (∀ z, 19 ≤ z → z ≤ 24 → X.1 z = Y.1 z) ∧ X.1 13 3 = Int32.ofNat (R + 1) ∧ (Y.1 19 R ≠ 1 → X.1 40 = m.1 40 ∧ X.1 26 19 = m.1 26 19) ∧ (Y.1 19 R = 1 → (∀ a, a < (m.1 206 16).toNatClampNeg → X.1 40 a = 1) ∧ (0 < (m.1 206 16).toNatClampNeg → X.1 26 19 = 1)) := by
          have y0 : Y.1 0 = X0.1 0 := az 0 (by decide) (by decide)
          have y13 : ∀ k, k ≠ 3 → Y.1 13 k = X0.1 13 k := fun k hk => by rw [a13, pu_ne hk]
          have cY : claX m Y (m.1 0 11) 0 0 := ⟨y0.trans c1.1, yz, fun k k2 k3 => (y13 k k3).trans (c1.2.2.1 k k2 k3), (y13 2 (by decide)).trans c1.2.2.2.1, fun k hk => by rw [az 26 (by decide) (by decide), c6], fun z z1 z2 z3 => by rw [al]; exact c1.2.2.2.2.2 z z1 z2 z3⟩
          have y133 : Y.1 13 3 = Int32.ofNat (R + 1) := by rw [a13, pu_at]
          have is : g_X9_isStriking w Y (Int32.ofNat R) = if Y.1 19 R = 1 then some (1, Y) else some (0, Y) := by
            unfold g_X9_isStriking
            rw [g24, g_t, tR]
          rw [a0, b_sm, is] at c8
          by_cases sk : Y.1 19 R = 1
          · rw [if_pos sk, b_sm, if_neg o1] at c8
            obtain ⟨Z, z1, z2, z3, z4, z5, z6⟩ := forgetAll_c (w := w) (m := Y) (A := m.1 206 16) (by rw [az 26 (by decide) (by decide), c6]; exact ja.1) (ang80 ja) ja.2.1.1
            rw [z1, bv_sm] at c8
            have cZ : claX m Z (m.1 0 11) 0 0 := ⟨by rw [z2 0 (by decide) (by decide)]; exact cY.1, fun z b0 b1 b2 b3 b4 b5 b6 b7 => by rw [z2 z b6 b7]; exact yz z b0 b1 b2 b3 b4 b5 b6 b7, fun k k2 k3 => by rw [z2 13 (by decide) (by decide)]; exact cY.2.2.1 k k2 k3, by rw [z2 13 (by decide) (by decide)]; exact cY.2.2.2.1, fun k hk => by rw [z3 k hk]; exact cY.2.2.2.2.1 k hk, fun z b1 b2 b3 => by rw [z6]; exact cY.2.2.2.2.2 z b1 b2 b3⟩
            refine ⟨rf_i Z 0 11 0, c8, claX_11 cZ, fun z b1 b2 => ?_, ?_, fun z => absurd sk z, fun _ => ⟨fun a ha => ?_, fun hh => ?_⟩⟩
            · rw [rf_i_c, if_neg (by omega), z2 z (by omega) (by omega)]
            · rw [rf_i_c, if_neg (by decide), z2 13 (by decide) (by decide)]; exact y133
            · rw [rf_i_c, if_neg (by decide)]; exact z4 a ha
            · rw [rf_i_c, if_neg (by decide)]; exact z5 hh
          · rw [if_neg sk, b_sm, if_pos rfl] at c8
            refine ⟨rf_i Y 0 11 0, c8, claX_11 cY, fun z b1 b2 => ?_, ?_, fun _ => ⟨?_, ?_⟩, fun z => absurd z sk⟩
            · rw [rf_i_c, if_neg (by omega)]
            · rw [rf_i_c, if_neg (by decide)]; exact y133
            · rw [rf_i_c, if_neg (by decide), az 40 (by decide) (by decide), c7]
            · rw [rf_i_c, if_neg (by decide), az 26 (by decide) (by decide), c6]
        obtain ⟨X, e0, hX, eR, e13, eno, eyes⟩ := cls
        obtain ⟨B, r1, r2, r3⟩ := rule_mid H hX f3 hy q0 q1 h2 hg
        rcases r2 with ⟨M', kd', pl', t1, t2, t3, ⟨m4, u1, u2⟩, t5⟩ | ⟨M', ac', s1, s2, I1, I2, d1, d2, t1, t2, t3, ⟨m4, s5', h5', o5', k5', b5', u1, ca', ls', cn', sl'⟩, t5, t6, t7, t8, t9, t10, t11, t12, t13⟩
        · rw [hv] at u1
          exact absurd ((Prod.mk.inj (Option.some.inj u1)).1) (by decide)
        · have e34 : m4 = m3 := by rw [hv] at u1; exact ((Prod.mk.inj (Option.some.inj u1)).2).symm
          subst e34
          obtain ⟨p1, p2, p3, p4, p5⟩ := r3 M' t13
          have eL : (st1 ++ st2).length = (s1 ++ s2).length := (of_inj (by omega) (by omega)).mp (ls.1.symm.trans ls'.1)
          rcases r90_new (x := y 2) (y := y 3) hc hr (show M'.1 206 39 = Int32.ofNat R by rw [p2 39 (by omega), hR]) lt (by omega) with e90 | bad
          · rw [e0, b_sm, r1, r56_yes t1, e90, bw_sm]
            show wp (rf_g (decide (Int32.ofNat R = Int32.ofNat R)) (some _)) _
            rw [decide_eq_true rfl, g_t, wp_some]
            obtain ⟨n1, n2, n3, n4', n5, n6, n7, n8, n9⟩ := rob_ne hr
            generalize hM : rf_i (rf_i (rf_i (rf_z (rf_i (rf_i M' c 1 (y 2)) c 2 (y 3)) w.1) 206 39 (Int32.ofNat (R + 1))) 206 1 0) 206 2 (-1) = M
            have zlo : ∀ z, z < w.1 → (rf_z (rf_i (rf_i M' c 1 (y 2)) c 2 (y 3)) w.1).1 z = (rf_i (rf_i M' c 1 (y 2)) c 2 (y 3)).1 z := fun z hz => by
              funext k
              show (if w.1 ≤ z then 0 else (rf_i (rf_i M' c 1 (y 2)) c 2 (y 3)).1 z k) = _
              rw [if_neg (by omega)]
            have mz : ∀ z, z < w.1 → z ≠ 206 → z ≠ c → M.1 z = M'.1 z := fun z hz h6 hzc => by rw [← hM, rf_i_c, if_neg h6, rf_i_c, if_neg h6, rf_i_c, if_neg h6, zlo z hz, rf_i_c, if_neg hzc, rf_i_c, if_neg hzc]
            have mc : M.1 c = pu (pu (M'.1 c) 1 (y 2)) 2 (y 3) := by rw [← hM, rf_i_c, if_neg n1, rf_i_c, if_neg n1, rf_i_c, if_neg n1, zlo c (by omega), rf_i_c, if_pos rfl, rf_i_c, if_pos rfl]
            have m6 : M.1 206 = pu (pu (pu (M'.1 206) 39 (Int32.ofNat (R + 1))) 1 0) 2 (-1) := by rw [← hM, rf_i_c, if_pos rfl, rf_i_c, if_pos rfl, rf_i_c, if_pos rfl, zlo 206 (by omega), rf_i_c, if_neg (Ne.symm n1), rf_i_c, if_neg (Ne.symm n1)]
            have ml : ∀ z, z < w.1 → M.2 z = M'.2 z := fun z hz => by
              rw [← hM]
              funext k
              show (if w.1 ≤ z then 0 else M'.2 z k) = _
              rw [if_neg (by omega)]
            clear hM
            have gX : ∀ z, z < w.1 → z ≠ 206 → z ≠ 233 → z ≠ c → z ≠ c + 1 → z ≠ c + 2 → M.1 z = X.1 z := fun z hz b1 b2 b3 b4 b5 => (mz z hz b1 b3).trans (p1 z b1 b2 b3 b4 b5)
            have g19 : ∀ z, 19 ≤ z → z ≤ 24 → M.1 z = Y.1 z := fun z b1 b2 => (gX z (by omega) (by omega) (by omega) (by omega) (by omega) (by omega)).trans (eR z b1 b2)
            have x24 : ∀ z, 19 ≤ z → z ≤ 24 → X0.1 z = m.1 z := c3
            have F : ruF w (rf_wrule w R) m M := ruF_of J jw hc hr hX gX (fun k hk => by rw [m6, pu_ne (by omega), pu_ne (by omega), pu_ne (by omega)]; exact p2 k (by omega)) (fun z k hz hk => by rw [ml z (by omega)]; exact p5 z k hk) (wr_22 (by decide) (by omega)) (fun l hl => wr_al (jw.2.2.1 l hl).1)
            have m39 : M.1 206 39 = Int32.ofNat (R + 1) := by rw [m6, pu_ne (by decide), pu_ne (by decide), pu_at]
            have nw : rulOK (rf_wrule w R) M R c := by
              refine new_ok (ac := ac') (x := y 2) (y := y 3) (st1 := s1) (st2 := s2) (I1 := I1) (I2 := I2) (wr_R.trans hc) (wr_old hr hc2) t2 t3 ?_ ?_ ?_ ?_ ?_ ?_ ?_ ?_ (fun i z hz => ?_) sl' ?_ ⟨?_, fun i x hx => ?_⟩ t8 t9 t10 t11 t12
              · rw [mc, pu_ne (by decide), pu_ne (by decide)]; exact t5
              · rw [g19 19 (by decide) (by decide), y19]; exact cn'.2.2.2.2.2.1
              · rw [g19 20 (by decide) (by decide), a20, pu_at]
              · rw [g19 21 (by decide) (by decide), a21, pu_at]
              · rw [mc, pu_ne (by decide), pu_at]
              · rw [mc, pu_at]
              · rw [g19 22 (by decide) (by decide), a22, pu_at, c4]; exact cn'.2.2.2.2.2.2
              · rw [g19 23 (by decide) (by decide), a23, pu_at, eL]
              · have hi : i < (s1 ++ s2).length := by
                  by_cases q : i < (s1 ++ s2).length
                  · exact q
                  · rw [List.getElem?_eq_none (by omega)] at hz; cases hz
                rw [g19 24 (by decide) (by decide), a24, cpy_in (by omega), c5]
                exact ls'.2.1 i z hz
              · rw [mc, pu_ne (by decide), pu_ne (by decide)]; exact t6
              · rw [mc, pu_ne (by decide), pu_ne (by decide)]; exact t7.1
              · rw [mz (c + 1) (by omega) n4' (by omega), mz (c + 2) (by omega) n7 (by omega)]
                exact t7.2 i x hx
            have old : ∀ q, q < R → oldR m M q := by
              intro q hq
              refine ⟨?_, ?_, ?_, ?_, ?_, fun k hk => ?_⟩
              · rw [g19 19 (by decide) (by decide), a19, pu_ne (by omega), x24 19 (by decide) (by decide)]
              · rw [g19 20 (by decide) (by decide), a20, pu_ne (by omega), x24 20 (by decide) (by decide)]
              · rw [g19 21 (by decide) (by decide), a21, pu_ne (by omega), x24 21 (by decide) (by decide)]
              · rw [g19 22 (by decide) (by decide), a22, pu_ne (by omega), x24 22 (by decide) (by decide)]
              · rw [g19 23 (by decide) (by decide), a23, pu_ne (by omega), x24 23 (by decide) (by decide)]
              · rw [g19 24 (by decide) (by decide), a24, cpy_out (by omega), x24 24 (by decide) (by decide)]
            have m13 : M.1 13 3 = Int32.ofNat (R + 1) := by rw [gX 13 (by omega) (by decide) (by decide) (by omega) (by omega) (by omega)]; exact e13
            have e40 : M.1 40 = X.1 40 := gX 40 (by omega) (by decide) (by decide) (by omega) (by omega) (by omega)
            have e26 : M.1 26 = X.1 26 := gX 26 (by omega) (by decide) (by decide) (by omega) (by omega) (by omega)
            have m19 : M.1 19 R = Y.1 19 R := by rw [g19 19 (by decide) (by decide)]
            have fin := ru_new hcc J jc jw jl hc hRv lt F m13 m39 old (fun z hz hzw b3 b4 b5 => by rw [gX z hzw (by omega) (by omega) b3 b4 b5]; exact hX.2.1 z (by omega) (by omega) (by omega) (by omega) (by omega) (by omega) (by omega) (by omega)) nw (fun z => by rw [e40, e26]; exact eno (by rw [m19] at z; exact z)) (fun z => by rw [e40, e26]; exact eyes (by rw [m19] at z; exact z))
            refine ⟨fin.1, fin.2.1, fin.2.2.1, fin.2.2.2, ?_, ⟨?_, ?_, fun i => ?_⟩, F⟩
            · have x0 : M.1 0 = X.1 0 := gX 0 (by omega) (by decide) (by decide) (by omega) (by omega) (by omega)
              refine jt_of (x0.trans hX.1) ?_ ?_ ?_
              · rw [m6, pu_ne (by decide), pu_at]
              · rw [m6, pu_ne (by decide), pu_ne (by decide), pu_ne (by decide)]; exact p3
              · rw [m6, pu_at, if_neg n4.1]
            · rw [gX 13 (by omega) (by decide) (by decide) (by omega) (by omega) (by omega), hX.2.2.2.1, m6, pu_ne (by decide), pu_ne (by decide), pu_ne (by decide), p4]
            · rw [m6, pu_ne (by decide), pu_ne (by decide), pu_ne (by decide), p4]; exact ⟨by decide, by decide⟩
            · rw [gX 15 (by omega) (by decide) (by decide) (by omega) (by omega) (by omega), gX 234 (by omega) (by decide) (by decide) (by omega) (by omega) (by omega), hX.2.1 15 (by decide) (by decide) (by decide) (by decide) (by decide) (by decide) (by decide) (by decide), hX.2.1 234 (by decide) (by decide) (by decide) (by decide) (by decide) (by decide) (by decide) (by decide)]
              exact f3 i
          · exact absurd hw6 bad
      · have R24 : R = 24 := by omega
        have lt' : ¬ m.1 13 3 < 24 := by rw [h13, R24]; decide
        rw [if_neg lt'] at c8
        have hX := claX_11 (v' := 3) c1
        obtain ⟨B, r1, r2, r3⟩ := rule_mid H hX f3 hy q0 q1 h2 hg
        rcases r2 with ⟨M', kd', pl', t1, t2, t3, ⟨m4, u1, u2⟩, t5⟩ | ⟨M', ac', s1, s2, I1, I2, d1, d2, t1, t2, t3, _, t5, t6, t7, t8, t9, t10, t11, t12, t13⟩
        · rw [hv] at u1
          exact absurd ((Prod.mk.inj (Option.some.inj u1)).1) (by decide)
        · obtain ⟨p1, p2, p3, p4, p5⟩ := r3 M' t13
          have fin := rule_end (M := rf_i (rf_i M' 206 1 3) 206 2 (-1)) J jc jw jl f3 hc hr hX (by rw [rf_i_c, if_neg (by decide)]; exact c2) (fun z z1 z2 => by rw [rf_i_c, if_neg (by omega)]; exact c3 z z1 z2) (by rw [rf_i_c, if_neg (by decide)]; exact c6) (by rw [rf_i_c, if_neg (by decide)]; exact c7) p1 p2 p4 p5 (fun z hz => by rw [rf_i_c, if_neg hz, rf_i_c, if_neg hz]) (fun k hk => by rw [rf_i_c, if_pos rfl, pu_ne (by omega), rf_i_c, if_pos rfl, pu_ne (by omega)]) rfl
          have e90 := r90_full (w := w) (M := M') (x := y 2) (y := y 3) (show M'.1 206 39 = 24 by rw [p2 39 (by omega), ← hR, R24]; rfl)
          rw [c8, b_sm, r1, r56_yes t1, e90, bw_sm]
          show wp (rf_g (decide ((-1 : Int32) = -1)) (some _)) _
          rw [decide_eq_true rfl, g_t, wp_some]
          obtain ⟨g1, g2, g3, g4, g5, g6, g7⟩ := fin
          generalize hM : rf_i (rf_i M' 206 1 3) 206 2 (-1) = M at *
          refine ⟨cnt_m g1 (by omega) (by omega), g2, jw_m g3 (by omega), g4, ?_, g5, g6⟩
          have m6 : ∀ k, M.1 206 k = pu (pu (M'.1 206) 1 3) 2 (-1) k := fun k => by rw [← hM, rf_i_c, if_pos rfl, rf_i_c, if_pos rfl]
          refine jt_of (g7.trans hX.1) ?_ ?_ ?_
          · rw [m6, pu_ne (by decide), pu_at]
          · rw [m6, pu_ne (by decide), pu_ne (by decide)]; exact p3
          · rw [m6, pu_at, if_neg n4.2.2]
  · -- refused at once
    have e44 : (rf_i (rf_i m 0 11 2) 206 0 0).1 206 44 = m.1 206 44 := rfl
    have hcl : g_X11_rule w m (y 1) (y 2) (y 3) = some (-1, rf_i m 0 11 2) := by
      unfold g_X11_rule g_X11_refused
      rw [X11_isWithin, f1, b_sm]
      by_cases p : iv 0 (m.1 206 44) (y 1)
      · rw [bi_t p, if_neg o1, X11_isTime, b_sm, bi_f (fun q => h ⟨p, q⟩)]
        rfl
      · rw [bi_f p]
        rfl
    have hre : g_X14_rule_0 w (y 1) (y 2) (y 3) (rf_i m 0 11 2) = some (-1, w, dnM m 2) := by
      unfold g_X14_rule_0 g_X14_refused
      rw [e44]
      by_cases p0 : y 1 < 0
      · rw [if_pos p0]; rfl
      · rw [if_neg p0]
        by_cases p1 : m.1 206 44 < y 1
        · rw [if_pos p1]; rfl
        · rw [if_neg p1, X14_isDay, b_sm]
          have p : iv 0 (m.1 206 44) (y 1) := ⟨by grind, by grind⟩
          by_cases p2 : ib (y 2) 10000
          · rw [bi_t p2, if_neg o1, X14_in, b_sm]
            have p3 : ¬ iv (y 2) 9999 (y 3) := fun q => h ⟨p, p2, ⟨by have := p2.1; have := q.1; clear J jc; grind, by have := q.2; clear J jc; grind⟩, by have := q.1; clear J jc; grind⟩
            rw [bi_f p3]
            rfl
          · rw [bi_f p2]
            rfl
    rw [hcl, b_sm, hre, bw_sm]
    show wp (rf_g (decide ((-1 : Int32) = -1)) (some _)) _
    rw [decide_eq_true rfl, g_t, wp_some]
    have d0 : ∀ z, z ≠ 0 → z ≠ 206 → (dnM m 2).1 z = m.1 z := fun z a1 a2 => dn_0 z a1 a2
    have F : ruF w w m (dnM m 2) := by
      obtain ⟨l, len, j1, j2, j3, _⟩ := J.2.2.1
      refine ⟨fun z _ b0 _ _ _ _ _ _ _ b9 _ => d0 z b0 b9, fun k k1 _ _ => ?_, fun k _ _ => by rw [d0 13 (by decide) (by decide)], fun k _ => by rw [d0 26 (by decide) (by decide)], fun k hk => dn_206 k (by omega) (by omega) (by omega), fun z k _ _ _ _ _ => rfl, fun l' hl' => ?_, rfl, fun _ _ => rfl⟩
      · unfold dnM
        rw [rf_i_c, if_neg (by decide), rf_i_c, if_neg (by decide), rf_i_c, if_neg (by decide), rf_i_c, if_pos rfl, pu_ne k1]
      · have e : l' = l := by rw [j1] at hl'; exact (Option.some.inj hl').symm
        subst e
        exact d0 l' (by omega) (by omega)
    have s := ru_same J jc jw jl hc F (by rw [d0 13 (by decide) (by decide)]) (dn_206 39 (by decide) (by decide) (by decide)) (fun z z1 z2 => d0 z (by omega) (by omega)) (fun z hz _ _ _ => d0 z (by omega) (by omega)) (d0 40 (by decide) (by decide)) (by rw [d0 26 (by decide) (by decide)])
    refine ⟨cnt_m s.1 (by omega) (by omega), s.2.1, jw_m s.2.2.1 (by omega), s.2.2.2, dn_T jt (by decide), ⟨?_, ?_, fun i => ?_⟩, F⟩
    · rw [d0 13 (by decide) (by decide), dn_206 44 (by decide) (by decide) (by decide)]; exact f1
    · rw [dn_206 44 (by decide) (by decide) (by decide)]; exact f2
    · rw [d0 15 (by decide) (by decide), d0 234 (by decide) (by decide)]; exact f3 i
end PBK15c
