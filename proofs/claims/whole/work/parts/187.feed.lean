/-! feed; what was found is told -/
section PBFeed
theorem fr_cell {S : fr_S} {m m' : rf_m} (h : fr S m m') (c : Nat) (hd : fr_dis [(c, c, none)] S = true) : m'.1 c = m.1 c := funext fun k => (dep_of h hd c k (by simp [fr_in, fr_e])).1
theorem byte0 (a : Int32) (s : Int32) (hs : s = 0 ∨ s = 8 ∨ s = 16 ∨ s = 24) : ((Int32.toUInt32 a >>> (Int32.toUInt32 s &&& Int32.toUInt32 31)).toInt32) &&& 255 = (vp_nar .byte ((Int32.toInt8 (a >>> (s &&& 31))).toInt32)) &&& 255 := by
  apply Int32.toBitVec_inj.mp
  apply BitVec.eq_of_getLsbD_eq
  intro i hi
  have h255 : ∀ i, i < 32 → 8 ≤ i → (255#32).getLsbD i = false := by decide
  by_cases h8 : i < 8
  · rcases hs with rfl | rfl | rfl | rfl
    · simp [vp_nar, narrow, BitVec.getElem_signExtend, h8, hi]
    · simp [vp_nar, narrow, BitVec.getElem_signExtend, BitVec.getElem_sshiftRight, h8, hi, show 8 + i < 32 by omega]
    · simp [vp_nar, narrow, BitVec.getElem_signExtend, BitVec.getElem_sshiftRight, h8, hi, show 16 + i < 32 by omega]
    · simp [vp_nar, narrow, BitVec.getElem_signExtend, BitVec.getElem_sshiftRight, h8, hi, show 24 + i < 32 by omega]
  · have := h255 i hi (by omega)
    rcases hs with rfl | rfl | rfl | rfl <;> simp [vp_nar, narrow, this]
/-- what one of the four bytes of a is on the tape -/
def tby (a : Int32) (s : Int32) : Int32 := vp_nar .byte ((Int32.toInt8 (a >>> (s &&& 31))).toInt32)
def cby (a : Int32) (s : Int32) : Int32 := ((Int32.toUInt32 a >>> (Int32.toUInt32 s &&& Int32.toUInt32 31)).toInt32) &&& 255
theorem cby_tby (a s : Int32) (hs : s = 0 ∨ s = 8 ∨ s = 16 ∨ s = 24) : cby a s = tby a s &&& 255 := byte0 a s hs
theorem sh4 : ∀ z, z < 4 → Int32.ofNat (24 - 8 * z) = 0 ∨ Int32.ofNat (24 - 8 * z) = 8 ∨ Int32.ofNat (24 - 8 * z) = 16 ∨ Int32.ofNat (24 - 8 * z) = 24 := by decide
theorem X9_takeFour {w : rf_w} {m : rf_m} {a : Int32} {n : Nat} (hn : m.1 13 2 = Int32.ofNat n) (hb : n + 4 ≤ 300) : g_X9_takeFour w m a = some (rf_i (rf_i (rf_i (rf_i (rf_i (rf_i (rf_i (rf_i m 15 n (cby a 24)) 13 2 (Int32.ofNat (n + 1))) 15 (n + 1) (cby a 16)) 13 2 (Int32.ofNat (n + 2))) 15 (n + 2) (cby a 8)) 13 2 (Int32.ofNat (n + 3))) 15 (n + 3) (cby a 0)) 13 2 (Int32.ofNat (n + 4))) := by
  have st : ∀ (k : Nat) (s : Int32) (M : rf_m) (j : Nat), M.1 13 2 = Int32.ofNat j → j < 300 → ¬ s < 0 → g_X9_takeFour_3 w (k + 1) a s M = g_X9_takeFour_3 w k a (s + (-8)) (rf_i (rf_i M 15 j (cby a s)) 13 2 (Int32.ofNat (j + 1))) := by
    intro k s M j hM hj hs
    show g_X9_takeFour_3_b w (g_X9_takeFour_3 w k) a s M = _
    unfold g_X9_takeFour_3_b
    have e : (rf_i M 15 (Int32.ofNat j).toNatClampNeg (((Int32.toUInt32 a >>> (Int32.toUInt32 s &&& Int32.toUInt32 31)).toInt32) &&& 255)).1 13 2 = Int32.ofNat j := hM
    rw [if_neg hs, hM, gof hj (by decide), g_t, e, of_succ, tn_of (by omega)]
    rfl
  unfold g_X9_takeFour
  rw [show rf_fuel = 999995 + 1 + 1 + 1 + 1 + 1 from rfl]
  rw [st _ 24 m n hn (by omega) (by decide), st _ _ _ (n + 1) rfl (by omega) (by decide), st _ _ _ (n + 2) rfl (by omega) (by decide), st _ _ _ (n + 3) rfl (by omega) (by decide)]
  show g_X9_takeFour_3_b w _ a _ _ = _
  unfold g_X9_takeFour_3_b
  rw [if_pos (by decide)]
  rfl
theorem takeFour' {w : rf_w} {m : rf_m} {a : Int32} {n : Nat} (hn : m.1 13 2 = Int32.ofNat n) (hb : n + 4 ≤ 300) : wp (g_X9_takeFour w m a) (fun m' => m'.1 13 2 = Int32.ofNat (n + 4) ∧ ∀ i, m'.1 15 i = if n ≤ i ∧ i < n + 4 then cby a (Int32.ofNat (24 - 8 * (i - n))) else m.1 15 i) := by
  refine ⟨_, X9_takeFour hn hb, rfl, fun i => ?_⟩
  simp only [rf_i_c, Nat.reduceEqDiff, if_true, if_false, pu]
  by_cases h0 : i = n
  · subst h0; simp
  · by_cases h1 : i = n + 1
    · subst h1; simp
    · by_cases h2 : i = n + 2
      · subst h2; simp
      · by_cases h3 : i = n + 3
        · subst h3; simp
        · simp [h0, h1, h2, h3, show ¬ (n ≤ i ∧ i < n + 4) by omega]
/-- which of the five, by the byte's number -/
def sel5 (a b c d e : Int32) (k : Nat) : Int32 := if k < 4 then a else if k < 8 then b else if k < 12 then c else if k < 16 then d else e
theorem takeIn' {w : rf_w} {m : rf_m} {a b c d e : Int32} {n : Nat} (hn : m.1 13 2 = Int32.ofNat n) (hb : n + 20 ≤ 300) : wp (g_X9_takeIn w m a b c d e) (fun r => r.1 = Int32.ofNat (n + 20) ∧ r.2.1 13 2 = Int32.ofNat (n + 20) ∧ ∀ i, r.2.1 15 i = if n ≤ i ∧ i < n + 20 then cby (sel5 a b c d e (i - n)) (Int32.ofNat (24 - 8 * ((i - n) % 4))) else m.1 15 i) := by
  unfold g_X9_takeIn
  have h : m.1 13 2 + 20 ≤ 300 := by
    rw [hn, show Int32.ofNat n + 20 = Int32.ofNat (n + 20) from (Int32.ofNat_add n 20).symm]
    exact (of_le (b := 300) (by omega) (by decide)).mpr hb
  rw [if_pos h, wp_bv]
  refine wp_mono (takeFour' hn (by omega)) (fun m1 ⟨p1, q1⟩ => ?_)
  rw [wp_bv]
  refine wp_mono (takeFour' p1 (by omega)) (fun m2 ⟨p2, q2⟩ => ?_)
  rw [wp_bv]
  refine wp_mono (takeFour' p2 (by omega)) (fun m3 ⟨p3, q3⟩ => ?_)
  rw [wp_bv]
  refine wp_mono (takeFour' p3 (by omega)) (fun m4 ⟨p4, q4⟩ => ?_)
  rw [wp_bv]
  refine wp_mono (takeFour' p4 (by omega)) (fun m5 ⟨p5, q5⟩ => ?_)
  rw [wp_some]
  refine ⟨p5, p5, fun i => ?_⟩
  show m5.1 15 i = _
  rw [q5, q4, q3, q2, q1]
  unfold sel5
  by_cases b0 : i < n
  · rw [if_neg (by omega), if_neg (by omega), if_neg (by omega), if_neg (by omega), if_neg (by omega), if_neg (by omega)]
  · by_cases b1 : i < n + 4
    · rw [if_neg (by omega), if_neg (by omega), if_neg (by omega), if_neg (by omega), if_pos (by omega), if_pos (by omega), if_pos (by omega), show (i - n) % 4 = i - n by omega]
    · by_cases b2 : i < n + 8
      · rw [if_neg (by omega), if_neg (by omega), if_neg (by omega), if_pos (by omega), if_pos (by omega), if_neg (by omega), if_pos (by omega), show (i - n) % 4 = i - (n + 4) by omega]
      · by_cases b3 : i < n + 12
        · rw [if_neg (by omega), if_neg (by omega), if_pos (by omega), if_pos (by omega), if_neg (by omega), if_neg (by omega), if_pos (by omega), show (i - n) % 4 = i - (n + 4 + 4) by omega]
        · by_cases b4 : i < n + 16
          · rw [if_neg (by omega), if_pos (by omega), if_pos (by omega), if_neg (by omega), if_neg (by omega), if_neg (by omega), if_pos (by omega), show (i - n) % 4 = i - (n + 4 + 4 + 4) by omega]
          · by_cases b5 : i < n + 20
            · rw [if_pos (by omega), if_pos (by omega), if_neg (by omega), if_neg (by omega), if_neg (by omega), if_neg (by omega), show (i - n) % 4 = i - (n + 4 + 4 + 4 + 4) by omega]
            · rw [if_neg (by omega), if_neg (by omega), if_neg (by omega), if_neg (by omega), if_neg (by omega), if_neg (by omega)]
theorem feed_sh : ∀ k, k < 20 → (24 : Int32) - 8 * (Int32.ofNat k - Int32.ofNat k / 4 * 4) = Int32.ofNat (24 - 8 * (k % 4)) := by decide
theorem feed14 {w : rf_w} {a b c d e : Int32} : ∀ f k n (M : rf_m), k ≤ 20 → 20 - k < f → M.1 206 44 = Int32.ofNat (n + k) → n + 20 ≤ 300 → wp (g_X14_feed_23 w f a b c d e (Int32.ofNat k) M) (fun r => r.1 = Int32.ofNat (n + 20) ∧ r.2.1 206 44 = Int32.ofNat (n + 20) ∧ ∀ i, r.2.1 234 i = if n + k ≤ i ∧ i < n + 20 then tby (sel5 a b c d e (i - n)) (Int32.ofNat (24 - 8 * ((i - n) % 4))) else M.1 234 i) := by
  intro f
  induction f with
  | zero => intro k n M _ h; omega
  | succ f ih =>
    intro k n M hk hf hM hn
    show wp (g_X14_feed_23_b w (g_X14_feed_23 w f) a b c d e _ M) _
    unfold g_X14_feed_23_b
    by_cases h : k = 20
    · subst h
      rw [if_pos (by decide), wp_some]
      refine ⟨hM, hM, fun i => ?_⟩
      rw [if_neg (by omega)]
    · have h20 : ¬ (20 : Int32) ≤ Int32.ofNat k := nle (R := 20) (by omega) (by decide)
      rw [if_neg h20]
      have key : ∀ s, s = sel5 a b c d e k → wp (g_X14_feed_76 w (g_X14_feed_23 w f) a b c d e (Int32.ofNat k) s M) (fun r => r.1 = Int32.ofNat (n + 20) ∧ r.2.1 206 44 = Int32.ofNat (n + 20) ∧ ∀ i, r.2.1 234 i = if n + k ≤ i ∧ i < n + 20 then tby (sel5 a b c d e (i - n)) (Int32.ofNat (24 - 8 * ((i - n) % 4))) else M.1 234 i) := by
        intro s hs
        unfold g_X14_feed_76
        rw [hM, gof (by omega) (by decide), g_t, tn_of (by omega), of_succ, feed_sh k (by omega)]
        have := ih (k + 1) n (rf_i (rf_i M 234 (n + k) (tby s (Int32.ofNat (24 - 8 * (k % 4))))) 206 44 (Int32.ofNat (n + k + 1))) (by omega) (by omega) rfl hn
        have e : (rf_i M 234 (n + k) (vp_nar .byte ((Int32.toInt8 (s >>> (Int32.ofNat (24 - 8 * (k % 4)) &&& 31))).toInt32))).1 206 44 = Int32.ofNat (n + k) := hM
        rw [e, of_succ]
        refine wp_mono this (fun r ⟨r1, r2, r3⟩ => ⟨r1, r2, fun i => ?_⟩)
        rw [r3 i]
        have e2 : (rf_i (rf_i M 234 (n + k) (tby s (Int32.ofNat (24 - 8 * (k % 4))))) 206 44 (Int32.ofNat (n + k + 1))).1 234 i = pu (M.1 234) (n + k) (tby s (Int32.ofNat (24 - 8 * (k % 4)))) i := by
          rw [rf_i_c, if_neg (by decide), rf_i_c, if_pos rfl]
        rw [e2]
        unfold pu
        by_cases q : i = n + k
        · subst q
          rw [if_neg (by omega), if_pos rfl, if_pos (by omega), hs, show n + k - n = k by omega]
        · by_cases q2 : n + (k + 1) ≤ i ∧ i < n + 20
          · rw [if_pos q2, if_pos (by omega)]
          · rw [if_neg q2, if_neg q, if_neg (by omega)]
      have lit : ∀ R : Nat, R < 100 → (Int32.ofNat R ≤ Int32.ofNat k ↔ R ≤ k) := fun R hR => of_le (by omega) (by omega)
      have l4 : (4 : Int32) ≤ Int32.ofNat k ↔ 4 ≤ k := lit 4 (by omega)
      have l8 : (8 : Int32) ≤ Int32.ofNat k ↔ 8 ≤ k := lit 8 (by omega)
      have l12 : (12 : Int32) ≤ Int32.ofNat k ↔ 12 ≤ k := lit 12 (by omega)
      have l16 : (16 : Int32) ≤ Int32.ofNat k ↔ 16 ≤ k := lit 16 (by omega)
      by_cases z4 : 4 ≤ k
      · rw [if_pos (l4.mpr z4)]
        by_cases z8 : 8 ≤ k
        · rw [if_pos (l8.mpr z8)]
          by_cases z12 : 12 ≤ k
          · rw [if_pos (l12.mpr z12)]
            by_cases z16 : 16 ≤ k
            · rw [if_pos (l16.mpr z16)]
              exact key e (by unfold sel5; rw [if_neg (by omega), if_neg (by omega), if_neg (by omega), if_neg (by omega)])
            · rw [if_neg (fun q => z16 (l16.mp q))]
              exact key d (by unfold sel5; rw [if_neg (by omega), if_neg (by omega), if_neg (by omega), if_pos (by omega)])
          · rw [if_neg (fun q => z12 (l12.mp q))]
            exact key c (by unfold sel5; rw [if_neg (by omega), if_neg (by omega), if_pos (by omega)])
        · rw [if_neg (fun q => z8 (l8.mp q))]
          exact key b (by unfold sel5; rw [if_neg (by omega), if_pos (by omega)])
      · rw [if_neg (fun q => z4 (l4.mp q))]
        exact key a (by unfold sel5; rw [if_pos (by omega)])
theorem k14 {w : rf_w} {m : rf_m} {y : Nat → Int32} (jf : JFeed m) : wp (g_lc_14 w m y) (fun r => r.1 = w ∧ JFeed r.2) := by
  obtain ⟨c1, c2, c3⟩ := jf
  have hn := of_tn c2.1
  have hb : (m.1 206 44).toNatClampNeg ≤ 300 := tn_le c2.1 c2.2 (by decide)
  unfold g_lc_14 g_X11_feed g_X14_feed
  rw [wp_b, wp_b]
  by_cases h : (m.1 206 44).toNatClampNeg + 20 ≤ 300
  · refine wp_mono (wp_more (takeIn' (c1.trans hn.symm) h) (fun r hr => fg_X9_takeIn hr)) (fun r ⟨⟨r1, r2, r3⟩, fr⟩ => ?_)
    rw [wp_some, wp_b]
    have q1 : r.2.1 206 44 = m.1 206 44 := (fr 206 44 (by decide)).1
    have q2 : r.2.1 234 = m.1 234 := fr_cell fr 234 (by decide)
    have h' : (rf_i r.2 206 0 0).1 206 44 + 20 ≤ 300 := by
      show r.2.1 206 44 + 20 ≤ 300
      rw [q1, ← hn, show Int32.ofNat (m.1 206 44).toNatClampNeg + 20 = Int32.ofNat ((m.1 206 44).toNatClampNeg + 20) from (Int32.ofNat_add _ 20).symm]
      exact (of_le (b := 300) (by omega) (by decide)).mpr h
    rw [if_pos h']
    have f14 := feed14 (w := w) (a := y 1) (b := y 2) (c := y 3) (d := y 4) (e := y 5) rf_fuel 0 (m.1 206 44).toNatClampNeg (rf_i r.2 206 0 0) (by omega) (by unfold rf_fuel; omega) (by show r.2.1 206 44 = _; rw [q1]; exact hn.symm) h
    refine wp_mono (wp_more f14 (fun r' hr => fg_X14_feed_23 _ hr)) (fun r' ⟨⟨s1, s2, s3⟩, fr2⟩ => ?_)
    have p1 : r'.2.1 13 2 = r.2.1 13 2 := (fr2 13 2 (by decide)).1
    have p2 : r'.2.1 15 = r.2.1 15 := fr_cell fr2 15 (by decide)
    rw [wp_g, wp_some]
    refine ⟨decide_eq_true (by rw [r1, s1]), rfl, ?_⟩
    refine ⟨by rw [p1, r2, s2], ?_, fun i => ?_⟩
    · rw [s2]
      exact ⟨of_nn (by omega), (of_le (b := 300) (by omega) (by decide)).mpr h⟩
    · rw [p2, r3 i, s3 i]
      have e0 : (rf_i r.2 206 0 0).1 234 i = m.1 234 i := by
        show r.2.1 234 i = _
        rw [q2]
      rw [e0]
      by_cases hq : (m.1 206 44).toNatClampNeg ≤ i ∧ i < (m.1 206 44).toNatClampNeg + 20
      · rw [if_pos hq, if_pos (by omega), cby_tby _ _ (sh4 _ (Nat.mod_lt _ (by decide)))]
      · rw [if_neg hq, if_neg (by omega)]
        exact c3 i
  · have h1 : ¬ m.1 206 44 + 20 ≤ 300 := by
      rw [← hn, show Int32.ofNat (m.1 206 44).toNatClampNeg + 20 = Int32.ofNat ((m.1 206 44).toNatClampNeg + 20) from (Int32.ofNat_add _ 20).symm]
      exact fun q => h ((of_le (b := 300) (by omega) (by decide)).mp q)
    have h2 : ¬ m.1 13 2 + 20 ≤ 300 := by rw [c1]; exact h1
    unfold g_X9_takeIn
    have h1' : ¬ (rf_i m 206 0 0).1 206 44 + 20 ≤ 300 := h1
    rw [if_neg h2, wp_some, wp_some, wp_b]
    show wp (if (rf_i m 206 0 0).1 206 44 + 20 ≤ 300 then _ else _) _
    rw [if_neg h1', wp_some, wp_g, wp_some]
    exact ⟨rfl, rfl, c1, c2, c3⟩
theorem k35 {w : rf_w} {m : rf_m} {y : Nat → Int32} (j : JTell m) : wp (g_lc_35 w m y) (fun r => r.1 = w) := by
  unfold g_lc_35 g_X11_link g_X14_link
  rcases j with ⟨c1, c2, _, _⟩ | ⟨c1, c2, _, _, c3⟩
  · have h1 : ¬ iv 0 (m.1 175 1 - 1) (y 1) := by rw [c2]; unfold iv; grind
    have q : (rf_i m 206 0 0).1 206 110 = -1 := c1
    by_cases h2 : y 1 < 0
    · simp [wp_b, wp_g, wp_ite, wp_some, X11_isWithin, bi_eq0, h1, h2]
    · have h3 : (-1 : Int32) ≤ y 1 := by grind
      simp [wp_b, wp_g, wp_ite, wp_some, X11_isWithin, bi_eq0, h1, h2, q, h3]
      exact fun q0 => absurd h3 (by clear h1; grind)
  · have q : (rf_i m 206 0 0).1 206 110 = m.1 206 110 := rfl
    have q2 : (rf_i m 206 0 0).1 278 = m.1 278 := rfl
    by_cases h1 : iv 0 (m.1 175 1 - 1) (y 1)
    · have h1' := h1
      rw [c2] at h1'
      have h2 : ¬ y 1 < 0 := by unfold iv at h1'; grind
      have h3 : ¬ m.1 206 110 ≤ y 1 := by unfold iv at h1' c1; clear c3; grind
      have g : rf_in (y 1) 6 = true := gin h1'.1 (by unfold iv at h1' c1; clear c3; grind) (by decide)
      have e := c3 (y 1).toNatClampNeg (tn_lt2 h1'.1 (by clear c3; grind))
      simp only [wp_b, wp_g, wp_ite, wp_some, X11_isWithin, bi_eq0, h1, h2, h3, q, q2, g, e, not_true, not_false_eq_true, false_implies, true_implies, true_and, and_true, decide_true]
    · have h1' := h1
      rw [c2] at h1'
      by_cases h2 : y 1 < 0
      · simp [wp_b, wp_g, wp_ite, wp_some, X11_isWithin, bi_eq0, h1, h2]
      · have h3 : m.1 206 110 ≤ y 1 := by unfold iv at h1' c1; clear c3; grind
        simp [wp_b, wp_g, wp_ite, wp_some, X11_isWithin, bi_eq0, h1, h2, q, h3]
        exact fun q0 => absurd h3 (by clear h1; grind)
theorem k36 {w : rf_w} {m : rf_m} {y : Nat → Int32} (j : JTell m) : wp (g_lc_36 w m y) (fun r => r.1 = w) := by
  unfold g_lc_36 g_X11_side g_X14_side
  rcases j with ⟨c1, c2, c3, c4⟩ | ⟨c1, c2, c3, c4, c5⟩
  · have q : (rf_i m 206 0 0).1 206 110 = -1 := c1
    by_cases h : rf_bz (y 1) = 0 <;> simp [wp_b, wp_g, wp_ite, wp_some, h, q, c3, c4]
  · have q : ¬ (rf_i m 206 0 0).1 206 110 = -1 := by
      show ¬ m.1 206 110 = -1
      unfold iv at c1; clear c5; grind
    have q1 : (rf_i m 206 0 0).1 206 111 = m.1 206 111 := rfl
    have q2 : (rf_i m 206 0 0).1 206 112 = m.1 206 112 := rfl
    by_cases h : rf_bz (y 1) = 0 <;> simp [wp_b, wp_g, wp_ite, wp_some, h, q, q1, q2, c3, c4]
theorem k42 {w : rf_w} {m : rf_m} {y : Nat → Int32} (j : JGuilt m) : wp (g_lc_42 w m y) (fun r => r.1 = w) := by
  unfold g_lc_42 g_X11_guilty g_X14_guilty
  obtain ⟨c1, c2, _, c3⟩ := j
  have q : (rf_i m 206 0 0).1 206 117 = m.1 206 117 := rfl
  have q2 : (rf_i m 206 0 0).1 284 = m.1 284 := rfl
  by_cases h1 : iv 0 (m.1 184 2 - 1) (y 1)
  · have h1' := h1
    rw [c2] at h1'
    have h2 : ¬ y 1 < 0 := by unfold iv at h1'; grind
    have h3 : ¬ m.1 206 117 ≤ y 1 := by unfold iv at h1' c1; clear c3; grind
    have g : rf_in (y 1) 12 = true := gin h1'.1 (by unfold iv at h1' c1; clear c3; grind) (by decide)
    have e := c3 (y 1).toNatClampNeg (tn_lt2 h1'.1 (by clear c3; grind))
    simp only [wp_b, wp_g, wp_ite, wp_some, X11_isWithin, bi_eq0, h1, h2, h3, q, q2, g, e, not_true, not_false_eq_true, false_implies, true_implies, true_and, and_true, decide_true]
  · have h1' := h1
    rw [c2] at h1'
    by_cases h2 : y 1 < 0
    · simp [wp_b, wp_g, wp_ite, wp_some, X11_isWithin, bi_eq0, h1, h2]
    · have h3 : m.1 206 117 ≤ y 1 := by unfold iv at h1' c1; clear c3; grind
      simp [wp_b, wp_g, wp_ite, wp_some, X11_isWithin, bi_eq0, h1, h2, q, h3]
      exact fun q0 => absurd h3 (by clear h1; grind)
theorem k43 {w : rf_w} {m : rf_m} {y : Nat → Int32} (j : JGuilt m) : wp (g_lc_43 w m y) (fun r => r.1 = w) := by
  unfold g_lc_43 g_X11_rivals g_X14_rivals
  have q : (rf_i m 206 0 0).1 206 118 = m.1 206 118 := rfl
  simp [wp_b, wp_g, wp_some, q, j.2.2.1]
theorem k32 {w : rf_w} {m : rf_m} {y : Nat → Int32} (j : JCost m) : wp (g_lc_32 w m y) (fun r => r.1 = w) := by
  unfold g_lc_32 g_X11_cost g_X14_cost
  have j' : m.2 55 0 = m.2 206 89 := j
  have q : (rf_i m 206 0 0).2 206 89 = m.2 206 89 := rfl
  simp [wp_b, wp_g, wp_some, q, j', cmp_eq0]
end PBFeed
