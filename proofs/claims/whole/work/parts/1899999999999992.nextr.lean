/-! tokens: the reference's next, and the tests of both sides -/
section PBTokU
theorem spaces_r {w : rf_w} {n : Nat} (hn : n ≤ 300) : ∀ r F p (m : rf_m), p + r = n → r < F → m.1 206 45 = Int32.ofNat n → m.1 206 46 = Int32.ofNat p → g_X14_next_0 w F m = g_X14_next_0_b w (fun _ => none) (rf_i m 206 46 (Int32.ofNat (rn (fun k => spc (m.1 234 k &&& 255)) r p))) := by
  have m32 : ¬ (-1 : Int32) = 32 := by decide
  have stp : ∀ (R R' : rf_m → Option rf_m) (m : rf_m) p, p ≤ n → m.1 206 45 = Int32.ofNat n → m.1 206 46 = Int32.ofNat p → ¬ (if p < n then m.1 234 p &&& 255 else -1) = 32 → g_X14_next_0_b w R m = g_X14_next_0_b w R' m := by
    intro R R' m p hp h45 h46 hq
    unfold g_X14_next_0_b
    rw [h46, byteAt_r hn h45 hp, b_sm, b_sm, if_neg hq, if_neg hq]
  intro r
  induction r with
  | zero =>
    intro F p m hp hF h45 h46
    obtain ⟨F, rfl⟩ : ∃ g, F = g + 1 := ⟨F - 1, by omega⟩
    show g_X14_next_0_b w _ m = g_X14_next_0_b w _ (rf_i m 206 46 (Int32.ofNat p))
    rw [rf_i_self h46]
    exact stp _ _ m p (by omega) h45 h46 (by rw [if_neg (by omega)]; exact m32)
  | succ r ih =>
    intro F p m hp hF h45 h46
    obtain ⟨F, rfl⟩ : ∃ g, F = g + 1 := ⟨F - 1, by omega⟩
    have er : rn (fun k => spc (m.1 234 k &&& 255)) (r + 1) p = if spc (m.1 234 p &&& 255) = true then rn (fun k => spc (m.1 234 k &&& 255)) r (p + 1) else p := rfl
    have st : g_X14_next_0 w (F + 1) m = g_X14_next_0_b w (g_X14_next_0 w F) m := rfl
    rw [st, er]
    by_cases q : m.1 234 p &&& 255 = 32
    · have u : g_X14_next_0_b w (g_X14_next_0 w F) m = g_X14_next_0 w F (rf_i m 206 46 (Int32.ofNat (p + 1))) := by
        unfold g_X14_next_0_b
        rw [h46, byteAt_r hn h45 (by omega), b_sm, if_pos (show p < n by omega), if_pos q, h46, of_succ]
      rw [u, if_pos (show spc (m.1 234 p &&& 255) = true from decide_eq_true q)]
      rw [ih F (p + 1) (rf_i m 206 46 (Int32.ofNat (p + 1))) (by omega) (by omega) (by rw [rf_i_c, if_pos rfl, pu_ne (by decide)]; exact h45) (by rw [rf_i_c, if_pos rfl, pu_at]), rf_i_i]
      rw [rf_i_c, if_neg (by decide)]
    · rw [if_neg (show ¬ spc (m.1 234 p &&& 255) = true from fun z => q (of_decide_eq_true z)), rf_i_self h46]
      exact stp _ _ m p (by omega) h45 h46 (by rw [if_pos (by omega)]; exact q)
/-- what the reference's next leaves -/
def nR (f : Nat → Int32) (n s : Nat) (m M : rf_m) : Prop := (∀ z, z ≠ 206 → M.1 z = m.1 z) ∧ (∀ k, k < 46 ∨ 50 < k → M.1 206 k = m.1 206 k) ∧ (∀ z k, ¬ (z = 206 ∧ k = 53) → M.2 z k = m.2 z k) ∧ M.1 206 48 = Int32.ofNat s ∧ (tC f n s ≠ 1 → M.1 206 46 = Int32.ofNat (tE f n s)) ∧ M.1 206 47 = srO (tC f n s) ∧ (sgn (tC f n s) → M.1 206 49 = Int32.ofNat (tC f n s)) ∧ (tC f n s = 3 → M.1 206 50 = nl f (tE f n s - s) s 0) ∧ (99 ≤ tC f n s → M.2 206 53 = pkW (lts f (tE f n s - s) s) 0)
theorem mark_r {w : rf_w} {m : rf_m} {b : Int32} : g_X14_isMarkByte w m b = some (if isSg b = true then 1 else 0, m) := by
  unfold g_X14_isMarkByte isSg
  by_cases h1 : b = 60
  · simp [h1]
  by_cases h2 : b = 62
  · simp [h2]
  by_cases h3 : b = 61
  · simp [h3]
  by_cases h4 : b = 43
  · simp [h4]
  by_cases h5 : b = 45
  · simp [h5]
  by_cases h6 : b = 42
  · simp [h6]
  by_cases h7 : b = 40
  · simp [h7]
  by_cases h8 : b = 41 <;> simp [h1, h2, h3, h4, h5, h6, h7, h8]
theorem next_r {w : rf_w} {m : rf_m} {n p : Nat} {f : Nat → Int32} (hn : n ≤ 300) (hp : p ≤ n) (hf : ∀ k, m.1 234 k &&& 255 = f k) (hb : ∀ k, 0 ≤ (f k).toInt ∧ (f k).toInt ≤ 255) (h45 : m.1 206 45 = Int32.ofNat n) (h46 : m.1 206 46 = Int32.ofNat p) : ∃ M, g_X14_next w m = some M ∧ nR f n (tS f n p) m M := by
  have hf' : (fun k => m.1 234 k &&& 255) = f := funext hf
  have hS := tS_rng (f := f) hp
  have hE := tE_rng (f := f) hS.2
  unfold g_X14_next
  rw [spaces_r hn (n - p) rf_fuel p m (by omega) (by unfold rf_fuel; omega) h45 h46]
  rw [show rn (fun k => spc (m.1 234 k &&& 255)) (n - p) p = tS f n p by rw [← hf']; rfl]
  have hsp : tS f n p < n → ¬ f (tS f n p) = 32 := by
    intro h q
    have key : ∀ r p, p + r = n → rn (fun k => spc (f k)) r p < n → spc (f (rn (fun k => spc (f k)) r p)) = false := by
      intro r
      induction r with
      | zero => intro p h1 h2; have h2' : p < n := h2; omega
      | succ r ih =>
        intro p h1 h2
        have er : rn (fun k => spc (f k)) (r + 1) p = if spc (f p) = true then rn (fun k => spc (f k)) r (p + 1) else p := rfl
        rw [er] at h2 ⊢
        by_cases z : spc (f p) = true
        · rw [if_pos z] at h2 ⊢; exact ih (p + 1) (by omega) h2
        · rw [if_neg z]; exact Bool.eq_false_iff.mpr z
    have := key (n - p) p (by omega) h
    rw [show rn (fun k => spc (f k)) (n - p) p = tS f n p from rfl, q] at this
    cases this
  generalize tS f n p = s at *
  have o1 : ¬ (1 : Int32) = 0 := by decide
  have b234 : ∀ x : Int32, (rf_i m 206 46 x).1 234 = m.1 234 := fun x => by rw [rf_i_c, if_neg (by decide)]
  have hby : s < n → m.1 234 s &&& 255 = f s := fun _ => hf s
  unfold g_X14_next_0_b
  generalize hA : rf_i m 206 46 (Int32.ofNat s) = A
  have a206 : A.1 206 = pu (m.1 206) 46 (Int32.ofNat s) := by rw [← hA, rf_i_c, if_pos rfl]
  have az : ∀ z, z ≠ 206 → A.1 z = m.1 z := fun z q => by rw [← hA, rf_i_c, if_neg q]
  have a2 : A.2 = m.2 := by rw [← hA]; rfl
  have a45 : A.1 206 45 = Int32.ofNat n := by rw [a206, pu_ne (by decide)]; exact h45
  have a46 : A.1 206 46 = Int32.ofNat s := by rw [a206, pu_at]
  clear hA
  rw [a46, byteAt_r hn a45 hS.2, b_sm, az 234 (by decide)]
  have n32 : ¬ (if s < n then m.1 234 s &&& 255 else -1) = 32 := by
    by_cases q : s < n
    · rw [if_pos q, hf s]; exact hsp q
    · rw [if_neg q]; decide
  rw [if_neg n32]
  generalize hB : rf_i (rf_i (rf_i A 206 48 (A.1 206 46)) 206 47 0) 206 49 0 = B
  have b206 : B.1 206 = pu (pu (pu (A.1 206) 48 (Int32.ofNat s)) 47 0) 49 0 := by rw [← hB, rf_i_c, if_pos rfl, rf_i_c, if_pos rfl, rf_i_c, if_pos rfl, a46]
  have bz : ∀ z, z ≠ 206 → B.1 z = m.1 z := fun z q => by rw [← hB, rf_i_c, if_neg q, rf_i_c, if_neg q, rf_i_c, if_neg q]; exact az z q
  have b2 : B.2 = m.2 := by rw [← hB]; exact a2
  have b45 : B.1 206 45 = Int32.ofNat n := by rw [b206, pu_ne (by decide), pu_ne (by decide), pu_ne (by decide)]; exact a45
  have b46 : B.1 206 46 = Int32.ofNat s := by rw [b206, pu_ne (by decide), pu_ne (by decide), pu_ne (by decide)]; exact a46
  have b47 : B.1 206 47 = 0 := by rw [b206, pu_ne (by decide), pu_at]
  have b48 : B.1 206 48 = Int32.ofNat s := by rw [b206, pu_ne (by decide), pu_ne (by decide), pu_at]
  have bk : ∀ k, k < 46 ∨ 50 < k → B.1 206 k = m.1 206 k := fun k q => by rw [b206, pu_ne (by omega), pu_ne (by omega), pu_ne (by omega), a206, pu_ne (by omega)]
  clear hB b206
  rw [b46, byteAt_r hn b45 hS.2, b_sm, bz 234 (by decide)]
  by_cases c : n ≤ s
  · rw [if_neg (show ¬ s < n by omega), if_pos rfl]
    have eC : tC f n s = 0 := by unfold tC; rw [if_pos c]
    have eE : tE f n s = s := by unfold tE; rw [if_pos c]
    refine ⟨_, rfl, fun z q => by rw [rf_i_c, if_neg q]; exact bz z q, fun k q => by rw [rf_i_c, if_pos rfl, pu_ne (by omega)]; exact bk k q, fun z k _ => by rw [rf_i_l, b2], ?_, fun _ => ?_, ?_, fun q => ?_, fun q => ?_, fun q => ?_⟩
    · rw [rf_i_c, if_pos rfl, pu_ne (by decide)]; exact b48
    · rw [rf_i_c, if_pos rfl, pu_ne (by decide), eE]; exact b46
    · rw [rf_i_c, if_pos rfl, pu_at, eC]; rfl
    · rw [eC] at q; unfold sgn at q; omega
    · rw [eC] at q; omega
    · rw [eC] at q; omega
  · have sl : s < n := by omega
    have fm : ¬ f s = -1 := fun q => by have := (hb s).1; rw [q] at this; exact absurd this (by decide)
    rw [if_pos sl, hf s, if_neg fm, isLetter_r, b_sm]
    by_cases l : ltr (f s) = true
    · rw [if_pos l, if_neg o1]
      have eE : rn (fun k => ltr (f k)) (n - s) s = tE f n s := by unfold tE; rw [if_neg c, if_pos l]
      have eC : tC f n s = if tE f n s - s ≤ 8 then wcode (lts f (tE f n s - s) s) else 1 := by unfold tC; rw [if_neg c, if_pos l]
      obtain ⟨M, k1, k2, k3, k4, k5⟩ := next80_r (w := w) hn (n - s) rf_fuel s 0 (rf_l B 206 53 0) (by omega) (by unfold rf_fuel; omega) (by omega) b45 b46
      have c234 : (fun k => (rf_l B 206 53 0).1 234 k &&& 255) = f := by rw [rf_l_i, bz 234 (by decide)]; exact hf'
      have c234' : (fun k => ltr ((rf_l B 206 53 0).1 234 k &&& 255)) = (fun k => ltr (f k)) := by
        funext k
        exact congrArg ltr (congrFun c234 k)
      rw [c234', eE] at k1 k3 k5
      rw [c234] at k5
      rw [Nat.zero_add] at k1 k5
      rw [show (0 : Int32) = Int32.ofNat 0 from rfl, k1]
      have e3 : tC f n s ≠ 3 := by
        rw [eC]
        split
        · have := wc_lo (L := lts f (tE f n s - s) s); omega
        · decide
      have es : ¬ sgn (tC f n s) := by
        rw [eC]
        unfold sgn
        split
        · have := wc_lo (L := lts f (tE f n s - s) s); omega
        · decide
      have m2 : ∀ z k, ¬ (z = 206 ∧ k = 53) → M.2 z k = m.2 z k := fun z k q => by
        rw [k4 z k q, rf_l_c]
        by_cases e : z = 206
        · rw [if_pos e, pu_ne (fun e2 => q ⟨e, e2⟩), b2, e]
        · rw [if_neg e, b2]
      by_cases q : tE f n s - s ≤ 8
      · rw [if_neg (by omega)]
        have eW : tC f n s = wcode (lts f (tE f n s - s) s) := by rw [eC, if_pos q]
        have w1 := wc_lo (L := lts f (tE f n s - s) s)
        refine ⟨_, rfl, fun z y => by rw [rf_i_c, if_neg y, k2 z y]; exact bz z y, fun k y => by rw [rf_i_c, if_pos rfl, pu_ne (by omega), k3, pu_ne (by omega)]; exact bk k y, m2, ?_, fun _ => ?_, ?_, fun y => absurd y es, fun y => absurd y e3, fun y => ?_⟩
        · rw [rf_i_c, if_pos rfl, pu_ne (by decide), k3, pu_ne (by decide)]; exact b48
        · rw [rf_i_c, if_pos rfl, pu_ne (by decide), k3, pu_at]
        · rw [rf_i_c, if_pos rfl, pu_at]
          unfold srO
          rw [if_neg (by omega), if_neg (by omega), if_neg e3, if_pos (by omega)]
        · rw [rf_i_l, k5 (by omega), wl_pk, rf_l_c, if_pos rfl, pu_at]
      · rw [if_pos (by omega)]
        have e1 : tC f n s = 1 := by rw [eC, if_neg q]
        refine ⟨_, rfl, fun z y => by rw [k2 z y]; exact bz z y, fun k y => by rw [k3, pu_ne (by omega)]; exact bk k y, m2, ?_, fun y => absurd e1 y, ?_, fun y => absurd y es, fun y => absurd y e3, fun y => by omega⟩
        · rw [k3, pu_ne (by decide)]; exact b48
        · rw [k3, pu_ne (by decide), e1]; exact b47
    · rw [if_neg l, if_pos rfl, isDigit_r, b_sm]
      by_cases d : dgt (f s) = true
      · rw [if_pos d, if_neg o1]
        have eE : rn (fun k => dgt (f k)) (n - s) s = tE f n s := by unfold tE; rw [if_neg c, if_neg l, if_pos d]
        have eC : tC f n s = if tE f n s - s ≤ 7 then 3 else 1 := by unfold tC; rw [if_neg c, if_neg l, if_pos d]
        obtain ⟨M, X, k1, k2, k3, k4, k5⟩ := next169_r (w := w) hn (n - s) rf_fuel s 0 (rf_i B 206 50 0) (by omega) (by unfold rf_fuel; omega) (by omega) (by rw [rf_i_c, if_pos rfl, pu_ne (by decide)]; exact b45) (by rw [rf_i_c, if_pos rfl, pu_ne (by decide)]; exact b46)
        have c234 : (fun k => (rf_i B 206 50 0).1 234 k &&& 255) = f := by rw [rf_i_c, if_neg (by decide), bz 234 (by decide)]; exact hf'
        have c234' : (fun k => dgt ((rf_i B 206 50 0).1 234 k &&& 255)) = (fun k => dgt (f k)) := by
          funext k
          exact congrArg dgt (congrFun c234 k)
        have c206 : (rf_i B 206 50 0).1 206 = pu (B.1 206) 50 0 := by rw [rf_i_c, if_pos rfl]
        rw [c234', eE] at k1 k3 k5
        rw [c234, c206, pu_at] at k5
        rw [c206] at k3
        rw [Nat.zero_add] at k1 k5
        rw [show (0 : Int32) = Int32.ofNat 0 from rfl] at k1 ⊢
        rw [k1]
        have es : ¬ sgn (tC f n s) := by
          rw [eC]
          unfold sgn
          split <;> decide
        have e9 : ¬ 99 ≤ tC f n s := by
          rw [eC]
          split <;> decide
        have m2 : ∀ z k, M.2 z k = m.2 z k := fun z k => by rw [k4, rf_i_l, b2]
        by_cases q : tE f n s - s ≤ 7
        · rw [if_neg (by omega)]
          have e3 : tC f n s = 3 := by rw [eC, if_pos q]
          refine ⟨_, rfl, fun z y => by rw [rf_i_c, if_neg y, k2 z y, rf_i_c, if_neg y]; exact bz z y, fun k y => by rw [rf_i_c, if_pos rfl, pu_ne (by omega), k3, pu_ne (by omega), pu_ne (by omega), pu_ne (by omega)]; exact bk k y, fun z k _ => m2 z k, ?_, fun _ => ?_, ?_, fun y => absurd y es, fun y => ?_, fun y => absurd y e9⟩
          · rw [rf_i_c, if_pos rfl, pu_ne (by decide), k3, pu_ne (by decide), pu_ne (by decide), pu_ne (by decide)]; exact b48
          · rw [rf_i_c, if_pos rfl, pu_ne (by decide), k3, pu_ne (by decide), pu_at]
          · rw [rf_i_c, if_pos rfl, pu_at, e3]; rfl
          · rw [rf_i_c, if_pos rfl, pu_ne (by decide), k3, pu_at]; exact k5 q
        · rw [if_pos (by omega)]
          have e1 : tC f n s = 1 := by rw [eC, if_neg q]
          refine ⟨_, rfl, fun z y => by rw [k2 z y, rf_i_c, if_neg y]; exact bz z y, fun k y => by rw [k3, pu_ne (by omega), pu_ne (by omega), pu_ne (by omega)]; exact bk k y, fun z k _ => m2 z k, ?_, fun y => absurd e1 y, ?_, fun y => absurd y es, fun y => by omega, fun y => absurd y e9⟩
          · rw [k3, pu_ne (by decide), pu_ne (by decide), pu_ne (by decide)]; exact b48
          · rw [k3, pu_ne (by decide), pu_ne (by decide), pu_ne (by decide), e1]; exact b47
      · rw [if_neg d, if_pos rfl, mark_r, b_sm]
        have eE : tE f n s = s + 1 := by unfold tE; rw [if_neg c, if_neg l, if_neg d]
        have eC : tC f n s = if isSg (f s) = true then (f s).toNatClampNeg else 1 := by unfold tC; rw [if_neg c, if_neg l, if_neg d]
        by_cases g : isSg (f s) = true
        · obtain ⟨g1, g2⟩ := isSg_n g
          have eS : tC f n s = (f s).toNatClampNeg := by rw [eC, if_pos g]
          rw [if_pos g, if_neg o1]
          have d206 : ∀ x y z : Int32, ∀ k, (rf_i (rf_i (rf_i B 206 47 x) 206 49 y) 206 46 z).1 206 k = pu (pu (pu (B.1 206) 47 x) 49 y) 46 z k := fun x y z k => by rw [rf_i_c, if_pos rfl, rf_i_c, if_pos rfl, rf_i_c, if_pos rfl]
          have d46 : (rf_i (rf_i B 206 47 4) 206 49 (f s)).1 206 46 = Int32.ofNat s := by rw [rf_i_c, if_pos rfl, pu_ne (by decide), rf_i_c, if_pos rfl, pu_ne (by decide)]; exact b46
          rw [d46, of_succ]
          unfold sgn at g1
          refine ⟨_, rfl, fun z y => by rw [rf_i_c, if_neg y, rf_i_c, if_neg y, rf_i_c, if_neg y]; exact bz z y, fun k y => by rw [d206, pu_ne (by omega), pu_ne (by omega), pu_ne (by omega)]; exact bk k y, fun z k _ => by rw [rf_i_l, rf_i_l, rf_i_l, b2], ?_, fun _ => ?_, ?_, fun y => ?_, fun y => by omega, fun y => by omega⟩
          · rw [d206, pu_ne (by decide), pu_ne (by decide), pu_ne (by decide)]; exact b48
          · rw [d206, pu_at, eE]
          · rw [d206, pu_ne (by decide), pu_ne (by decide), pu_at, eS]
            unfold srO
            rw [if_neg (by omega), if_neg (by omega), if_neg (by omega), if_neg (by omega)]
          · rw [d206, pu_ne (by decide), pu_at, eS]; exact g2
        · rw [if_neg g, if_pos rfl]
          have e1 : tC f n s = 1 := by rw [eC, if_neg g]
          refine ⟨_, rfl, bz, bk, fun z k _ => by rw [b2], b48, fun y => absurd e1 y, by rw [e1]; exact b47, fun y => ?_, fun y => by omega, fun y => by omega⟩
          rw [e1] at y; unfold sgn at y; omega
/-- the class's test of a word, on a token -/
theorem isW_c {w : rf_w} {M : rf_m} {f : Nat → Int32} {n s i : Nat} (hn : n ≤ 300) (hs : s ≤ n) (hi : i < 16) (h15 : M.1 15 = f) (h8 : M.1 14 8 = Int32.ofNat s) (h9 : M.1 14 9 = Int32.ofNat (tE f n s)) (h10 : M.1 14 10 = kdO (tC f n s)) : g_X8_isWord w M (1000001 + i) = some (bi (tC f n s = 101 + i), M) := by
  have hsw : sw (1000001 + i) = true := by
    unfold sw
    rw [Bool.and_eq_true]
    exact ⟨Nat.ble_eq.mpr (by omega), Nat.ble_eq.mpr (by omega)⟩
  have hE := tE_rng (f := f) hs
  unfold g_X8_isWord
  rw [sw_S hsw, g_t, h10]
  by_cases c : 99 ≤ tC f n s
  · obtain ⟨c1, c2, c3, c4⟩ := tC_word c
    rw [if_pos (show kdO (tC f n s) = 2 by unfold kdO; rw [if_pos c]), length_s hsw, b_sm, h9, h8, of_sub hE.1]
    have hl := (sw_B i (by omega)).1
    by_cases q : tE f n s - s = (rf_sB (1000001 + i)).length
    · rw [if_pos (congrArg Int32.ofNat q), isWord28_c hsw h8 (by omega), h15, ← q, c1]
      congr 2
      exact bi_congr (wc_iff hi).symm
    · rw [if_neg (fun z => q ((of_inj (by omega) (by omega)).mp z))]
      rw [bi_f]
      intro z
      rw [c1] at z
      have := (wc_iff hi).mp z
      exact q (by rw [← this, lts_len])
  · rw [if_neg]
    · rw [bi_f (by omega)]
    · unfold kdO
      rw [if_neg c]
      intro z
      have r := tC_rng (f := f) (n := n) (s := s)
      rw [show (2 : Int32) = Int32.ofNat 2 from rfl, of_inj (by omega) (by omega)] at z
      unfold sgn at r
      omega
/-- the reference's -/
theorem isW_r {w : rf_w} {M : rf_m} {f : Nat → Int32} {n s i a : Nat} (hi : i < 16) (ha : sw a = true) (hB : rf_sB a = rf_sB (1000001 + i)) (h47 : M.1 206 47 = srO (tC f n s)) (h53 : 99 ≤ tC f n s → M.2 206 53 = pkW (lts f (tE f n s - s) s) 0) : g_X14_isWord w M a = some (bi (tC f n s = 101 + i), M) := by
  unfold g_X14_isWord
  rw [sw_S ha, g_t, h47]
  have r := tC_rng (f := f) (n := n) (s := s)
  by_cases c : 99 ≤ tC f n s
  · obtain ⟨c1, c2, c3, c4⟩ := tC_word c
    rw [if_pos (show srO (tC f n s) = 2 by unfold srO; rw [if_neg (by omega), if_neg (by omega), if_neg (by omega), if_pos c]), wordOf_r ha, b_sm, h53 c, hB]
    have hl := sw_B i (by omega)
    have h3 : ∀ b, b ∈ rf_sB (1000001 + i) → ltr b = true := fun b hb => (sw_E i (by omega) b hb).1
    by_cases q : lts f (tE f n s - s) s = rf_sB (1000001 + i)
    · rw [if_pos (cmp_eq0.mpr (by rw [q])), bi_t]
      rw [c1]
      exact (wc_iff hi).mpr q
    · rw [if_neg, bi_f]
      · intro z
        rw [c1] at z
        exact q ((wc_iff hi).mp z)
      · intro z
        exact q (pk_inj c3 h3 (by rw [lts_len]; exact c2) hl.1 (cmp_eq0.mp z))
  · rw [if_neg]
    · rw [bi_f (by omega)]
    · unfold srO
      unfold sgn at r
      intro z
      by_cases e0 : tC f n s = 0
      · rw [if_pos e0] at z; exact absurd z (by decide)
      · rw [if_neg e0] at z
        by_cases e1 : tC f n s = 1
        · rw [if_pos e1] at z; exact absurd z (by decide)
        · rw [if_neg e1] at z
          by_cases e3 : tC f n s = 3
          · rw [if_pos e3] at z; exact absurd z (by decide)
          · rw [if_neg e3, if_neg c] at z; exact absurd z (by decide)
/-- the reference's test of a sign -/
theorem is_r {w : rf_w} {M : rf_m} {f : Nat → Int32} {n s c : Nat} (hc : sgn c) (h47 : M.1 206 47 = srO (tC f n s)) (h49 : sgn (tC f n s) → M.1 206 49 = Int32.ofNat (tC f n s)) : g_X14_is w M (Int32.ofNat c) = some (bi (tC f n s = c), M) := by
  unfold g_X14_is
  rw [h47]
  have r := tC_rng (f := f) (n := n) (s := s)
  have hc' := hc
  unfold sgn at hc'
  by_cases g : sgn (tC f n s)
  · have g' := g
    unfold sgn at g'
    rw [if_pos (show srO (tC f n s) = 4 by unfold srO; rw [if_neg (by omega), if_neg (by omega), if_neg (by omega), if_neg (by omega)]), h49 g]
    by_cases q : tC f n s = c
    · rw [if_pos (by rw [q]), bi_t q]
    · rw [if_neg (fun z => q ((of_inj (by omega) (by omega)).mp z)), bi_f q]
  · rw [if_neg, bi_f]
    · intro z; rw [z] at g; exact g hc
    · unfold srO
      intro z
      by_cases e0 : tC f n s = 0
      · rw [if_pos e0] at z; exact absurd z (by decide)
      · rw [if_neg e0] at z
        by_cases e1 : tC f n s = 1
        · rw [if_pos e1] at z; exact absurd z (by decide)
        · rw [if_neg e1] at z
          by_cases e3 : tC f n s = 3
          · rw [if_pos e3] at z; exact absurd z (by decide)
          · rw [if_neg e3] at z
            by_cases e9 : 99 ≤ tC f n s
            · rw [if_pos e9] at z; exact absurd z (by decide)
            · rcases r with r | r | r | r | r
              · exact e0 r
              · exact e1 r
              · exact e3 r
              · exact g r
              · exact e9 r.1
/-- the class's kind is a sign's byte, or another small number -/
theorem kd_iff {f : Nat → Int32} {n s c : Nat} (hc : c < 99) (h2 : c ≠ 2) : kdO (tC f n s) = Int32.ofNat c ↔ tC f n s = c := by
  have r := tC_rng (f := f) (n := n) (s := s)
  unfold sgn at r
  unfold kdO
  by_cases c9 : 99 ≤ tC f n s
  · rw [if_pos c9, show (2 : Int32) = Int32.ofNat 2 from rfl, of_inj (by omega) (by omega)]; omega
  · rw [if_neg c9, of_inj (by omega) (by omega)]
theorem kd_2 {f : Nat → Int32} {n s : Nat} : kdO (tC f n s) = 2 ↔ 99 ≤ tC f n s := by
  have r := tC_rng (f := f) (n := n) (s := s)
  unfold sgn at r
  unfold kdO
  by_cases c9 : 99 ≤ tC f n s
  · rw [if_pos c9]; exact ⟨fun _ => c9, fun _ => rfl⟩
  · rw [if_neg c9, show (2 : Int32) = Int32.ofNat 2 from rfl, of_inj (by omega) (by omega)]; omega
end PBTokU
