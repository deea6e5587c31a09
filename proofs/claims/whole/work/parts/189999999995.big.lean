/-! the class's whole numbers: what their limbs say -/
section PBBig
def pB : Nat → Int
  | 0 => 1
  | n + 1 => pB n * 1073741824
theorem pB_pos : ∀ n, 0 < pB n := by
  intro n
  induction n with
  | zero => decide
  | succ n ih => show 0 < pB n * 1073741824; omega
theorem pB_add (a : Nat) : ∀ b, pB (a + b) = pB a * pB b := by
  intro b
  induction b with
  | zero => exact (Int.mul_one _).symm
  | succ b ih =>
    show pB (a + b) * 1073741824 = pB a * (pB b * 1073741824)
    rw [ih, Int.mul_assoc]
theorem pB_le {a b : Nat} (h : a ≤ b) : pB a ≤ pB b := by
  have e : b = a + (b - a) := by omega
  rw [e, pB_add]
  have := pB_pos a
  have := pB_pos (b - a)
  have : pB a * 1 ≤ pB a * pB (b - a) := Int.mul_le_mul_of_nonneg_left (by omega) (by omega)
  omega
theorem pB_lt {a b : Nat} (h : pB a < pB b) : a < b := by
  refine Classical.byContradiction fun q => ?_
  have := pB_le (a := b) (b := a) (by omega)
  omega
def lv (f : Nat → Int64) : Nat → Int
  | 0 => 0
  | n + 1 => lv f n + (f n).toInt * pB n
def lmb (f : Nat → Int64) (n : Nat) : Prop := ∀ i, i < n → 0 ≤ (f i).toInt ∧ (f i).toInt < 1073741824
theorem lv_s {f : Nat → Int64} {n : Nat} : lv f (n + 1) = lv f n + (f n).toInt * pB n := rfl
theorem lv_c {f g : Nat → Int64} : ∀ n, (∀ i, i < n → f i = g i) → lv f n = lv g n := by
  intro n
  induction n with
  | zero => intro _; rfl
  | succ n ih => intro h; rw [lv_s, lv_s, ih (fun i hi => h i (by omega)), h n (by omega)]
theorem lv_rng {f : Nat → Int64} : ∀ n, lmb f n → 0 ≤ lv f n ∧ lv f n < pB n := by
  intro n
  induction n with
  | zero =>
    intro _
    have e : lv f 0 = 0 := rfl
    have e2 : pB 0 = 1 := rfl
    omega
  | succ n ih =>
    intro h
    obtain ⟨h1, h2⟩ := ih (fun i hi => h i (by omega))
    obtain ⟨a, b⟩ := h n (by omega)
    have p := pB_pos n
    have u : (f n).toInt * pB n ≤ 1073741823 * pB n := Int.mul_le_mul_of_nonneg_right (by omega) (by omega)
    have v : 0 ≤ (f n).toInt * pB n := Int.mul_nonneg a (by omega)
    have e : pB (n + 1) = pB n * 1073741824 := rfl
    rw [lv_s]
    omega
theorem lv_top {f : Nat → Int64} {n : Nat} (h : lmb f (n + 1)) (h0 : (f n).toInt ≠ 0) : pB n ≤ lv f (n + 1) := by
  obtain ⟨h1, h2⟩ := lv_rng n (fun i hi => h i (by omega))
  obtain ⟨a, b⟩ := h n (by omega)
  have p := pB_pos n
  have u : 1 * pB n ≤ (f n).toInt * pB n := Int.mul_le_mul_of_nonneg_right (by omega) (by omega)
  rw [lv_s]
  omega
theorem lmb_c {f g : Nat → Int64} {n : Nat} (h : lmb f n) (e : ∀ i, i < n → g i = f i) : lmb g n := fun i hi => by rw [e i hi]; exact h i hi
theorem lmb_le {f : Nat → Int64} {n k : Nat} (h : lmb f n) (hk : k ≤ n) : lmb f k := fun i hi => h i (by omega)
theorem lmb_s {f : Nat → Int64} {n : Nat} (h : lmb f n) (h1 : 0 ≤ (f n).toInt) (h2 : (f n).toInt < 1073741824) : lmb f (n + 1) := fun i hi => by
  by_cases e : i = n
  · rw [e]; exact ⟨h1, h2⟩
  · exact h i (by omega)
/-- a Big's cells -/
def bC (w : rf_w) (a : Nat) : Prop := rf_isO w a 1 = true ∧ rf_isR w a 2 (a + 1) = true ∧ rf_isA w (a + 1) .long 10 = true
theorem bC_g {α : Type} {w : rf_w} {a : Nat} {k : Option α} (h : bC w a) : rf_g (rf_isO w a 1) (rf_g (rf_isR w a 2 (a + 1)) (rf_g (rf_isA w (a + 1) .long 10) k)) = k := by rw [h.1, h.2.1, h.2.2]; rfl
/-- size n, and no limb 0 at the end -/
def bgs (m : rf_m) (a n : Nat) : Prop := n ≤ 10 ∧ m.1 a 0 = Int32.ofNat n ∧ lmb (m.2 (a + 1)) n ∧ ∀ k, n = k + 1 → (m.2 (a + 1) k).toInt ≠ 0
def bg (m : rf_m) (a : Nat) (v : Int) : Prop := ∃ n, bgs m a n ∧ ((m.1 a 1 = 0 ∧ v = lv (m.2 (a + 1)) n) ∨ (m.1 a 1 = 1 ∧ v = - lv (m.2 (a + 1)) n ∧ 0 < n))
def bF1 (a : Nat) (m m' : rf_m) : Prop := (∀ z, z ≠ a → m'.1 z = m.1 z) ∧ m'.2 = m.2
def bF (a : Nat) (m m' : rf_m) : Prop := (∀ z, z ≠ a → m'.1 z = m.1 z) ∧ ∀ z, z ≠ a + 1 → m'.2 z = m.2 z
theorem bF1_F {a : Nat} {m m' : rf_m} (h : bF1 a m m') : bF a m m' := ⟨h.1, fun z _ => by rw [h.2]⟩
theorem bF_refl {a : Nat} {m : rf_m} : bF a m m := ⟨fun _ _ => rfl, fun _ _ => rfl⟩
theorem bF_trans {a : Nat} {m m' m'' : rf_m} (h : bF a m m') (k : bF a m' m'') : bF a m m'' := ⟨fun z hz => (k.1 z hz).trans (h.1 z hz), fun z hz => (k.2 z hz).trans (h.2 z hz)⟩
theorem bF_i {a k : Nat} {m : rf_m} {x : Int32} : bF a m (rf_i m a k x) := ⟨fun z hz => by rw [rf_i_c, if_neg hz], fun _ _ => rfl⟩
theorem bF_l {a k : Nat} {m : rf_m} {x : Int64} : bF a m (rf_l m (a + 1) k x) := ⟨fun _ _ => rfl, fun z hz => by rw [rf_l_c, if_neg hz]⟩
theorem bg_c {m m' : rf_m} {a : Nat} {v : Int} (h : bg m a v) (e1 : m'.1 a = m.1 a) (e2 : m'.2 (a + 1) = m.2 (a + 1)) : bg m' a v := by
  unfold bg bgs at *
  rw [e1, e2]
  exact h
theorem bg_F {m m' : rf_m} {a b : Nat} {v : Int} (h : bg m b v) (f : bF a m m') (ne : b ≠ a) : bg m' b v := bg_c h (f.1 b ne) (f.2 (b + 1) (by omega))
/-- size against worth -/
theorem bgs_rng {m : rf_m} {a n : Nat} (h : bgs m a n) : 0 ≤ lv (m.2 (a + 1)) n ∧ lv (m.2 (a + 1)) n < pB n ∧ (∀ k, n = k + 1 → pB k ≤ lv (m.2 (a + 1)) n) := by
  obtain ⟨h1, h2, h3, h4⟩ := h
  have := lv_rng n h3
  refine ⟨this.1, this.2, fun k hk => ?_⟩
  subst hk
  exact lv_top h3 (h4 k rfl)
theorem bgs_le {m : rf_m} {a n p : Nat} (h : bgs m a n) (hp : lv (m.2 (a + 1)) n < pB p) : n ≤ p := by
  cases n with
  | zero => omega
  | succ k =>
    have := (bgs_rng h).2.2 k rfl
    have := pB_lt (Int.lt_of_le_of_lt this hp)
    omega
theorem bgs_0 {m : rf_m} {a n : Nat} (h : bgs m a n) : n = 0 ↔ lv (m.2 (a + 1)) n = 0 := by
  constructor
  · intro e; subst e; rfl
  · intro e
    have := bgs_le (p := 0) h (by rw [e]; decide)
    omega
theorem bg_u {m : rf_m} {a : Nat} {v v' : Int} (h : bg m a v) (h' : bg m a v') : v = v' := by
  obtain ⟨n, h1, h2⟩ := h
  obtain ⟨n', h1', h2'⟩ := h'
  have e : n = n' := (of_inj (by have := h1.1; omega) (by have := h1'.1; omega)).mp (h1.2.1.symm.trans h1'.2.1)
  subst e
  rcases h2 with ⟨a1, a2⟩ | ⟨a1, a2, _⟩ <;> rcases h2' with ⟨b1, b2⟩ | ⟨b1, b2, _⟩
  · rw [a2, b2]
  · rw [a1] at b1; exact absurd b1 (by decide)
  · rw [a1] at b1; exact absurd b1 (by decide)
  · rw [a2, b2]
theorem settle10 {w : rf_w} {a : Nat} {s : Int32} (hb : bC w a) (hs : s = 0 ∨ s = 1) : ∀ N f (M : rf_m), N ≤ 10 → N < f → lmb (M.2 (a + 1)) N → M.1 a 0 = Int32.ofNat N → ∃ M', g_X1_settle_10 w f a s M = some M' ∧ bF1 a M M' ∧ bg M' a (if s = 0 then lv (M.2 (a + 1)) N else - lv (M.2 (a + 1)) N) := by
  intro N
  induction N with
  | zero =>
    intro f M hN hf hl h0
    obtain ⟨f, rfl⟩ : ∃ g, f = g + 1 := ⟨f - 1, by omega⟩
    refine ⟨rf_i M a 1 0, ?_, ⟨fun z hz => by rw [rf_i_c, if_neg hz], rfl⟩, 0, ⟨by omega, by rw [rf_i_c, if_pos rfl, pu_ne (by decide)]; exact h0, fun i hi => by omega, fun k hk => by omega⟩, Or.inl ⟨by rw [rf_i_c, if_pos rfl, pu_at], ?_⟩⟩
    · show g_X1_settle_10_b w _ _ _ M = _
      unfold g_X1_settle_10_b
      have z0 : Int32.ofNat 0 ≤ 0 := by decide
      rw [bC_g hb, h0, if_pos z0, if_pos z0]
      split <;> rfl
    · show (if s = 0 then (0 : Int) else - 0) = 0
      split <;> rfl
  | succ N ih =>
    intro f M hN hf hl h0
    obtain ⟨f, rfl⟩ : ∃ g, f = g + 1 := ⟨f - 1, by omega⟩
    have z0 : ¬ Int32.ofNat (N + 1) ≤ 0 := fun z => by have := (of_le (b := 0) (by omega) (by omega)).mp z; omega
    have st : g_X1_settle_10 w (f + 1) a s M = g_X1_settle_10_b w (g_X1_settle_10 w f) a s M := rfl
    by_cases q : (M.2 (a + 1) N).toInt = 0
    · obtain ⟨M', k1, k2, k3⟩ := ih f (rf_i M a 0 (Int32.ofNat N)) (by omega) (by omega) (lmb_le hl (by omega)) (by rw [rf_i_c, if_pos rfl, pu_at])
      refine ⟨M', ?_, ⟨fun z hz => by rw [k2.1 z hz, rf_i_c, if_neg hz], by rw [k2.2]; rfl⟩, ?_⟩
      · rw [st]
        unfold g_X1_settle_10_b
        have c0 : lg_cmp (M.2 (a + 1) N) 0 = 0 := cmp_eq0.mpr (l_eq.mpr q)
        rw [bC_g hb, h0, if_neg z0, ofm1', gof (n := N) (by omega) (by decide), g_t, tn_of (n := N) (by omega), if_pos c0, k1]
      · have e : lv (M.2 (a + 1)) (N + 1) = lv (M.2 (a + 1)) N := by rw [lv_s, q, Int.zero_mul, Int.add_zero]
        rw [e]
        exact k3
    · have c0 : ¬ lg_cmp (M.2 (a + 1) N) 0 = 0 := fun z => q (l_eq.mp (cmp_eq0.mp z))
      have q2 : ∀ k, N + 1 = k + 1 → (M.2 (a + 1) k).toInt ≠ 0 := fun k hk => by
        have : k = N := by omega
        rw [this]; exact q
      have gs : ∀ x : Int32, bgs (rf_i M a 1 x) a (N + 1) := fun x => ⟨by omega, by rw [rf_i_c, if_pos rfl, pu_ne (by decide)]; exact h0, hl, q2⟩
      rcases hs with hs | hs
      · subst hs
        refine ⟨rf_i M a 1 0, ?_, ⟨fun z hz => by rw [rf_i_c, if_neg hz], rfl⟩, N + 1, gs 0, Or.inl ⟨by rw [rf_i_c, if_pos rfl, pu_at], by rw [if_pos rfl]; rfl⟩⟩
        rw [st]
        unfold g_X1_settle_10_b
        rw [bC_g hb, h0, if_neg z0, ofm1', gof (n := N) (by omega) (by decide), g_t, tn_of (n := N) (by omega), if_neg c0, if_pos rfl]
      · subst hs
        have o1 : ¬ (1 : Int32) = 0 := by decide
        refine ⟨rf_i M a 1 1, ?_, ⟨fun z hz => by rw [rf_i_c, if_neg hz], rfl⟩, N + 1, gs 1, Or.inr ⟨by rw [rf_i_c, if_pos rfl, pu_at], by rw [if_neg o1]; rfl, by omega⟩⟩
        rw [st]
        unfold g_X1_settle_10_b
        rw [bC_g hb, h0, if_neg z0, ofm1', gof (n := N) (by omega) (by decide), g_t, tn_of (n := N) (by omega), if_neg c0, if_neg o1, if_neg z0]
theorem settle_c {w : rf_w} {m : rf_m} {a k N : Nat} {s : Int32} (hb : bC w a) (hs : s = 0 ∨ s = 1) (hk : k < 1000) (hN : N = if k ≤ 10 then k else 10) (hl : lmb (m.2 (a + 1)) N) : ∃ m', g_X1_settle w m a (Int32.ofNat k) s = some m' ∧ bF1 a m m' ∧ bg m' a (if s = 0 then lv (m.2 (a + 1)) N else - lv (m.2 (a + 1)) N) := by
  obtain ⟨F, hF, hFb⟩ := fuel_ex
  have hN10 : N ≤ 10 := by rw [hN]; split <;> omega
  obtain ⟨M', k1, k2, k3⟩ := settle10 hb hs N F (rf_i m a 0 (Int32.ofNat N)) hN10 (by omega) hl (by rw [rf_i_c, if_pos rfl, pu_at])
  refine ⟨M', ?_, ⟨fun z hz => by rw [k2.1 z hz, rf_i_c, if_neg hz], by rw [k2.2]; rfl⟩, k3⟩
  unfold g_X1_settle
  have e : (if (10 : Int32) < Int32.ofNat k then (10 : Int32) else Int32.ofNat k) = Int32.ofNat N := by
    by_cases q : k ≤ 10
    · rw [if_pos q] at hN
      rw [if_neg (fun z => by have := (of_lt (a := 10) (by omega) (by omega)).mp z; omega), hN]
    · rw [if_neg q] at hN
      have c : (10 : Int32) < Int32.ofNat k := (of_lt (a := 10) (b := k) (by omega) (by omega)).mpr (by omega)
      rw [if_pos c, hN]
      rfl
  rw [bC_g hb, min_eq, b_sm, e, hF, k1]
/-- a long -/
theorem setLong_c {w : rf_w} {m : rf_m} {a : Nat} {x : Int64} (hb : bC w a) (hx : -9223372036854775808 < x.toInt) : ∃ m', g_X1_setLong w m a x = some m' ∧ bF a m m' ∧ bg m' a x.toInt := by
  obtain ⟨F, hF, hFb⟩ := fuel_ex
  -- the limbs
  have key : ∀ r n f (M : rf_m) (l : Int64), n + r = 3 → r < f → bF a m M → M.1 a 0 = Int32.ofNat n → lmb (M.2 (a + 1)) n → 0 ≤ l.toInt → l.toInt < pB r → (l.toInt = 0 → ∀ k, n = k + 1 → (M.2 (a + 1) k).toInt ≠ 0) → ∃ M' n', g_X1_setLong_25 w f a l M = some M' ∧ bF a m M' ∧ bgs M' a n' ∧ M'.1 a 1 = M.1 a 1 ∧ lv (M'.2 (a + 1)) n' = lv (M.2 (a + 1)) n + l.toInt * pB n := by
    intro r
    induction r with
    | zero =>
      intro n f M l hn hf fM h0 hl l0 l1 ht
      obtain ⟨f, rfl⟩ : ∃ g, f = g + 1 := ⟨f - 1, by omega⟩
      have e : l.toInt = 0 := by have : pB 0 = 1 := rfl; omega
      refine ⟨M, n, ?_, fM, ⟨by omega, h0, hl, ht e⟩, rfl, by rw [e, Int.zero_mul, Int.add_zero]⟩
      show g_X1_setLong_25_b w _ _ _ M = _
      unfold g_X1_setLong_25_b
      rw [bC_g hb, if_pos (cmp_le.mpr (by rw [l_0]; omega))]
    | succ r ih =>
      intro n f M l hn hf fM h0 hl l0 l1 ht
      obtain ⟨f, rfl⟩ : ∃ g, f = g + 1 := ⟨f - 1, by omega⟩
      have st : g_X1_setLong_25 w (f + 1) a l M = g_X1_setLong_25_b w (g_X1_setLong_25 w f) a l M := rfl
      by_cases e : l.toInt = 0
      · refine ⟨M, n, ?_, fM, ⟨by omega, h0, hl, ht e⟩, rfl, by rw [e, Int.zero_mul, Int.add_zero]⟩
        rw [st]
        unfold g_X1_setLong_25_b
        rw [bC_g hb, if_pos (cmp_le.mpr (by rw [l_0]; omega))]
      · have sh := shrS (x := l) (s := 30) (by decide) l0
        have p30 : (2 : Int) ^ 30 = 1073741824 := by decide
        rw [p30] at sh
        have an := and30 (x := l)
        generalize hL : ((Int64.toUInt64 l >>> ((Int32.toInt64 30).toUInt64 &&& Int64.toUInt64 63)).toInt64) = l' at *
        have sh : l'.toInt = l.toInt / 1073741824 := by rw [← sh, ← hL]
        have pe : pB (r + 1) = pB r * 1073741824 := rfl
        have pn : pB (n + 1) = pB n * 1073741824 := rfl
        have o0 : 0 ≤ (l &&& 1073741823).toInt ∧ (l &&& 1073741823).toInt < 1073741824 := by rw [an]; omega
        obtain ⟨M', n', k1, k2, k3, k4, k5⟩ := ih (n + 1) f (rf_i (rf_l M (a + 1) n (l &&& 1073741823)) a 0 (Int32.ofNat (n + 1))) l' (by omega) (by omega) (bF_trans fM (bF_trans bF_l bF_i)) (by rw [rf_i_c, if_pos rfl, pu_at]) (by
          rw [rf_i_l, rf_l_c, if_pos rfl]
          refine lmb_s (lmb_c hl (fun i hi => pu_ne (by omega))) ?_ ?_
          · rw [pu_at]; exact o0.1
          · rw [pu_at]; exact o0.2) (by rw [sh]; omega) (by rw [sh]; omega) (fun z k hk => by
          have : k = n := by omega
          subst this
          rw [rf_i_l, rf_l_c, if_pos rfl, pu_at, an]
          rw [sh] at z
          omega)
        refine ⟨M', n', ?_, k2, k3, by rw [k4, rf_i_c, if_pos rfl, pu_ne (by decide)]; rfl, ?_⟩
        · rw [st]
          unfold g_X1_setLong_25_b rf_vl
          have g10 : ¬ (10 : Int32) ≤ Int32.ofNat n := fun z => by have := (of_le (a := 10) (by omega) (by omega)).mp z; omega
          have h0' : (rf_l M (a + 1) n (l &&& 1073741823)).1 a 0 = Int32.ofNat n := h0
          rw [bC_g hb, if_neg (fun z => by have := cmp_le.mp z; rw [l_0] at this; omega), h0, if_neg g10, gof (n := n) (by omega) (by decide), g_t]
          dsimp only
          rw [tn_of (n := n) (by omega), h0', of_succ, hL, k1]
        · rw [k5, rf_i_l, rf_l_c, if_pos rfl, lv_s, pu_at, an, sh, pn, lv_c n (fun i hi => pu_ne (f := M.2 (a + 1)) (k := n) (x := (l &&& 1073741823)) (by omega))]
          have d := Int.emod_add_mul_ediv l.toInt 1073741824
          generalize l.toInt % 1073741824 = R at *
          generalize l.toInt / 1073741824 = Q at *
          rw [← d]
          grind
  have p3 : pB 3 = 1237940039285380274899124224 := by decide
  unfold g_X1_setLong g_X1_setLong_12
  rw [bC_g hb, bC_g hb, bC_g hb]
  have rx := rngL x
  by_cases q : (0 : Int32) ≤ lg_cmp x 0
  · have q' := cmp_nn.mp q
    rw [l_0] at q'
    obtain ⟨M', n', k1, k2, k3, k4, k5⟩ := key 3 0 F (rf_i (rf_i m a 1 0) a 0 0) x (by omega) (by omega) (bF_trans bF_i bF_i) (by rw [rf_i_c, if_pos rfl, pu_at]; rfl) (fun i hi => by omega) q' (by omega) (fun _ k hk => by omega)
    refine ⟨M', ?_, k2, n', k3, Or.inl ⟨by rw [k4, rf_i_c, if_pos rfl, pu_ne (by decide), rf_i_c, if_pos rfl, pu_at], ?_⟩⟩
    · unfold g_absL
      rw [if_pos q, if_pos q, rf01_0, g_t, b_sm, hF, k1]
    · rw [k5]
      show x.toInt = 0 + x.toInt * 1
      omega
  · have q' : x.toInt < 0 := by
      have : ¬ (0 : Int64).toInt ≤ x.toInt := fun z => q (cmp_nn.mpr z)
      rw [l_0] at this
      omega
    have ng : (-x).toInt = - x.toInt := by
      rw [Int64.toInt_neg, bm64 (by omega) (by omega)]
    obtain ⟨M', n', k1, k2, k3, k4, k5⟩ := key 3 0 F (rf_i (rf_i m a 1 1) a 0 0) (-x) (by omega) (by omega) (bF_trans bF_i bF_i) (by rw [rf_i_c, if_pos rfl, pu_at]; rfl) (fun i hi => by omega) (by omega) (by omega) (fun _ k hk => by omega)
    have lvv : lv (M'.2 (a + 1)) n' = - x.toInt := by
      rw [k5, ng]
      show 0 + (- x.toInt) * 1 = _
      omega
    refine ⟨M', ?_, k2, n', k3, Or.inr ⟨by rw [k4, rf_i_c, if_pos rfl, pu_ne (by decide), rf_i_c, if_pos rfl, pu_at], by rw [lvv]; omega, ?_⟩⟩
    · unfold g_absL
      rw [if_neg q, if_neg q, rf01_1, g_t, b_sm, hF, k1, bC_g hb, bC_g hb]
    · have := (bgs_0 k3)
      have : ¬ n' = 0 := fun z => by have := this.mp z; omega
      omega
end PBBig
