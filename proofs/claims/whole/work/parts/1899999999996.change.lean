/-! change: what was solved is told -/
section PBChange
theorem mgm (x y : Int) : mg (x * y) = mg x * mg y := by
  unfold mg
  rcases Int.lt_or_le x 0 with h1 | h1 <;> rcases Int.lt_or_le y 0 with h2 | h2
  · have := Int.mul_pos_of_neg_of_neg h1 h2
    rw [if_neg (by omega), if_pos h1, if_pos h2]; grind
  · rcases Int.lt_or_le 0 y with h3 | h3
    · have := Int.mul_neg_of_neg_of_pos h1 h3
      rw [if_pos this, if_pos h1, if_neg (by omega)]; grind
    · have : y = 0 := by omega
      subst this
      rw [Int.mul_zero, if_neg (by omega), if_pos h1]; omega
  · rcases Int.lt_or_le 0 x with h3 | h3
    · have := Int.mul_neg_of_pos_of_neg h3 h2
      rw [if_pos this, if_neg (by omega), if_pos h2]; grind
    · have : x = 0 := by omega
      subst this
      rw [Int.zero_mul, if_neg (by omega)]; omega
  · have := Int.mul_nonneg h1 h2
    rw [if_neg (by omega), if_neg (by omega), if_neg (by omega)]
theorem mg_add (x y : Int) : mg (x + y) ≤ mg x + mg y := by unfold mg; split <;> split <;> split <;> omega
theorem mg_le {v B : Int} : mg v < B ↔ (-B < v ∧ v < B) := by unfold mg; split <;> omega
/-- what both say of an angle's change: its numerator -/
def sumA (FF : Nat → Int) (b : Int32) (n : Nat) : Int := sm n (fun i => if bt b i = true then FF i else 0)
def numA (FF : Nat → Int) (m : rf_m) (a : Nat) : Int := sumA FF (m.1 58 a) 6 * (m.1 59 a).toInt
def adj1 (m : rf_m) (n : Nat) (FF : Nat → Int) (D : Int) : Prop := n ≤ 6 ∧ (∀ i, i < n → bg m (163 + 2 * i) (FF i) ∧ mg (FF i) < 42535295865117307932921825928971026432) ∧ bg m 63 D ∧ 0 < D ∧ D < 1329227995784915872903807060280344576 ∧ w6 (m.1 259) 0 = D ∧ ∀ a, a < 80 → (∀ i, n ≤ i → i < 32 → bt (m.1 58 a) i = false) ∧ (0 ≤ (m.1 59 a).toInt ∧ (m.1 59 a).toInt ≤ 2520) ∧ m.1 263 a = bi (m.1 58 a ≠ 0) ∧ (m.1 58 a ≠ 0 → wd (m.1 264) (6 * a) (numA FF m a))
def JAdj (m : rf_m) : Prop := (m.1 206 88 = 0 ∧ ∀ a, a < 80 → m.1 58 a = 0) ∨ (m.1 206 88 = 1 ∧ ∃ n FF D, adj1 m n FF D)
/-- the class's work cells -/
def adF (m m' : rf_m) : Prop := (∀ z, (z < 67 ∨ 78 < z) → m'.1 z = m.1 z) ∧ ∀ z, (z < 67 ∨ 78 < z) → m'.2 z = m.2 z
theorem adF_refl {m : rf_m} : adF m m := ⟨fun _ _ => rfl, fun _ _ => rfl⟩
theorem adF_trans {a b c : rf_m} (h : adF a b) (k : adF b c) : adF a c := ⟨fun z hz => (k.1 z hz).trans (h.1 z hz), fun z hz => (k.2 z hz).trans (h.2 z hz)⟩
theorem adF_b {a : Nat} {m m' : rf_m} (h : bF a m m') (ha : 67 ≤ a ∧ a ≤ 77) : adF m m' := ⟨fun z hz => h.1 z (by omega), fun z hz => h.2 z (by omega)⟩
theorem adF_q {a r s : Nat} {m m' : rf_m} (h : qF a r s m m') (ha : 67 ≤ a ∧ a ≤ 77) (hr : 67 ≤ r ∧ r ≤ 77) (hs : 67 ≤ s ∧ s ≤ 77) : adF m m' := ⟨fun z hz => h.1 z (by omega) (by omega) (by omega), fun z hz => h.2 z (by omega) (by omega) (by omega)⟩
theorem bg_ad {m m' : rf_m} {b : Nat} {v : Int} (h : bg m b v) (f : adF m m') (hb : b + 1 < 67 ∨ 78 < b) : bg m' b v := bg_c h (f.1 b (by omega)) (f.2 (b + 1) (by omega))
theorem adj1_F {m m' : rf_m} {n : Nat} {FF : Nat → Int} {D : Int} (h : adj1 m n FF D) (f : adF m m') : adj1 m' n FF D := by
  obtain ⟨h1, h2, h3, h4, h5, h6, h7⟩ := h
  refine ⟨h1, fun i hi => ⟨bg_ad (h2 i hi).1 f (by omega), (h2 i hi).2⟩, bg_ad h3 f (by omega), h4, h5, by rw [f.1 259 (by omega)]; exact h6, fun a ha => ?_⟩
  unfold numA
  rw [f.1 58 (by omega), f.1 59 (by omega), f.1 263 (by omega), f.1 264 (by omega)]
  exact h7 a ha
theorem sumA_rng {FF : Nat → Int} {b : Int32} {n : Nat} (hn : ∀ i, n ≤ i → i < 32 → bt b i = false) (hF : ∀ i, i < n → mg (FF i) < 42535295865117307932921825928971026432) : ∀ k : Nat, k ≤ 6 → mg (sumA FF b k) ≤ (k : Int) * 42535295865117307932921825928971026432 := by
  intro k
  induction k with
  | zero => intro _; show mg 0 ≤ _; unfold mg; omega
  | succ k ih =>
    intro hk
    have i1 := ih (by omega)
    show mg (sumA FF b k + (if bt b k = true then FF k else 0)) ≤ _
    have a := mg_add (sumA FF b k) (if bt b k = true then FF k else 0)
    have c : mg (if bt b k = true then FF k else 0) ≤ 42535295865117307932921825928971026432 := by
      by_cases q : bt b k = true
      · rw [if_pos q]
        by_cases z : k < n
        · have := hF k z; omega
        · rw [hn k (by omega) (by omega)] at q; cases q
      · rw [if_neg q]; decide
    omega
theorem pB5 : pB 5 = 1427247692705959881058285969449495136382746624 := by decide
theorem pB9 : pB 9 = 1897137590064188545819787018382342682267975428761855001222473056385648716020711424 := by decide
theorem numA_rng {m : rf_m} {n a : Nat} {FF : Nat → Int} {D : Int} (h : adj1 m n FF D) (ha : a < 80) : mg (sumA FF (m.1 58 a) 6) < 255211775190703847597530955573826158593 ∧ mg (numA FF m a) < 643133673480573695945778008046041919651841 := by
  obtain ⟨h1, h2, h3, h4, h5, h6, h7⟩ := h
  obtain ⟨a1, a2, a3, a4⟩ := h7 a ha
  have s := sumA_rng (FF := FF) a1 (fun i hi => (h2 i hi).2) 6 (Nat.le_refl _)
  have s : mg (sumA FF (m.1 58 a) 6) ≤ 6 * 42535295865117307932921825928971026432 := s
  refine ⟨by omega, ?_⟩
  unfold numA
  rw [mgm]
  have e : mg (m.1 59 a).toInt = (m.1 59 a).toInt := by unfold mg; rw [if_neg (by omega)]
  have nn := mg_nn (sumA FF (m.1 58 a) 6)
  rw [e]
  have := Int.mul_le_mul s a2.2 a2.1 (by omega)
  omega
theorem layChange_c {w : rf_w} {m : rf_m} {n a : Nat} {FF : Nat → Int} {D : Int} (h : adj1 m n FF D) (ha : a < 80) (h58 : m.1 58 a ≠ 0) : ∃ m', g_X0_layChange w m (Int32.ofNat a) = some (1, m') ∧ adF m m' ∧ bg m' 67 (numA FF m a) := by
  obtain ⟨FU, hF, hFb⟩ := fuel_ex
  have o1 : ¬ (1 : Int32) = 0 := by decide
  have h0 := h
  obtain ⟨h1, h2, h3, h4, h5, h6, h7⟩ := h
  obtain ⟨a1, a2, a3, a4⟩ := h7 a ha
  have rn := numA_rng h0 ha
  have ga : rf_in (Int32.ofNat a) 80 = true := gof (n := a) ha (by decide)
  have ta : (Int32.ofNat a).toNatClampNeg = a := tn_of (by omega)
  have key : ∀ r f i (M : rf_m), i + r = 6 → r < f → adF m M → bg M 69 (sumA FF (m.1 58 a) i) → ∃ m', g_X0_layChange_21 w f (Int32.ofNat a) (Int32.ofNat i) M = some (1, m') ∧ adF m m' ∧ bg m' 67 (numA FF m a) := by
    intro r
    induction r with
    | zero =>
      intro f i M hi hf fM hb
      obtain ⟨f, rfl⟩ : ∃ g, f = g + 1 := ⟨f - 1, by omega⟩
      have e : i = 6 := by omega
      subst e
      have l1 : (Int32.toInt64 (m.1 59 a)).toInt = (m.1 59 a).toInt := i2l
      obtain ⟨M1, s1, s2, s3⟩ := setLong_c (w := w) (m := M) (a := 71) (x := Int32.toInt64 (m.1 59 a)) bC_71 (by rw [l1]; omega)
      rw [l1] at s3
      have p1 : pB 1 = 1073741824 := by decide
      have p5 := pB5
      have e59 : mg (m.1 59 a).toInt = (m.1 59 a).toInt := by unfold mg; rw [if_neg (by omega)]
      obtain ⟨M2, t1, t2, t3⟩ := setProduct_c (w := w) (m := M1) (a := 67) (b := 69) (c := 71) (p := 5) (q := 1) bC_67 bC_69 bC_71 (by decide) (by decide) (bg_F hb s2 (by decide)) s3 (by omega) (by rw [e59]; omega) (by decide)
      refine ⟨M2, ?_, adF_trans fM (adF_trans (adF_b s2 (by decide)) (adF_b t2 (by decide))), t3⟩
      show g_X0_layChange_21_b w _ _ _ M = _
      unfold g_X0_layChange_21_b
      have z : (6 : Int32) ≤ Int32.ofNat 6 := by decide
      rw [if_pos z, ga, g_t, ta, fM.1 59 (by omega), s1, bv_sm, t1, bv_sm]
    | succ r ih =>
      intro f i M hi hf fM hb
      obtain ⟨f, rfl⟩ : ∃ g, f = g + 1 := ⟨f - 1, by omega⟩
      have z : ¬ (6 : Int32) ≤ Int32.ofNat i := nle (R := 6) (by omega) (by decide)
      have hbit := bt_shr (a := m.1 58 a) (u := i) (by omega)
      show ∃ m', g_X0_layChange_21_b w (g_X0_layChange_21 w f) _ _ M = _ ∧ _
      unfold g_X0_layChange_21_b g_X0_layChange_54
      rw [if_neg z, ga, g_t, ta, fM.1 58 (by omega), hbit, of_succ]
      by_cases q : bt (m.1 58 a) i = true
      · have ilt : i < n := by
          refine Classical.byContradiction fun z => ?_
          rw [a1 i (by omega) (by omega)] at q
          cases q
        have bc := bC_f (w := w) i (by omega)
        have fi := h2 i ilt
        have sr := sumA_rng (FF := FF) a1 (fun i hi => (h2 i hi).2) i (by omega)
        have p9 := pB9
        have sr2 : mg (sumA FF (m.1 58 a) i) ≤ 6 * 42535295865117307932921825928971026432 := by
          have : (i : Int) * 42535295865117307932921825928971026432 ≤ 6 * 42535295865117307932921825928971026432 := Int.mul_le_mul_of_nonneg_right (by omega) (by decide)
          omega
        obtain ⟨M1, s1, s2, s3⟩ := addSigned_c (w := w) (m := M) (a := 69) (b := 163 + 2 * i) (less := 0) bC_69 bc (by omega) (Or.inl rfl) hb (bg_ad fi.1 fM (by omega)) (by omega) (by omega)
        rw [if_pos rfl] at s3
        rw [if_pos q, if_neg o1, gof (n := i) (by omega) (by decide), g_t, tn_of (n := i) (by omega), Rt_62 i (by omega)]
        show ∃ m', rf_g (rf_isO w (163 + 2 * i) 1) (rf_g (rf_isR w (163 + 2 * i) 2 (163 + 2 * i + 1)) (rf_g (rf_isA w (163 + 2 * i + 1) .long 10) _)) = _ ∧ _
        rw [bC_g bc, s1, bv_sm]
        exact ih f (i + 1) M1 (by omega) (by omega) (adF_trans fM (adF_b s2 (by decide))) (by
          show bg M1 69 (sumA FF (m.1 58 a) i + (if bt (m.1 58 a) i = true then FF i else 0))
          rw [if_pos q]
          exact s3)
      · rw [if_neg q, if_pos rfl]
        exact ih f (i + 1) M (by omega) (by omega) fM (by
          show bg M 69 (sumA FF (m.1 58 a) i + (if bt (m.1 58 a) i = true then FF i else 0))
          rw [if_neg q, Int.add_zero]
          exact hb)
  obtain ⟨M1, s1, s2, s3⟩ := setLong_c (w := w) (m := m) (a := 69) (x := 0) bC_69 (by decide)
  have z0 : (0 : Int64).toInt = 0 := rfl
  rw [z0] at s3
  obtain ⟨m', k1, k2⟩ := key 6 FU 0 M1 (by omega) (by omega) (adF_b s2 (by decide)) s3
  refine ⟨m', ?_, k2⟩
  unfold g_X0_layChange
  rw [ga, g_t, ta, if_neg h58, s1, bv_sm, hF]
  exact k1
theorem cF_30 {FF : Nat → Int} {m : rf_m} {n a : Nat} {D : Int} (h : adj1 m n FF D) (ha : a < 80) : -3138550867693340381917894711603833208051177722232017256448 < numA FF m a * 1000 ∧ numA FF m a * 1000 < 3138550867693340381917894711603833208051177722232017256448 := by
  have rn := (numA_rng h ha).2
  have := mg_le.mp rn
  omega
/-- what is told: the floor, if it is an int -/
noncomputable def tellI (v : Int) : Int32 := @ite Int32 (-2147483648 ≤ v ∧ v < 2147483648) (Classical.propDecidable _) (Int32.ofInt v) (-2147483648)
theorem thousandths_c {w : rf_w} {m : rf_m} {n a : Nat} {FF : Nat → Int} {D : Int} (h : adj1 m n FF D) (ha : a < 80) (h58 : m.1 58 a ≠ 0) : ∃ m', g_X0_thousandths w m (Int32.ofNat a) = some (tellI (numA FF m a * 1000 / D), m') ∧ adF m m' := by
  have o1 : ¬ (1 : Int32) = 0 := by decide
  obtain ⟨M1, l1, l2, l3⟩ := layChange_c (w := w) h ha h58
  have rn := (numA_rng h ha).2
  obtain ⟨h1, h2, h3, h4, h5, h6, h7⟩ := h
  obtain ⟨M2, s1, s2, s3⟩ := setLong_c (w := w) (m := M1) (a := 69) (x := 1000) bC_69 (by decide)
  have z1 : (1000 : Int64).toInt = 1000 := rfl
  rw [z1] at s3
  have p1 : pB 1 = 1073741824 := by decide
  have p5 := pB5
  have p9 := pB9
  have m1000 : mg 1000 = 1000 := rfl
  obtain ⟨M3, t1, t2, t3⟩ := setProduct_c (w := w) (m := M2) (a := 71) (b := 67) (c := 69) (p := 5) (q := 1) bC_71 bC_67 bC_69 (by decide) (by decide) (bg_F l3 s2 (by decide)) s3 (by omega) (by rw [m1000]; omega) (by decide)
  have mm : mg (numA FF m a * 1000) < pB 9 := by rw [mgm, m1000]; omega
  have f3 : adF m M3 := adF_trans l2 (adF_trans (adF_b s2 (by decide)) (adF_b t2 (by decide)))
  obtain ⟨M4, u1, u2, u3⟩ := setFloor_c (w := w) (m := M3) (a := 67) (b := 71) (c := 63) (r := 75) (s := 77) bC_67 bC_71 bC_63 bC_75 bC_77 (by decide) (by decide) (by decide) (by decide) (by decide) (by decide) (by decide) (by decide) (by decide) t3 (bg_ad h3 f3 (by decide)) mm h4
  refine ⟨M4, ?_, adF_trans f3 (adF_q u2 (by decide) (by decide) (by decide))⟩
  unfold g_X0_thousandths
  rw [l1, b_sm, if_neg o1, s1, bv_sm, t1, bv_sm, u1, bv_sm, isLong_c bC_67 u3, b_sm]
  generalize numA FF m a * 1000 / D = v at *
  by_cases q : mg v < 9223372036854775808
  · obtain ⟨x, x1, x2⟩ := toLong_c bC_67 u3 q
    rw [bi_t q, if_neg o1, x1, b_sm]
    unfold tellI
    have ti : (Int32.toInt64 (Int64.toInt32 x)).toInt = v.bmod 4294967296 := by rw [i2l, Int64.toInt_toInt32, x2]
    by_cases c : -2147483648 ≤ v ∧ v < 2147483648
    · have : lg_cmp x (Int32.toInt64 (Int64.toInt32 x)) = 0 := cmp_eq0.mpr (l_eq.mpr (by rw [ti, x2, bm32 c.1 c.2]))
      rw [if_pos this, if_pos c, l32_of, x2]
    · have : ¬ lg_cmp x (Int32.toInt64 (Int64.toInt32 x)) = 0 := fun z => by
        have := l_eq.mp (cmp_eq0.mp z)
        have r := rngI (Int64.toInt32 x)
        rw [i2l] at this
        omega
      rw [if_neg this, if_neg c]
  · have c0 : ¬ lg_cmp (-9223372036854775808) (Int32.toInt64 (Int64.toInt32 (-9223372036854775808))) = 0 := by decide
    rw [bi_f q, if_pos rfl, if_neg c0]
    unfold tellI
    rw [if_neg (fun c => q (by rw [mg_le]; omega))]
/-- the reference's work cells -/
def rwF (m m' : rf_m) : Prop := (∀ z, z ≠ 249 → z ≠ 250 → z ≠ 251 → z ≠ 252 → z ≠ 253 → m'.1 z = m.1 z) ∧ m'.2 = m.2
theorem change_r {w : rf_w} {m M : rf_m} {n a : Nat} {FF : Nat → Int} {D : Int} (h : adj1 m n FF D) (ha : a < 80) (h58 : m.1 58 a ≠ 0) (e264 : M.1 264 = m.1 264) (e259 : M.1 259 = m.1 259) : ∃ m', (rf_bv (g_X14_times__252_264 w M 0 (6 * Int32.ofNat a) 1000) fun m2 => rf_bv (g_X14_copies__253_259 w m2 0 0) fun m3 => rf_bv (g_X14_floors w m3) fun m4 => rf_b (g_X14_isLong w m4) fun y5 m5 => (if y5 = 0 then some ((-2147483648 : Int32), m5) else rf_b (g_X14_quotientLong w m5) fun y6 m6 => rf_b (g_X14_quotientLong w m6) fun y7 m7 => (if (lg_cmp y6 (Int32.toInt64 (Int64.toInt32 y7))) = 0 then rf_b (g_X14_quotientLong w m7) fun y8 m8 => some (Int64.toInt32 y8, m8) else some ((-2147483648), m7)))) = some (tellI (numA FF m a * 1000 / D), m') ∧ rwF M m' := by
  have o1 : ¬ (1 : Int32) = 0 := by decide
  have zo : Int32.ofNat 0 = 0 := rfl
  have bnd := cF_30 h ha
  obtain ⟨h1, h2, h3, h4, h5, h6, h7⟩ := h
  have e6 : 6 * Int32.ofNat a = Int32.ofNat (6 * a) := by
    have z6 : (6 : Int32).toInt = 6 := rfl
    rw [i_eq, mulI (by rw [ofI (by omega), z6]; omega) (by rw [ofI (by omega), z6]; omega), ofI (by omega), ofI (by omega), z6]
    omega
  obtain ⟨F1, a1, a2, a3⟩ := tm_252_264 (w := w) (m := M) (p := 0) (q := 6 * a) (by_ := 1000) (by decide) (by omega) (by rw [e264]; exact (h7 a ha).2.2.2 h58)
  have z1 : (1000 : Int32).toInt = 1000 := rfl
  rw [z1] at a3
  obtain ⟨F2, b1, b2, b3⟩ := cp_253_259 (w := w) (m := stc M 252 F1) (p := 0) (q := 0) (x := D) (by decide) (by decide) (by rw [stc_ne (by decide), e259, ← h6]; exact wd_w6)
  have p6 : pW 6 = 6277101735386680763835789423207666416102355444464034512896 := by decide
  obtain ⟨m4, c1, c2, c3, c4⟩ := floors_r (w := w) (m := stc (stc M 252 F1) 253 F2) (x := numA FF m a * 1000) (D := D) (by rw [stc_ne (by decide), stc_at]; exact a3) bnd.1 bnd.2 (by rw [stc_at]; exact wd_nn b3 (by omega) (by omega)) h4 (by omega)
  rw [zo] at a1 b1
  rw [e6, a1, bv_sm, b1, bv_sm, c1, bv_sm]
  have vb : -3138550867693340381917894711603833208051177722232017256448 ≤ numA FF m a * 1000 / D ∧ numA FF m a * 1000 / D < 3138550867693340381917894711603833208051177722232017256448 := by
    generalize numA FF m a * 1000 = N at *
    have d := Int.emod_add_mul_ediv N D
    have r0 := Int.emod_nonneg N (show D ≠ 0 by omega)
    have r1 := Int.emod_lt_of_pos N h4
    constructor
    · refine Classical.byContradiction fun z => ?_
      have := Int.mul_le_mul_of_nonneg_left (show N / D ≤ -3138550867693340381917894711603833208051177722232017256449 by omega) (show 0 ≤ D by omega)
      omega
    · refine Classical.byContradiction fun z => ?_
      have := Int.mul_le_mul_of_nonneg_left (show 3138550867693340381917894711603833208051177722232017256448 ≤ N / D by omega) (show 0 ≤ D by omega)
      omega
  generalize numA FF m a * 1000 / D = v at *
  have fr : rwF M m4 := ⟨fun z z1 z2 z3 z4 z5 => by rw [c2 z z1 z2 z3 z4, stc_ne z5, stc_ne z4], c3⟩
  refine ⟨m4, ?_, fr⟩
  rw [isLong_r c4 vb.1 vb.2, b_sm]
  unfold tellI
  by_cases q : -9223372036854775808 ≤ v ∧ v < 9223372036854775808
  · obtain ⟨x, x1, x2⟩ := quoL_r (w := w) (m := m4)
    have x2 := x2 v c4 q.1 q.2
    rw [bi_t q, if_neg o1, x1, b_sm, x1, b_sm, x1, b_sm]
    have ti : (Int32.toInt64 (Int64.toInt32 x)).toInt = v.bmod 4294967296 := by rw [i2l, Int64.toInt_toInt32, x2]
    by_cases c : -2147483648 ≤ v ∧ v < 2147483648
    · have : lg_cmp x (Int32.toInt64 (Int64.toInt32 x)) = 0 := cmp_eq0.mpr (l_eq.mpr (by rw [ti, x2, bm32 c.1 c.2]))
      rw [if_pos this, if_pos c, l32_of, x2]
    · have : ¬ lg_cmp x (Int32.toInt64 (Int64.toInt32 x)) = 0 := fun z => by
        have := l_eq.mp (cmp_eq0.mp z)
        have r := rngI (Int64.toInt32 x)
        rw [i2l] at this
        omega
      rw [if_neg this, if_neg c]
  · rw [bi_f q, if_pos rfl, if_neg (fun c => q (by omega))]
theorem JAdj_e {m M : rf_m} (j : JAdj m) (e : ∀ z, z = 58 ∨ z = 59 ∨ z = 63 ∨ (163 ≤ z ∧ z ≤ 174) ∨ z = 259 ∨ z = 263 ∨ z = 264 → M.1 z = m.1 z) (e2 : ∀ z, z = 64 ∨ (163 ≤ z ∧ z ≤ 174) → M.2 z = m.2 z) (e88 : M.1 206 88 = m.1 206 88) : JAdj M := by
  rcases j with ⟨j1, j2⟩ | ⟨j1, n, FF, D, h1, h2, h3, h4, h5, h6, h7⟩
  · exact Or.inl ⟨by rw [e88]; exact j1, fun a ha => by rw [e 58 (by omega)]; exact j2 a ha⟩
  · refine Or.inr ⟨by rw [e88]; exact j1, n, FF, D, h1, fun i hi => ⟨bg_c (h2 i hi).1 (e _ (by omega)) (e2 _ (by omega)), (h2 i hi).2⟩, bg_c h3 (e 63 (by omega)) (e2 64 (by omega)), h4, h5, by rw [e 259 (by omega)]; exact h6, fun a ha => ?_⟩
    unfold numA
    rw [e 58 (by omega), e 59 (by omega), e 263 (by omega), e 264 (by omega)]
    exact h7 a ha
/-- what change and part leave as it was -/
def cgF (m M : rf_m) : Prop := (∀ z, (z < 67 ∨ 78 < z) ∧ z ≠ 206 ∧ (z < 249 ∨ 253 < z) ∧ z ≠ 266 ∧ z ≠ 267 → M.1 z = m.1 z) ∧ (∀ k, k ≠ 0 → M.1 206 k = m.1 206 k) ∧ ∀ z, (z < 67 ∨ 78 < z) → M.2 z = m.2 z
theorem JAdj_f {m M : rf_m} (j : JAdj m) (e : ∀ z, (z < 67 ∨ 78 < z) ∧ z ≠ 206 ∧ (z < 249 ∨ 253 < z) ∧ z ≠ 266 ∧ z ≠ 267 → M.1 z = m.1 z) (e2 : ∀ z, (z < 67 ∨ 78 < z) → M.2 z = m.2 z) (e6 : ∀ k, k ≠ 0 → M.1 206 k = m.1 206 k) : JAdj M ∧ cgF m M := ⟨JAdj_e j (fun z hz => e z (by omega)) (fun z hz => e2 z (by omega)) (e6 88 (by decide)), e, e6, e2⟩
theorem k30 {w : rf_w} {m : rf_m} {y : Nat → Int32} (ja : JAng m) (jj : JAdj m) : wp (g_lc_30 w m y) (fun r => r.1 = w ∧ JAdj r.2 ∧ cgF m r.2) := by
  have o1 : ¬ (1 : Int32) = 0 := by decide
  have h80 := ang80 ja
  unfold g_lc_30 g_X11_change
  by_cases h1 : ib (y 1) (m.1 206 16)
  · have ha : (y 1).toNatClampNeg < (m.1 206 16).toNatClampNeg := tn_lt2 h1.1 h1.2
    have ey : Int32.ofNat (y 1).toNatClampNeg = y 1 := of_tn h1.1
    generalize hA : (y 1).toNatClampNeg = a at *
    have gy : rf_in (y 1) 80 = true := by rw [← ey]; exact gof (n := a) (by omega) (by decide)
    have e16 : m.1 26 6 = m.1 206 16 := ja.1
    have hib : ib (y 1) (m.1 26 6) := by rw [e16]; exact h1
    rcases jj with ⟨j1, j2⟩ | ⟨j1, n, FF, D, hadj⟩
    · have j0 := j2 a (by omega)
      have th : g_X0_thousandths w m (y 1) = some (-2147483648, m) := by
        unfold g_X0_thousandths g_X0_layChange
        rw [gy, g_t, hA, if_pos j0, b_sm, if_pos rfl]
      have r16 : (rf_i m 206 0 0).1 206 16 = m.1 206 16 := rfl
      have r88 : (rf_i m 206 0 0).1 206 88 = 0 := j1
      unfold g_X14_change
      simp only [wp_b, wp_ite, wp_g, wp_some, X3_isAngle, X14_isAngle, bi_eq0, hib, r16, h1, r88, th, not_true, false_implies, not_false_eq_true, true_implies, true_and, and_true, decide_true]
      exact JAdj_f (Or.inl ⟨j1, j2⟩) (fun z hz => by rw [rf_i_c, if_neg (by omega)]) (fun z _ => rfl) (fun k hk => by rw [rf_i_c, if_pos rfl, pu_ne hk])
    · obtain ⟨h1', h2', h3', h4', h5', h6', h7'⟩ := id hadj
      obtain ⟨b1, b2, b3, b4⟩ := h7' a (by omega)
      by_cases q : m.1 58 a = 0
      · have th : g_X0_thousandths w m (y 1) = some (-2147483648, m) := by
          unfold g_X0_thousandths g_X0_layChange
          rw [gy, g_t, hA, if_pos q, b_sm, if_pos rfl]
        have r16 : (rf_i m 206 0 0).1 206 16 = m.1 206 16 := rfl
        have r88 : (rf_i m 206 0 0).1 206 88 = 1 := j1
        have r263 : (rf_i m 206 0 0).1 263 a = 0 := by rw [rf_i_c, if_neg (by decide), b3, bi_f (fun z => z q)]
        unfold g_X14_change
        simp only [wp_b, wp_ite, wp_g, wp_some, X3_isAngle, X14_isAngle, bi_eq0, hib, r16, h1, r88, th, hA, gy, r263, o1, not_true, false_implies, not_false_eq_true, true_implies, true_and, and_true, decide_true]
        exact JAdj_f (Or.inr ⟨j1, n, FF, D, hadj⟩) (fun z hz => by rw [rf_i_c, if_neg (by omega)]) (fun z _ => rfl) (fun k hk => by rw [rf_i_c, if_pos rfl, pu_ne hk])
      · obtain ⟨M1, t1, t2⟩ := thousandths_c (w := w) hadj (show a < 80 by omega) q
        rw [ey] at t1
        have rM : ∀ z, 78 < z → (rf_i M1 206 0 0).1 z = (if z = 206 then pu (m.1 206) 0 0 else m.1 z) := fun z hz => by
          rw [rf_i_c]
          by_cases e : z = 206
          · rw [if_pos e, if_pos e, t2.1 206 (by omega)]
          · rw [if_neg e, if_neg e, t2.1 z (by omega)]
        obtain ⟨M2, c1, c2⟩ := change_r (w := w) (M := rf_i M1 206 0 0) hadj (show a < 80 by omega) q (by rw [rM 264 (by decide), if_neg (by decide)]) (by rw [rM 259 (by decide), if_neg (by decide)])
        rw [ey] at c1
        have r16 : (rf_i M1 206 0 0).1 206 16 = m.1 206 16 := by rw [rM 206 (by decide), if_pos rfl, pu_ne (by decide)]
        have r88 : (rf_i M1 206 0 0).1 206 88 = 1 := by rw [rM 206 (by decide), if_pos rfl, pu_ne (by decide)]; exact j1
        have r263 : (rf_i M1 206 0 0).1 263 a = 1 := by rw [rM 263 (by decide), if_neg (by decide), b3, bi_t q]
        have ref : g_X14_change w M1 (y 1) = some (tellI (numA FF m a * 1000 / D), M2) := by
          unfold g_X14_change
          rw [X14_isAngle, b_sm, r16, bi_t h1, if_neg o1, r88, if_neg o1, gy, g_t, hA, r263, if_neg o1]
          exact c1
        simp only [wp_b, wp_ite, wp_g, wp_some, X3_isAngle, bi_eq0, hib, t1, ref, not_true, false_implies, not_false_eq_true, true_implies, true_and, and_true, decide_true]
        exact JAdj_f (Or.inr ⟨j1, n, FF, D, hadj⟩) (fun z hz => by
          by_cases e : 78 < z
          · rw [c2.1 z (by omega) (by omega) (by omega) (by omega) (by omega), rM z e, if_neg (by omega)]
          · rw [c2.1 z (by omega) (by omega) (by omega) (by omega) (by omega), rf_i_c, if_neg (by omega), t2.1 z (by omega)]) (fun z hz => by rw [c2.2, rf_i_l, t2.2 z (by omega)]) (fun k hk => by rw [c2.1 206 (by decide) (by decide) (by decide) (by decide) (by decide), rM 206 (by decide), if_pos rfl, pu_ne hk])
  · have e16 : m.1 26 6 = m.1 206 16 := ja.1
    have r16 : (rf_i m 206 0 0).1 206 16 = m.1 206 16 := rfl
    unfold g_X14_change
    simp only [wp_b, wp_ite, wp_g, wp_some, X3_isAngle, X14_isAngle, bi_eq0, e16, r16, h1, not_true, false_implies, not_false_eq_true, true_implies, true_and, and_true, decide_true]
    exact JAdj_f jj (fun z hz => by rw [rf_i_c, if_neg (by omega)]) (fun z _ => rfl) (fun k hk => by rw [rf_i_c, if_pos rfl, pu_ne hk])
end PBChange
