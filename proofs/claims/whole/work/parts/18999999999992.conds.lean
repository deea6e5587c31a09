/-! adjust: all conditions, both sides -/
section PBConds
theorem ixf_sn {f : Nat → Bool} {k : Nat} : ixf f (k + 1) 0 = ixf f k 0 ++ (if f k = true then [k] else []) := by
  rw [ixf_add k 1 0, Nat.zero_add]
  by_cases h : f k = true
  · rw [if_pos h, ixf_t h]; rfl
  · rw [if_neg h, ixf_n h]; rfl
theorem ixf_st {f : Nat → Bool} {n : Nat} : ∀ k, (∀ j, n ≤ j → j < n + k → f j = false) → ixf f (n + k) 0 = ixf f n 0 := by
  intro k
  induction k with
  | zero => intro _; rfl
  | succ k ih =>
    intro h
    show ixf f ((n + k) + 1) 0 = _
    rw [ixf_sn, h (n + k) (by omega) (by omega), if_neg (by decide), List.append_nil]
    exact ih (fun j h1 h2 => h j h1 (by omega))
theorem ixf_pre {f : Nat → Bool} {n k : Nat} (h : k ≤ n) : (ixf f k 0).length ≤ (ixf f n 0).length := by
  have := ixf_add (f := f) k (n - k) 0
  rw [show k + (n - k) = n by omega] at this
  rw [this, List.length_append]
  omega
theorem fill56 {w : rf_w} {v : Int32} : ∀ k F i (M : rf_m), i + k = 80 → k < F → g_J7_fill_53178__56_5 w F v (Int32.ofNat i) 80 M = some (stc M 56 (fun k => if i ≤ k ∧ k < 80 then v else M.1 56 k)) := by
  intro k
  induction k with
  | zero =>
    intro F i M hi hF
    obtain ⟨F, rfl⟩ : ∃ g, F = g + 1 := ⟨F - 1, by omega⟩
    show g_J7_fill_53178__56_5_b w _ _ _ _ M = _
    unfold g_J7_fill_53178__56_5_b
    rw [show i = 80 by omega, if_pos (by decide)]
    have : (fun k => if 80 ≤ k ∧ k < 80 then v else M.1 56 k) = M.1 56 := by
      funext k; rw [if_neg (by omega)]
    rw [this, stc_self]
  | succ k ih =>
    intro F i M hi hF
    obtain ⟨F, rfl⟩ : ∃ g, F = g + 1 := ⟨F - 1, by omega⟩
    have h1 : ¬ (80 : Int32) ≤ Int32.ofNat i := nle (R := 80) (by omega) (by omega)
    show g_J7_fill_53178__56_5_b w (g_J7_fill_53178__56_5 w F) _ _ _ M = _
    unfold g_J7_fill_53178__56_5_b
    rw [if_neg h1, gof (by omega) (by decide), g_t, tn_of (by omega), of_succ, ih F (i + 1) _ (by omega) (by omega), stc_i, stc_stc, stc_c, if_pos rfl]
    congr 2
    funext j
    unfold pu
    by_cases q : j = i
    · rw [if_neg (by omega), if_pos q, if_pos (by omega)]
    · by_cases q2 : i + 1 ≤ j ∧ j < 80
      · rw [if_pos q2, if_pos (by omega)]
      · rw [if_neg q2, if_neg q, if_neg (by omega)]
theorem gatherA_c {c : Nat} {w : rf_w} {m X : rf_m} {a1 a2 : Int32} (J : JCnt c w m) (jn : JNet m) (hg : gN w m X) (hs : ∀ q, q < 42 → sel a1 a2 q = true → okK m q) (hL : (ixf (sel a1 a2) 42 0).length ≤ 6) : ∃ X', gaF X X' ∧ (((∃ q, q ∈ ixf (sel a1 a2) 42 0 ∧ msK w m q = -2147483648) ∧ g_X0_gather w X a1 a2 = some (0, X')) ∨ ((∀ q, q ∈ ixf (sel a1 a2) 42 0 → msK w m q ≠ -2147483648) ∧ g_X0_gather w X a1 a2 = some (1, X') ∧ gaS w m (ixf (sel a1 a2) 42 0) X')) := by
  obtain ⟨FU, hF, hFb⟩ := fuel_ex
  have o1 : ¬ (1 : Int32) = 0 := by decide
  obtain ⟨n30, n12⟩ := net30 jn
  have hT := of_tn jn.2.1.1
  have hR := of_tn jn.2.2.2.1.1
  generalize hTT : (m.1 206 64).toNatClampNeg = T at *
  generalize hRR : (m.1 206 65).toNatClampNeg = R at *
  have s0 : ∀ q, q < 42 → ¬ okK m q → sel a1 a2 q = false := fun q h1 h2 => by
    cases e : sel a1 a2 q with
    | false => rfl
    | true => exact absurd (hs q h1 e) h2
  have okT : ∀ q, okK m q ↔ (q < 30 ∧ q < T) ∨ (30 ≤ q ∧ q - 30 < R) := fun q => by unfold okK; rw [hTT, hRR]
  have mem : ∀ q, q < 42 → sel a1 a2 q = true → q ∈ ixf (sel a1 a2) 42 0 := fun q h1 h2 => (ixf_ge 42 0 q).mpr ⟨by omega, by omega, h2⟩
  -- rounds
  have key1 : ∀ r f t (Y : rf_m), t + r = R → r < f → gaF X Y → gaS w m (ixf (sel a1 a2) (30 + t) 0) Y → (∀ q, q ∈ ixf (sel a1 a2) (30 + t) 0 → msK w m q ≠ -2147483648) → ∃ X', gaF X X' ∧ (((∃ q, q ∈ ixf (sel a1 a2) 42 0 ∧ msK w m q = -2147483648) ∧ g_X0_gather_105 w f a2 (Int32.ofNat t) Y = some (0, X')) ∨ ((∀ q, q ∈ ixf (sel a1 a2) 42 0 → msK w m q ≠ -2147483648) ∧ g_X0_gather_105 w f a2 (Int32.ofNat t) Y = some (1, X') ∧ gaS w m (ixf (sel a1 a2) 42 0) X')) := by
    intro r
    induction r with
    | zero =>
      intro f t Y ht hf fY hS hm
      obtain ⟨f, rfl⟩ : ∃ g, f = g + 1 := ⟨f - 1, by omega⟩
      have e : t = R := by omega
      subst e
      have e42 : ixf (sel a1 a2) 42 0 = ixf (sel a1 a2) (30 + t) 0 := by
        have := ixf_st (f := sel a1 a2) (n := 30 + t) (12 - t) (fun j h1 h2 => s0 j (by omega) (fun z => by rw [okT] at z; omega))
        rw [show 30 + t + (12 - t) = 42 by omega] at this
        exact this
      have gY := gN_F hg fY
      rw [e42]
      refine ⟨Y, fY, Or.inr ⟨hm, ?_, hS⟩⟩
      show g_X0_gather_105_b w _ _ _ Y = _
      unfold g_X0_gather_105_b
      rw [gY.2.2.2.2.2.1, ← hR, if_pos (Int32.le_refl _)]
    | succ r ih =>
      intro f t Y ht hf fY hS hm
      obtain ⟨f, rfl⟩ : ∃ g, f = g + 1 := ⟨f - 1, by omega⟩
      have gY := gN_F hg fY
      have g1 : ¬ m.1 206 65 ≤ Int32.ofNat t := by rw [← hR]; exact nle (by omega) (by omega)
      have hb := bt_shr (a := a2) (u := t) (by omega)
      have es : sel a1 a2 (30 + t) = bt a2 t := by unfold sel; rw [if_neg (by omega), show 30 + t - 30 = t by omega]
      have sn := ixf_sn (f := sel a1 a2) (k := 30 + t)
      have st : g_X0_gather_105 w (f + 1) a2 (Int32.ofNat t) Y = if bt a2 t = true then g_X0_gather_127 w (g_X0_gather_105 w f) rf_fuel a2 (Int32.ofNat t) 0 Y else g_X0_gather_105 w f a2 (Int32.ofNat (t + 1)) Y := by
        show g_X0_gather_105_b w (g_X0_gather_105 w f) _ _ Y = _
        unfold g_X0_gather_105_b g_X0_gather_194
        rw [gY.2.2.2.2.2.1, if_neg g1, hb, of_succ]
        by_cases q : bt a2 t = true
        · rw [if_pos q, if_neg o1, if_pos q]
        · rw [if_neg q, if_pos rfl, if_neg q]
      rw [st]
      by_cases q : bt a2 t = true
      · rw [es, if_pos q] at sn
        have len : (ixf (sel a1 a2) (30 + t) 0).length < 6 := by
          have := ixf_pre (f := sel a1 a2) (n := 42) (k := 30 + t + 1) (by omega)
          rw [sn, List.length_append, List.length_singleton] at this
          omega
        obtain ⟨X', k1, k2⟩ := gr_c (a2 := a2) (r105 := g_X0_gather_105 w f) J jn gY hS len (show t < (m.1 206 65).toNatClampNeg by omega)
        rw [if_pos q]
        rcases k2 with ⟨k2, k3⟩ | ⟨k2, k3, k4⟩
        · exact ⟨X', gaF_trans fY k1, Or.inl ⟨⟨30 + t, mem (30 + t) (by omega) (es.trans q), k2⟩, k3⟩⟩
        · rw [k3]
          rw [← sn] at k4
          refine ih f (t + 1) X' (by omega) (by omega) (gaF_trans fY k1) k4 (fun x hx => ?_)
          have hx : x ∈ ixf (sel a1 a2) (30 + t + 1) 0 := hx
          rw [sn] at hx
          rcases List.mem_append.mp hx with h | h
          · exact hm x h
          · rw [List.mem_singleton.mp h]; exact k2
      · rw [es, if_neg q, List.append_nil] at sn
        rw [if_neg q]
        have sn : ixf (sel a1 a2) (30 + (t + 1)) 0 = ixf (sel a1 a2) (30 + t) 0 := sn
        exact ih f (t + 1) Y (by omega) (by omega) fY (by rw [sn]; exact hS) (by rw [sn]; exact hm)
  -- triangles
  have key2 : ∀ r f t (Y : rf_m), t + r = T → r < f → gaF X Y → gaS w m (ixf (sel a1 a2) t 0) Y → (∀ q, q ∈ ixf (sel a1 a2) t 0 → msK w m q ≠ -2147483648) → ∃ X', gaF X X' ∧ (((∃ q, q ∈ ixf (sel a1 a2) 42 0 ∧ msK w m q = -2147483648) ∧ g_X0_gather_15 w f a1 a2 (Int32.ofNat t) Y = some (0, X')) ∨ ((∀ q, q ∈ ixf (sel a1 a2) 42 0 → msK w m q ≠ -2147483648) ∧ g_X0_gather_15 w f a1 a2 (Int32.ofNat t) Y = some (1, X') ∧ gaS w m (ixf (sel a1 a2) 42 0) X')) := by
    intro r
    induction r with
    | zero =>
      intro f t Y ht hf fY hS hm
      obtain ⟨f, rfl⟩ : ∃ g, f = g + 1 := ⟨f - 1, by omega⟩
      have e : t = T := by omega
      subst e
      have e30 : ixf (sel a1 a2) (30 + 0) 0 = ixf (sel a1 a2) t 0 := by
        have := ixf_st (f := sel a1 a2) (n := t) (30 - t) (fun j h1 h2 => s0 j (by omega) (fun z => by rw [okT] at z; omega))
        rw [show t + (30 - t) = 30 by omega] at this
        exact this
      have gY := gN_F hg fY
      obtain ⟨X', k1, k2⟩ := key1 R FU 0 Y (by omega) (by omega) fY (by rw [e30]; exact hS) (by rw [e30]; exact hm)
      refine ⟨X', k1, ?_⟩
      have st : g_X0_gather_15 w (f + 1) a1 a2 (Int32.ofNat t) Y = g_X0_gather_105 w FU a2 (Int32.ofNat 0) Y := by
        show g_X0_gather_15_b w _ _ _ _ Y = _
        unfold g_X0_gather_15_b
        rw [gY.2.2.2.2.1, ← hT, if_pos (Int32.le_refl _), hF]
        rfl
      rw [st]
      exact k2
    | succ r ih =>
      intro f t Y ht hf fY hS hm
      obtain ⟨f, rfl⟩ : ∃ g, f = g + 1 := ⟨f - 1, by omega⟩
      have gY := gN_F hg fY
      have g1 : ¬ m.1 206 64 ≤ Int32.ofNat t := by rw [← hT]; exact nle (by omega) (by omega)
      have hb := bt_shr (a := a1) (u := t) (by omega)
      have es : sel a1 a2 t = bt a1 t := by unfold sel; rw [if_pos (by omega)]
      have sn := ixf_sn (f := sel a1 a2) (k := t)
      have st : g_X0_gather_15 w (f + 1) a1 a2 (Int32.ofNat t) Y = if bt a1 t = true then g_X0_gather_37 w (g_X0_gather_15 w f) rf_fuel a1 a2 (Int32.ofNat t) 0 Y else g_X0_gather_15 w f a1 a2 (Int32.ofNat (t + 1)) Y := by
        show g_X0_gather_15_b w (g_X0_gather_15 w f) _ _ _ Y = _
        unfold g_X0_gather_15_b g_X0_gather_97
        rw [gY.2.2.2.2.1, if_neg g1, hb, of_succ]
        by_cases q : bt a1 t = true
        · rw [if_pos q, if_neg o1, if_pos q]
        · rw [if_neg q, if_pos rfl, if_neg q]
      rw [st]
      by_cases q : bt a1 t = true
      · rw [es, if_pos q] at sn
        have len : (ixf (sel a1 a2) t 0).length < 6 := by
          have := ixf_pre (f := sel a1 a2) (n := 42) (k := t + 1) (by omega)
          rw [sn, List.length_append, List.length_singleton] at this
          omega
        obtain ⟨X', k1, k2⟩ := gt_c (a1 := a1) (a2 := a2) (r15 := g_X0_gather_15 w f) J jn gY hS len (show t < (m.1 206 64).toNatClampNeg by omega)
        rw [if_pos q]
        rcases k2 with ⟨k2, k3⟩ | ⟨k2, k3, k4⟩
        · exact ⟨X', gaF_trans fY k1, Or.inl ⟨⟨t, mem t (by omega) (es.trans q), k2⟩, k3⟩⟩
        · rw [k3]
          rw [← sn] at k4
          refine ih f (t + 1) X' (by omega) (by omega) (gaF_trans fY k1) k4 (fun x hx => ?_)
          rw [sn] at hx
          rcases List.mem_append.mp hx with h | h
          · exact hm x h
          · rw [List.mem_singleton.mp h]; exact k2
      · rw [es, if_neg q, List.append_nil] at sn
        rw [if_neg q]
        exact ih f (t + 1) Y (by omega) (by omega) fY (by rw [sn]; exact hS) (by rw [sn]; exact hm)
  have f0 := fill56 (w := w) (v := 0) 80 FU 0 X (by omega) (by omega)
  have zo : Int32.ofNat 0 = 0 := rfl
  rw [zo] at f0
  obtain ⟨X', k1, k2⟩ := key2 T FU 0 (rf_i (stc X 56 (fun k => if 0 ≤ k ∧ k < 80 then 0 else X.1 56 k)) 55 8 0) (by omega) (by omega) ⟨fun z z1 z2 _ => by rw [rf_i_c, if_neg z1, stc_ne z2], fun k hk => by rw [rf_i_c, if_pos rfl, pu_ne hk, stc_ne (by decide)], rfl⟩ ⟨by rw [rf_i_c, if_pos rfl, pu_at]; rfl, fun i hi => absurd hi (Nat.not_lt_zero _), fun a ha u hu => by
    rw [rf_i_c, if_neg (by decide), stc_at, if_pos ⟨by omega, ha⟩, bt_0]
    exact ⟨fun z => absurd z (by decide), fun ⟨z, _⟩ => absurd z (Nat.not_lt_zero _)⟩⟩ (fun q hq => (by cases hq))
  refine ⟨X', k1, ?_⟩
  unfold g_X0_gather g_J7_fill_53178__56
  rw [hF, f0, bv_sm]
  exact k2
/-- the reference's conditions -/
def rfS (w : rf_w) (m : rf_m) (L : List Nat) (M : rf_m) : Prop := ∀ i (h : i < L.length), M.1 261 i = Int32.ofNat (if L[i] < 30 then L[i] else L[i] - 30) ∧ M.1 262 i = bi (30 ≤ L[i]) ∧ M.1 255 i = -(msK w m L[i])
def r8F (M M' : rf_m) : Prop := (∀ z, z ≠ 255 → z ≠ 261 → z ≠ 262 → M'.1 z = M.1 z) ∧ M'.2 = M.2
theorem r8F_trans {a b c : rf_m} (h : r8F a b) (k : r8F b c) : r8F a c := ⟨fun z h1 h2 h3 => (k.1 z h1 h2 h3).trans (h.1 z h1 h2 h3), k.2.trans h.2⟩
theorem nA_8 {w : rf_w} {m M M' : rf_m} (h : nA w m M) (f : r8F M M') : nA w m M' := ⟨fun z hz => by rw [f.1 z (by omega) (by omega) (by omega)]; exact h.1 z hz, by rw [f.1 206 (by decide) (by decide) (by decide)]; exact h.2.1, by rw [f.1 206 (by decide) (by decide) (by decide)]; exact h.2.2.1, fun a ha => by rw [f.1 248 (by decide) (by decide) (by decide)]; exact h.2.2.2 a ha⟩
theorem conds_r {w : rf_w} {m M : rf_m} {a1 a2 : Int32} (ja : JAng m) (jn : JNet m) (hn : nA w m M) (hs : ∀ q, q < 42 → sel a1 a2 q = true → okK m q) (hL : (ixf (sel a1 a2) 42 0).length ≤ 6) : ∃ M', r8F M M' ∧ (((∃ q, q ∈ ixf (sel a1 a2) 42 0 ∧ msK w m q = -2147483648) ∧ g_X14_adjust_80 w rf_fuel a1 a2 0 1 0 M = rf_b (g_X14_refused w M' 5) fun y0 m0 => some (y0, m0)) ∨ ((∀ q, q ∈ ixf (sel a1 a2) 42 0 → msK w m q ≠ -2147483648) ∧ g_X14_adjust_80 w rf_fuel a1 a2 0 1 0 M = g_X14_adjust_229 w rf_fuel (Int32.ofNat (ixf (sel a1 a2) 42 0).length) 0 M' ∧ rfS w m (ixf (sel a1 a2) 42 0) M')) := by
  obtain ⟨FU, hF, hFb⟩ := fuel_ex
  have o1 : ¬ (1 : Int32) = 0 := by decide
  have key : ∀ r f k (Y : rf_m), k + r = 42 → r < f → r8F M Y → rfS w m (ixf (sel a1 a2) k 0) Y → ∃ M', r8F M M' ∧ rfS w m (ixf (sel a1 a2) 42 0) M' ∧ g_X14_adjust_80 w f a1 a2 (Int32.ofNat (ixf (sel a1 a2) k 0).length) (bi (∀ q, q ∈ ixf (sel a1 a2) k 0 → msK w m q ≠ -2147483648)) (Int32.ofNat k) Y = if bi (∀ q, q ∈ ixf (sel a1 a2) 42 0 → msK w m q ≠ -2147483648) = 0 then rf_b (g_X14_refused w M' 5) fun y0 m0 => some (y0, m0) else g_X14_adjust_229 w rf_fuel (Int32.ofNat (ixf (sel a1 a2) 42 0).length) 0 M' := by
    intro r
    induction r with
    | zero =>
      intro f k Y hk hf fY hS
      obtain ⟨f, rfl⟩ : ∃ g, f = g + 1 := ⟨f - 1, by omega⟩
      have e : k = 42 := by omega
      subst e
      refine ⟨Y, fY, hS, ?_⟩
      show g_X14_adjust_80_b w _ _ _ _ _ _ Y = _
      unfold g_X14_adjust_80_b
      have z : (42 : Int32) ≤ Int32.ofNat 42 := by decide
      rw [if_pos z]
    | succ r ih =>
      intro f k Y hk hf fY hS
      obtain ⟨f, rfl⟩ : ∃ g, f = g + 1 := ⟨f - 1, by omega⟩
      have z42 : ¬ (42 : Int32) ≤ Int32.ofNat k := nle (R := 42) (by omega) (by decide)
      have sn := ixf_sn (f := sel a1 a2) (k := k)
      have hnY := nA_8 hn fY
      have i30 : Int32.ofNat k < 30 ↔ k < 30 := of_lt (b := 30) (by omega) (by omega)
      have em : 30 ≤ k → Int32.ofNat k - 30 = Int32.ofNat (k - 30) := fun h => by
        have z30 : (30 : Int32).toInt = 30 := rfl
        rw [i_eq, subI (by rw [ofI (by omega), z30]; omega) (by rw [ofI (by omega), z30]; omega), ofI (by omega), ofI (by omega), z30]
        omega
      -- both kinds in one
      have st : ∃ s0 cc, s0 = (if k < 30 then a1 else a2) ∧ cc = (if k < 30 then k else k - 30) ∧ g_X14_adjust_80 w (f + 1) a1 a2 (Int32.ofNat (ixf (sel a1 a2) k 0).length) (bi (∀ q, q ∈ ixf (sel a1 a2) k 0 → msK w m q ≠ -2147483648)) (Int32.ofNat k) Y = g_X14_adjust_128 w (g_X14_adjust_80 w f) a1 a2 (Int32.ofNat (ixf (sel a1 a2) k 0).length) (bi (∀ q, q ∈ ixf (sel a1 a2) k 0 → msK w m q ≠ -2147483648)) (Int32.ofNat k) (bi (30 ≤ k)) (Int32.ofNat cc) s0 Y := by
        have s1 : g_X14_adjust_80 w (f + 1) a1 a2 (Int32.ofNat (ixf (sel a1 a2) k 0).length) (bi (∀ q, q ∈ ixf (sel a1 a2) k 0 → msK w m q ≠ -2147483648)) (Int32.ofNat k) Y = g_X14_adjust_80_b w (g_X14_adjust_80 w f) a1 a2 (Int32.ofNat (ixf (sel a1 a2) k 0).length) (bi (∀ q, q ∈ ixf (sel a1 a2) k 0 → msK w m q ≠ -2147483648)) (Int32.ofNat k) Y := rfl
        rw [s1]
        unfold g_X14_adjust_80_b g_X14_adjust_99 g_X14_adjust_116
        by_cases q : k < 30
        · refine ⟨a1, k, (if_pos q).symm, (if_pos q).symm, ?_⟩
          rw [if_neg z42, if_pos (i30.mpr q), if_pos rfl, if_pos rfl, bi_f (show ¬ 30 ≤ k by omega)]
        · refine ⟨a2, k - 30, (if_neg q).symm, (if_neg q).symm, ?_⟩
          rw [if_neg z42, if_neg (fun z => q (i30.mp z)), if_neg o1, if_neg o1, em (by omega), bi_t (show 30 ≤ k by omega)]
      obtain ⟨s0, cc, e1, e2, st⟩ := st
      have cc30 : cc < 30 := by rw [e2]; split <;> omega
      have hb := bt_sar (a := s0) (u := cc) (by omega)
      have eb : bt s0 cc = sel a1 a2 k := by
        rw [e1, e2]
        unfold sel
        by_cases q : k < 30
        · rw [if_pos q, if_pos q, if_pos q]
        · rw [if_neg q, if_neg q, if_neg q]
      rw [st]
      unfold g_X14_adjust_128
      rw [hb, eb]
      by_cases q : sel a1 a2 k = true
      · have ok := hs k (by omega) q
        rw [if_pos q] at sn
        have len : (ixf (sel a1 a2) k 0).length < 6 := by
          have := ixf_pre (f := sel a1 a2) (n := 42) (k := k + 1) (by omega)
          rw [sn, List.length_append, List.length_singleton] at this
          omega
        generalize hLk : ixf (sel a1 a2) k 0 = L at *
        have nb : vp_nar .boolean (bi (30 ≤ k)) = bi (30 ≤ k) := by
          by_cases z : 30 ≤ k
          · rw [bi_t z]; rfl
          · rw [bi_f z]; rfl
        generalize hY2 : rf_i (rf_i Y 261 L.length (Int32.ofNat cc)) 262 L.length (bi (30 ≤ k)) = Y2
        have f2 : r8F M Y2 := by
          rw [← hY2]
          exact r8F_trans fY ⟨fun z _ z2 z3 => by rw [rf_i_c, if_neg z3, rf_i_c, if_neg z2], rfl⟩
        have ms : g_X14_missOf w Y2 (Int32.ofNat cc) (bi (30 ≤ k)) = some (msK w m k, Y2) := by
          have h2 := nA_8 hn f2
          unfold msK
          rcases ok with ⟨q1, q2⟩ | ⟨q1, q2⟩
          · rw [bi_f (by omega), if_pos q1, e2, if_pos q1]
            exact tm_r ja jn h2 q2
          · rw [bi_t q1, if_neg (by omega), e2, if_neg (by omega)]
            exact rm_r ja jn h2 q2
        generalize hY3 : rf_i (rf_i Y2 255 L.length (msK w m k)) 255 L.length (-(msK w m k)) = Y3
        have f3 : r8F M Y3 := by
          rw [← hY3]
          exact r8F_trans f2 ⟨fun z z1 _ _ => by rw [rf_i_c, if_neg z1, rf_i_c, if_neg z1], rfl⟩
        have S3 : rfS w m (L ++ [k]) Y3 := by
          intro i hi
          rw [List.length_append, List.length_singleton] at hi
          have c1 : Y3.1 261 = pu (Y.1 261) L.length (Int32.ofNat cc) := by rw [← hY3, rf_i_c, if_neg (by decide), rf_i_c, if_neg (by decide), ← hY2, rf_i_c, if_neg (by decide), rf_i_c, if_pos rfl]
          have c2 : Y3.1 262 = pu (Y.1 262) L.length (bi (30 ≤ k)) := by rw [← hY3, rf_i_c, if_neg (by decide), rf_i_c, if_neg (by decide), ← hY2, rf_i_c, if_pos rfl, rf_i_c, if_neg (by decide)]
          have c3 : Y3.1 255 = pu (pu (Y.1 255) L.length (msK w m k)) L.length (-(msK w m k)) := by rw [← hY3, rf_i_c, if_pos rfl, rf_i_c, if_pos rfl, ← hY2, rf_i_c, if_neg (by decide), rf_i_c, if_neg (by decide)]
          rw [c1, c2, c3]
          by_cases e : i = L.length
          · subst e
            rw [pu_at, pu_at, pu_at, List.getElem_append_right (Nat.le_refl _)]
            simp only [Nat.sub_self, List.getElem_cons_zero]
            exact ⟨by rw [e2], by trivial, by trivial⟩
          · rw [pu_ne e, pu_ne e, pu_ne e, pu_ne e, List.getElem_append_left (by omega)]
            exact hS i (by omega)
        have fin : ∀ s, s = bi (∀ q, q ∈ L ++ [k] → msK w m q ≠ -2147483648) → ∃ M', r8F M M' ∧ rfS w m (ixf (sel a1 a2) 42 0) M' ∧ g_X14_adjust_191 w (g_X14_adjust_80 w f) a1 a2 (Int32.ofNat L.length) (Int32.ofNat k) s (rf_i Y2 255 L.length (msK w m k)) = if bi (∀ q, q ∈ ixf (sel a1 a2) 42 0 → msK w m q ≠ -2147483648) = 0 then rf_b (g_X14_refused w M' 5) fun y0 m0 => some (y0, m0) else g_X14_adjust_229 w rf_fuel (Int32.ofNat (ixf (sel a1 a2) 42 0).length) 0 M' := by
          intro s hs'
          obtain ⟨M', k1, k2, k3⟩ := ih f (k + 1) Y3 (by omega) (by omega) f3 (by rw [sn]; exact S3)
          refine ⟨M', k1, k2, ?_⟩
          rw [← k3, sn, ← hs']
          unfold g_X14_adjust_191 g_X14_adjust_209
          have e0 : (rf_i Y2 255 L.length (msK w m k)).1 255 L.length = msK w m k := by rw [rf_i_c, if_pos rfl, pu_at]
          rw [gof (n := L.length) len (by decide), g_t, g_t, tn_of (n := L.length) (by omega), e0, hY3, of_succ, of_succ, List.length_append, List.length_singleton]
        have e255 : (rf_i Y2 255 L.length (msK w m k)).1 255 L.length = msK w m k := by rw [rf_i_c, if_pos rfl, pu_at]
        have alls : (∀ q, q ∈ L ++ [k] → msK w m q ≠ -2147483648) ↔ ((∀ q, q ∈ L → msK w m q ≠ -2147483648) ∧ msK w m k ≠ -2147483648) := ⟨fun h => ⟨fun q hq => h q (List.mem_append_left _ hq), h k (List.mem_append_right _ List.mem_cons_self)⟩, fun h q hq => by
          rcases List.mem_append.mp hq with z | z
          · exact h.1 q z
          · rw [List.mem_singleton.mp z]; exact h.2⟩
        rw [if_pos q, if_neg o1, gof (n := L.length) len (by decide), g_t, g_t, tn_of (n := L.length) (by omega), nb, hY2, ms, b_sm, g_t]
        unfold g_X14_adjust_190
        by_cases h : ∀ q, q ∈ L → msK w m q ≠ -2147483648
        · rw [bi_t h, if_neg o1, g_t, e255]
          by_cases h2 : msK w m k = -2147483648
          · rw [if_pos h2]
            exact fin 0 (bi_f (fun z => (alls.mp z).2 h2)).symm
          · rw [if_neg h2]
            exact fin 1 (bi_t (alls.mpr ⟨h, h2⟩)).symm
        · rw [bi_f h, if_pos rfl]
          exact fin 0 (bi_f (fun z => h (alls.mp z).1)).symm
      · rw [if_neg q, List.append_nil] at sn
        rw [if_neg q, if_pos rfl]
        unfold g_X14_adjust_209
        obtain ⟨M', k1, k2, k3⟩ := ih f (k + 1) Y (by omega) (by omega) fY (by rw [sn]; exact hS)
        rw [sn] at k3
        exact ⟨M', k1, k2, by rw [of_succ]; exact k3⟩
  obtain ⟨M', k1, k2, k3⟩ := key 42 FU 0 M (by omega) (by omega) ⟨fun _ _ _ _ => rfl, rfl⟩ (fun i hi => absurd hi (Nat.not_lt_zero _))
  have e0 : bi (∀ q, q ∈ ixf (sel a1 a2) 0 0 → msK w m q ≠ -2147483648) = 1 := bi_t (fun q hq => (by cases hq))
  rw [e0] at k3
  refine ⟨M', k1, ?_⟩
  rw [hF]
  have k3 : g_X14_adjust_80 w FU a1 a2 0 1 0 M = _ := k3
  rw [k3]
  by_cases h : ∀ q, q ∈ ixf (sel a1 a2) 42 0 → msK w m q ≠ -2147483648
  · rw [bi_t h, if_neg o1, hF]
    exact Or.inr ⟨h, rfl, k2⟩
  · rw [bi_f h, if_pos rfl]
    refine Or.inl ⟨?_, rfl⟩
    refine Classical.byContradiction fun no => h (fun q hq z => no ⟨q, hq, z⟩)
/-- who is in a condition -/
theorem partOf_r {w : rf_w} {m M : rf_m} {L : List Nat} {i a : Nat} (ja : JAng m) (jn : JNet m) (hn : nA w m M) (hS : rfS w m L M) (hi : i < L.length) (hL : L.length ≤ 6) (ok : okK m L[i]) (ha : a < 80) : g_X14_isPartOf w M (Int32.ofNat i) (Int32.ofNat a) = some (bi (mbK m L[i] a), M) := by
  obtain ⟨FU, hF, hFb⟩ := fuel_ex
  have o1 : ¬ (1 : Int32) = 0 := by decide
  obtain ⟨n30, n12⟩ := net30 jn
  have h80 := ang80 ja
  obtain ⟨s1, s2, _⟩ := hS i hi
  generalize hq : L[i] = q at *
  -- its size and angles
  have d : ∃ S : Nat, ∃ co : Nat → Int32, S ≤ 6 ∧ (∀ j, j < S → ib (co j) 80) ∧ g_X14_sizeOf w M (M.1 261 i) (M.1 262 i) = some (Int32.ofNat S, M) ∧ (∀ j, j < S → g_X14_angleIn w M (M.1 261 i) (M.1 262 i) (Int32.ofNat j) = some (co j, M)) ∧ (mbK m q a ↔ ∃ j, j < S ∧ co j = Int32.ofNat a) := by
    rcases ok with ⟨q1, q2⟩ | ⟨q1, q2⟩
    · refine ⟨3, fun j => m.1 243 (3 * q + j), by decide, fun j hj => (net_t jn ja q2 hj).1, ?_, fun j hj => ?_, ?_⟩
      · unfold g_X14_sizeOf
        rw [s2, bi_f (by omega), if_pos rfl]
        rfl
      · unfold g_X14_angleIn
        have e3 : 3 * Int32.ofNat q + Int32.ofNat j = Int32.ofNat (3 * q + j) := by rw [Int32.ofNat_add, Int32.ofNat_mul]; rfl
        rw [s1, s2, bi_f (by omega), if_pos rfl, if_pos q1, e3, gof (n := 3 * q + j) (by omega) (by decide), g_t, tn_of (n := 3 * q + j) (by omega), hn.1 243 (by omega)]
      · unfold mbK
        rw [if_pos q1]
    · have h6 := jn.2.2.2.2.2.2.2.2.2.2.1 (q - 30)
      have hb6 : (m.1 246 (q - 30)).toNatClampNeg ≤ 6 := tn_le h6.1 h6.2 (by decide)
      have hR := of_tn h6.1
      refine ⟨(m.1 246 (q - 30)).toNatClampNeg, fun j => m.1 245 (6 * (q - 30) + j), hb6, fun j hj => (net_r jn ja q2 hj).1, ?_, fun j hj => ?_, ?_⟩
      · unfold g_X14_sizeOf
        rw [s1, s2, bi_t q1, if_neg o1, if_neg (by omega), gof (n := q - 30) (by omega) (by decide), g_t, tn_of (n := q - 30) (by omega), hn.1 246 (by omega), hR]
      · unfold g_X14_angleIn
        have e3 : 6 * Int32.ofNat (q - 30) + Int32.ofNat j = Int32.ofNat (6 * (q - 30) + j) := by rw [Int32.ofNat_add, Int32.ofNat_mul]; rfl
        rw [s1, s2, bi_t q1, if_neg o1, if_neg (by omega), e3, gof (n := 6 * (q - 30) + j) (by omega) (by decide), g_t, tn_of (n := 6 * (q - 30) + j) (by omega), hn.1 245 (by omega)]
      · unfold mbK
        rw [if_neg (by omega)]
  obtain ⟨S, co, d1, d2, d3, d4, d5⟩ := d
  have gi : rf_in (Int32.ofNat i) 6 = true := gof (n := i) (by omega) (by decide)
  have ti : (Int32.ofNat i).toNatClampNeg = i := tn_of (by omega)
  have key : ∀ r f j, j + r = S → r < f → g_X14_isPartOf_5 w f (Int32.ofNat i) (Int32.ofNat a) (bi (∃ j', j' < j ∧ co j' = Int32.ofNat a)) (Int32.ofNat j) M = some (bi (mbK m q a), M) := by
    intro r
    induction r with
    | zero =>
      intro f j hj hf
      obtain ⟨f, rfl⟩ : ∃ g, f = g + 1 := ⟨f - 1, by omega⟩
      have e : j = S := by omega
      subst e
      show g_X14_isPartOf_5_b w _ _ _ _ _ M = _
      unfold g_X14_isPartOf_5_b
      rw [gi, g_t, g_t, ti, d3, b_sm, if_pos (Int32.le_refl _), bi_01, g_t, bi_congr d5]
    | succ r ih =>
      intro f j hj hf
      obtain ⟨f, rfl⟩ : ∃ g, f = g + 1 := ⟨f - 1, by omega⟩
      have i1 := ih f (j + 1) (by omega) (by omega)
      have z : ¬ Int32.ofNat S ≤ Int32.ofNat j := nle (by omega) (by omega)
      have s1' : (∃ j', j' < j + 1 ∧ co j' = Int32.ofNat a) ↔ ((∃ j', j' < j ∧ co j' = Int32.ofNat a) ∨ co j = Int32.ofNat a) := by
        constructor
        · rintro ⟨j', p1, p2⟩
          by_cases e : j' = j
          · rw [e] at p2; exact Or.inr p2
          · exact Or.inl ⟨j', by omega, p2⟩
        · rintro (⟨j', p1, p2⟩ | p)
          · exact ⟨j', by omega, p2⟩
          · exact ⟨j, by omega, p⟩
      show g_X14_isPartOf_5_b w (g_X14_isPartOf_5 w f) _ _ _ _ M = _
      unfold g_X14_isPartOf_5_b g_X14_isPartOf_52 g_X14_isPartOf_57
      rw [gi, g_t, g_t, ti, d3, b_sm, if_neg z, of_succ]
      by_cases h : ∃ j', j' < j ∧ co j' = Int32.ofNat a
      · rw [bi_t h, if_neg o1]
        rw [bi_t (s1'.mpr (Or.inl h))] at i1
        exact i1
      · rw [bi_f h, if_pos rfl, g_t, g_t, d4 j (by omega), b_sm]
        by_cases h2 : co j = Int32.ofNat a
        · rw [if_pos h2]
          rw [bi_t (s1'.mpr (Or.inr h2))] at i1
          exact i1
        · rw [if_neg h2]
          rw [bi_f (fun p => by rcases s1'.mp p with p | p; exact h p; exact h2 p)] at i1
          exact i1
  have k := key S FU 0 (by omega) (by omega)
  rw [bi_f (fun ⟨j', p, _⟩ => absurd p (Nat.not_lt_zero _))] at k
  unfold g_X14_isPartOf
  rw [hF]
  exact k
end PBConds
