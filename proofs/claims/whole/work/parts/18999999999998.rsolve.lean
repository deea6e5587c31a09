/-! adjust: the reference solves -/
section PBRsolve
theorem div_bd {N D B : Int} (d0 : 0 < D) (h1 : -B < N) (h2 : N < B) : -B ≤ N / D ∧ N / D < B := by
  have d := Int.emod_add_mul_ediv N D
  have r0 := Int.emod_nonneg N (show D ≠ 0 by omega)
  have r1 := Int.emod_lt_of_pos N d0
  constructor
  · refine Classical.byContradiction fun z => ?_
    have h := Int.mul_le_mul_of_nonneg_left (show N / D ≤ -B - 1 by omega) (show 0 ≤ D by omega)
    have e : D * (-B - 1) = -(D * B) - D := by grind
    have e2 : B ≤ D * B := by
      have := Int.mul_le_mul_of_nonneg_right (show (1 : Int) ≤ D by omega) (show 0 ≤ B by omega)
      omega
    omega
  · refine Classical.byContradiction fun z => ?_
    have h := Int.mul_le_mul_of_nonneg_left (show B ≤ N / D by omega) (show 0 ≤ D by omega)
    have e2 : B ≤ D * B := by
      have := Int.mul_le_mul_of_nonneg_right (show (1 : Int) ≤ D by omega) (show 0 ≤ B by omega)
      omega
    omega
theorem adR_dt {c : Nat} {a b : rf_m} (h : dtF c a b) (hc : c = 258 ∨ c = 260) : adR a b := ⟨fun z hz => h.1 z (by omega) (by omega) (by omega), fun k _ => by rw [h.1 206 (by decide) (by decide) (by omega)], h.2⟩
def rsH (w : rf_w) (m : rf_m) (L : List Nat) (M : rf_m) : Prop := (∀ i j, i < L.length → j < L.length → (M.1 254 (6 * i + j)).toInt = aN w m L j i) ∧ ∀ i, i < L.length → (M.1 255 i).toInt = bN w m L i
theorem rsH_c {w : rf_w} {m M M' : rf_m} {L : List Nat} (h : rsH w m L M) (e1 : M'.1 254 = M.1 254) (e2 : M'.1 255 = M.1 255) : rsH w m L M' := by
  unfold rsH
  rw [e1, e2]; exact h
theorem rsH_ok {w : rf_w} {m M : rf_m} {L : List Nat} (h : rsH w m L M) (nb : nrmB (aN w m L) (bN w m L)) : (∀ i, i < L.length → M.1 255 i ≠ -2147483648) ∧ ∀ i j, i < L.length → j < L.length → M.1 254 (6 * i + j) ≠ -2147483648 := by
  have z : (-2147483648 : Int32).toInt = -2147483648 := rfl
  constructor
  · intro i hi e
    have h1 := h.2 i hi
    have h2 := nb.2 i
    rw [e, z] at h1
    rw [← h1] at h2
    exact absurd h2 (by decide)
  · intro i j hi hj e
    have h1 := h.1 i j hi hj
    have h2 := nb.1 j i
    rw [e, z] at h1
    rw [← h1] at h2
    exact absurd h2 (by decide)
theorem rsH_m {w : rf_w} {m M : rf_m} {L : List Nat} (h : rsH w m L M) (hL : L.length ≤ 6) : dF L.length (clM M (-1)) = DK w m L := by
  refine dF_c (fun i j hi hj => ?_)
  unfold clM
  rw [if_neg]
  · exact h.1 i j hi hj
  · intro z
    have := congrArg Int32.toInt z
    rw [ofI (by omega)] at this
    have z1 : (-1 : Int32).toInt = -1 := rfl
    omega
theorem rsH_x {w : rf_w} {m M : rf_m} {L : List Nat} {j : Nat} (h : rsH w m L M) (hL : L.length ≤ 6) (hj : j < L.length) : dF L.length (clM M (Int32.ofNat j)) = fK w m L j := by
  refine dF_c (fun i j' hi hj' => ?_)
  unfold clM
  by_cases e : j' = j
  · subst e
    rw [if_pos rfl, pu_at]
    exact h.2 i hi
  · rw [if_neg (fun z => e ((of_inj (by omega) (by omega)).mp z)), pu_ne e]
    exact h.1 i j' hi hj'
theorem DK_bd {w : rf_w} {m : rf_m} {L : List Nat} (nb : nrmB (aN w m L) (bN w m L)) (hL : L.length ≤ 6) : mg (DK w m L) < 1329227995784915872903807060280344576 := by
  have h1 := Dk_bd (k := L.length) nb
  have h2 := nums.2.1 L.length hL
  unfold Dk at h1
  unfold DK
  omega
/-- columns one by one, then the cost -/
theorem cols_r {w : rf_w} {m M : rf_m} {L : List Nat} (nb : nrmB (aN w m L) (bN w m L)) (hL : L.length ≤ 6) (h : rsH w m L M) (d0 : 0 < DK w m L) (h259 : w6 (M.1 259) 0 = DK w m L) (h253 : w6 (M.1 253) 0 = DK w m L) (h252 : wd (M.1 252) 0 0) : ∃ M' s1, adR M M' ∧ M'.1 265 = M.1 265 ∧ M'.1 263 = M.1 263 ∧ M'.1 264 = M.1 264 ∧ w6 (M'.1 259) 0 = DK w m L ∧ (∀ i, i < L.length → wd (M'.1 258) (6 * i) (fK w m L i)) ∧ g_X14_adjust_432 w rf_fuel (Int32.ofNat L.length) 0 M = g_X14_adjust_557 w rf_fuel (Int32.ofNat L.length) 0 0 (rf_l M' 206 89 s1) ∧ s1.toInt = cstI (oneK w m L * 2520000 / DK w m L) := by
  obtain ⟨FU, hF, hFb⟩ := fuel_ex
  have o1 : ¬ (1 : Int32) = 0 := by decide
  have zo : Int32.ofNat 0 = 0 := rfl
  have p6 : pW 6 = 6277101735386680763835789423207666416102355444464034512896 := by decide
  have key : ∀ r f i (Y : rf_m), i + r = L.length → r < f → adR M Y → Y.1 254 = M.1 254 → Y.1 265 = M.1 265 → Y.1 263 = M.1 263 → Y.1 264 = M.1 264 → Y.1 259 = M.1 259 → Y.1 253 = M.1 253 → wd (Y.1 252) 0 (sm i (fun i => bN w m L i * fK w m L i)) → (∀ i', i' < i → wd (Y.1 258) (6 * i') (fK w m L i')) → ∃ M' s1, adR M M' ∧ M'.1 265 = M.1 265 ∧ M'.1 263 = M.1 263 ∧ M'.1 264 = M.1 264 ∧ w6 (M'.1 259) 0 = DK w m L ∧ (∀ i, i < L.length → wd (M'.1 258) (6 * i) (fK w m L i)) ∧ g_X14_adjust_432 w f (Int32.ofNat L.length) (Int32.ofNat i) Y = g_X14_adjust_557 w rf_fuel (Int32.ofNat L.length) 0 0 (rf_l M' 206 89 s1) ∧ s1.toInt = cstI (oneK w m L * 2520000 / DK w m L) := by
    intro r
    induction r with
    | zero =>
      intro f i Y hi hf fY e254 e265 e263 e264 e259 e253 h2 h8
      obtain ⟨f, rfl⟩ : ∃ g, f = g + 1 := ⟨f - 1, by omega⟩
      have e : i = L.length := by omega
      subst e
      have h2 : wd (Y.1 252) 0 (oneK w m L) := h2
      have ob : mg (oneK w m L) ≤ (L.length : Int) * 3402823669209384634633746074317682114560000000 := one_bd nb hL L.length (Nat.le_refl _)
      have db := DK_bd nb hL
      have z2 : (2520000 : Int32).toInt = 2520000 := rfl
      obtain ⟨F1, a1, a2, a3⟩ := tm_257_252 (w := w) (m := Y) (p := 0) (q := 0) (by_ := 2520000) (by decide) (by decide) h2
      rw [z2] at a3
      obtain ⟨F2, b1, b2, b3⟩ := cp_252_257 (w := w) (m := stc Y 257 F1) (p := 0) (q := 0) (by decide) (by decide) (by rw [stc_at]; exact a3)
      rw [zo] at a1 b1
      have ob' := (mg_le (v := oneK w m L) (B := 20416942015256307807802476445906092687360000001)).mp (by omega)
      have xb : -3138550867693340381917894711603833208051177722232017256448 < oneK w m L * 2520000 ∧ oneK w m L * 2520000 < 3138550867693340381917894711603833208051177722232017256448 := by omega
      have db' := mg_le.mp db
      obtain ⟨m4, c1, c2, c3, c4⟩ := floors_r (w := w) (m := stc (stc Y 257 F1) 252 F2) (x := oneK w m L * 2520000) (D := DK w m L) (by rw [stc_at]; exact b3) xb.1 xb.2 (by rw [stc_ne (by decide), stc_ne (by decide), e253]; exact h253) d0 (by omega)
      have vb := div_bd (B := 3138550867693340381917894711603833208051177722232017256448) d0 xb.1 xb.2
      have iL := isLong_r c4 vb.1 vb.2 (w := w)
      have e4 : ∀ z, z ≠ 249 → z ≠ 250 → z ≠ 251 → z ≠ 252 → z ≠ 257 → m4.1 z = Y.1 z := fun z z1 z2 z3 z4 z5 => by rw [c2 z z1 z2 z3 z4, stc_ne z4, stc_ne z5]
      have f4 : adR M m4 := adR_trans fY ⟨fun z hz => e4 z (by omega) (by omega) (by omega) (by omega) (by omega), fun k _ => by rw [e4 206 (by decide) (by decide) (by decide) (by decide) (by decide)], c3⟩
      have st : ∀ s1, (g_X14_adjust_548 w (Int32.ofNat L.length) s1 m4) = g_X14_adjust_557 w rf_fuel (Int32.ofNat L.length) 0 0 (rf_l m4 206 89 s1) := fun _ => rfl
      have go : ∃ s1, g_X14_adjust_432 w (f + 1) (Int32.ofNat L.length) (Int32.ofNat L.length) Y = g_X14_adjust_557 w rf_fuel (Int32.ofNat L.length) 0 0 (rf_l m4 206 89 s1) ∧ s1.toInt = cstI (oneK w m L * 2520000 / DK w m L) := by
        have s0 : g_X14_adjust_432 w (f + 1) (Int32.ofNat L.length) (Int32.ofNat L.length) Y = g_X14_adjust_432_b w (g_X14_adjust_432 w f) (Int32.ofNat L.length) (Int32.ofNat L.length) Y := rfl
        rw [s0]
        unfold g_X14_adjust_432_b
        rw [if_pos (Int32.le_refl _), a1, bv_sm, b1, bv_sm, c1, bv_sm, iL, b_sm]
        unfold cstI
        by_cases q : -9223372036854775808 ≤ oneK w m L * 2520000 / DK w m L ∧ oneK w m L * 2520000 / DK w m L < 9223372036854775808
        · obtain ⟨x, x1, x2⟩ := quoL_r (w := w) (m := m4)
          refine ⟨x, ?_, ?_⟩
          · rw [bi_t q, if_neg o1, x1, b_sm]
            rfl
          · rw [if_pos q]; exact x2 _ c4 q.1 q.2
        · refine ⟨-9223372036854775808, ?_, ?_⟩
          · rw [bi_f q, if_pos rfl]
            rfl
          · rw [if_neg q]; rfl
      obtain ⟨s1, g1, g2⟩ := go
      exact ⟨m4, s1, f4, by rw [e4 265 (by decide) (by decide) (by decide) (by decide) (by decide)]; exact e265, by rw [e4 263 (by decide) (by decide) (by decide) (by decide) (by decide)]; exact e263, by rw [e4 264 (by decide) (by decide) (by decide) (by decide) (by decide)]; exact e264, by rw [e4 259 (by decide) (by decide) (by decide) (by decide) (by decide), e259]; exact h259, fun i hi => by rw [e4 258 (by decide) (by decide) (by decide) (by decide) (by decide)]; exact h8 i hi, g1, g2⟩
    | succ r ih =>
      intro f i Y hi hf fY e254 e265 e263 e264 e259 e253 h2 h8
      obtain ⟨f, rfl⟩ : ∃ g, f = g + 1 := ⟨f - 1, by omega⟩
      have il : i < L.length := by omega
      have nl : ¬ Int32.ofNat L.length ≤ Int32.ofNat i := nle (by omega) (by omega)
      have gi : rf_in (Int32.ofNat i) 6 = true := gof (n := i) (by omega) (by decide)
      have ti : (Int32.ofNat i).toNatClampNeg = i := tn_of (by omega)
      have hY : rsH w m L Y := rsH_c h e254 (fY.1 255 (by omega))
      have ko := rsH_ok hY nb
      obtain ⟨M1, a1, a2, a3, a4⟩ := det_258 (w := w) (m := Y) (n := L.length) (at_ := 6 * i) (col := Int32.ofNat i) hL (by omega) ko.1 ko.2
      rw [rsH_x hY hL il] at a4
      obtain ⟨F1, b1, b2, b3⟩ := tm_257_258 (w := w) (m := M1) (p := 0) (q := 6 * i) (by_ := M1.1 255 i) (by decide) (by omega) a4
      have e255 : (M1.1 255 i).toInt = bN w m L i := by rw [a2.1 255 (by decide) (by decide) (by decide)]; exact hY.2 i il
      rw [e255] at b3
      obtain ⟨F2, c1, c2, c3⟩ := ad_252_257 (w := w) (m := stc M1 257 F1) (p := 0) (q := 0) (by decide) (by decide) (by rw [stc_ne (by decide), a2.1 252 (by decide) (by decide) (by decide)]; exact h2) (by rw [stc_at]; exact b3)
      rw [zo] at b1 c1
      have e3 : ∀ z, z ≠ 252 → z ≠ 256 → z ≠ 257 → z ≠ 258 → (stc (stc M1 257 F1) 252 F2).1 z = Y.1 z := fun z z1 z2 z3 z4 => by rw [stc_ne z1, stc_ne z3, a2.1 z z2 z3 z4]
      obtain ⟨M', s1, k1, k2, k3, k4, k5, k6, k7, k8⟩ := ih f (i + 1) (stc (stc M1 257 F1) 252 F2) (by omega) (by omega) (adR_trans fY (adR_trans (adR_dt a2 (by decide)) (adR_trans (adR_c (by omega)) (adR_c (by omega))))) (by rw [e3 254 (by decide) (by decide) (by decide) (by decide)]; exact e254) (by rw [e3 265 (by decide) (by decide) (by decide) (by decide)]; exact e265) (by rw [e3 263 (by decide) (by decide) (by decide) (by decide)]; exact e263) (by rw [e3 264 (by decide) (by decide) (by decide) (by decide)]; exact e264) (by rw [e3 259 (by decide) (by decide) (by decide) (by decide)]; exact e259) (by rw [e3 253 (by decide) (by decide) (by decide) (by decide)]; exact e253) (by
        rw [stc_at]
        have es : sm (i + 1) (fun i => bN w m L i * fK w m L i) = sm i (fun i => bN w m L i * fK w m L i) + bN w m L i * fK w m L i := rfl
        rw [es, Int.mul_comm (bN w m L i)]
        exact c3) (fun i' hi' => by
        rw [stc_ne (by decide), stc_ne (by decide)]
        by_cases e : i' = i
        · rw [e]; exact a4
        · exact wd_c (h8 i' (by omega)) (fun k hk => a3 (6 * i' + k) (by omega)))
      refine ⟨M', s1, k1, k2, k3, k4, k5, k6, ?_, k8⟩
      rw [← k7]
      show g_X14_adjust_432_b w _ _ _ Y = _
      unfold g_X14_adjust_432_b
      rw [if_neg nl, idx60 (by omega), a1, bv_sm, gi, g_t, ti, b1, bv_sm, c1, bv_sm, of_succ]
  have k := key L.length FU 0 M (by omega) (by omega) adR_refl rfl rfl rfl rfl rfl rfl h252 (fun i h => by omega)
  rw [← hF] at k
  exact k
/-- the pivot -/
theorem pivot_r {w : rf_w} {m M : rf_m} {L : List Nat} (nb : nrmB (aN w m L) (bN w m L)) (hL : L.length ≤ 6) (h : rsH w m L M) (d0 : 0 ≤ DK w m L) : (DK w m L = 0 ∧ ∃ M', adR M M' ∧ M'.1 263 = M.1 263 ∧ M'.1 264 = M.1 264 ∧ M'.1 259 = M.1 259 ∧ g_X14_adjust_264 w 1 (Int32.ofNat L.length) (Int32.ofNat L.length) M = rf_b (g_X14_refused w M' 6) fun y5 m5 => some (y5, m5)) ∨ (0 < DK w m L ∧ ∃ M' s1, adR M M' ∧ M'.1 265 = M.1 265 ∧ w6 (M'.1 259) 0 = DK w m L ∧ (∀ i, i < L.length → wd (M'.1 258) (6 * i) (fK w m L i)) ∧ g_X14_adjust_264 w 1 (Int32.ofNat L.length) (Int32.ofNat L.length) M = g_X14_adjust_557 w rf_fuel (Int32.ofNat L.length) 0 0 (rf_l M' 206 89 s1) ∧ s1.toInt = cstI (oneK w m L * 2520000 / DK w m L)) := by
  have o1 : ¬ (1 : Int32) = 0 := by decide
  have zo : Int32.ofNat 0 = 0 := rfl
  have p6 : pW 6 = 6277101735386680763835789423207666416102355444464034512896 := by decide
  have ko := rsH_ok h nb
  have db := mg_le.mp (DK_bd nb hL)
  obtain ⟨M1, a1, a2, a3, a4⟩ := det_260 (w := w) (m := M) (n := L.length) (at_ := 0) (col := -1) hL (by decide) ko.1 ko.2
  rw [rsH_m h hL] at a4
  rw [zo] at a1
  have w0 : w6 (M1.1 260) 0 = DK w m L := wd_nn a4 d0 (by omega)
  have iz := iz_260 (w := w) (m := M1)
  rw [w0] at iz
  have st : g_X14_adjust_264 w 1 (Int32.ofNat L.length) (Int32.ofNat L.length) M = g_X14_adjust_264_b w (g_X14_adjust_264 w 0) (Int32.ofNat L.length) (Int32.ofNat L.length) M := rfl
  rw [st]
  unfold g_X14_adjust_264_b
  rw [if_pos (Int32.le_refl _), a1, bv_sm, iz, b_sm]
  by_cases q : DK w m L = 0
  · refine Or.inl ⟨q, M1, adR_dt a2 (by decide), a2.1 263 (by decide) (by decide) (by decide), a2.1 264 (by decide) (by decide) (by decide), a2.1 259 (by decide) (by decide) (by decide), ?_⟩
    rw [bi_t q, if_neg o1]
  · have dp : 0 < DK w m L := by omega
    obtain ⟨F1, b1, b2, b3⟩ := cp_259_260 (w := w) (m := M1) (p := 0) (q := 0) (by decide) (by decide) a4
    obtain ⟨F2, c1, c2, c3⟩ := cp_253_259 (w := w) (m := stc M1 259 F1) (p := 0) (q := 0) (by decide) (by decide) (by rw [stc_at]; exact b3)
    obtain ⟨F3, d1, d2, d3⟩ := st_252 (w := w) (m := stc (stc M1 259 F1) 253 F2) (p := 0) (v := 0) (by decide)
    have z0 : (0 : Int64).toInt = 0 := rfl
    rw [z0] at d3
    rw [zo] at b1 c1 d1
    have e3 : ∀ z, z ≠ 252 → z ≠ 253 → z ≠ 256 → z ≠ 257 → z ≠ 259 → z ≠ 260 → (stc (stc (stc M1 259 F1) 253 F2) 252 F3).1 z = M.1 z := fun z z1 z2 z3 z4 z5 z6 => by rw [stc_ne z1, stc_ne z2, stc_ne z5, a2.1 z z3 z4 z6]
    obtain ⟨M', s1, k1, k2, k3, k4, k5, k6, k7, k8⟩ := cols_r (w := w) (m := m) (M := stc (stc (stc M1 259 F1) 253 F2) 252 F3) nb hL (rsH_c h (e3 254 (by decide) (by decide) (by decide) (by decide) (by decide) (by decide)) (e3 255 (by decide) (by decide) (by decide) (by decide) (by decide) (by decide))) dp (by rw [stc_ne (by decide), stc_ne (by decide), stc_at]; exact wd_nn b3 d0 (by omega)) (by rw [stc_ne (by decide), stc_at]; exact wd_nn c3 d0 (by omega)) (by rw [stc_at]; exact d3)
    refine Or.inr ⟨dp, M', s1, adR_trans (adR_trans (adR_dt a2 (by decide)) (adR_trans (adR_c (by omega)) (adR_trans (adR_c (by omega)) (adR_c (by omega))))) k1, by rw [k2]; exact e3 265 (by decide) (by decide) (by decide) (by decide) (by decide) (by decide), k5, k6, ?_, k8⟩
    rw [bi_f q, if_pos rfl, b1, bv_sm, c1, bv_sm, d1, bv_sm]
    exact k7
end PBRsolve
