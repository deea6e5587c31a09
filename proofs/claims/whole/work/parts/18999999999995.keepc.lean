/-! adjust: the class keeps what it solved -/
section PBKeepC
def cn (p : Nat → Int32) : Nat → Nat
  | 0 => 0
  | k + 1 => cn p k + if p k = 0 then 0 else 1
theorem cn_le {p : Nat → Int32} : ∀ k, cn p k ≤ k := by
  intro k
  induction k with
  | zero => exact Nat.le_refl _
  | succ k ih =>
    show cn p k + _ ≤ _
    split <;> omega
theorem cn_st {p : Nat → Int32} {n : Nat} : ∀ k, (∀ j, n ≤ j → j < n + k → p j = 0) → cn p (n + k) = cn p n := by
  intro k
  induction k with
  | zero => intro _; rfl
  | succ k ih =>
    intro h
    show cn p (n + k) + (if p (n + k) = 0 then 0 else 1) = _
    rw [if_pos (h (n + k) (by omega) (by omega)), ih (fun j h1 h2 => h j h1 (by omega))]
    rfl
theorem cn_c {p q : Nat → Int32} : ∀ k, (∀ j, j < k → (p j = 0 ↔ q j = 0)) → cn p k = cn q k := by
  intro k
  induction k with
  | zero => intro _; rfl
  | succ k ih =>
    intro h
    show cn p k + _ = cn q k + _
    rw [ih (fun j hj => h j (by omega))]
    by_cases e : p k = 0
    · rw [if_pos e, if_pos ((h k (by omega)).mp e)]
    · rw [if_neg e, if_neg (fun z => e ((h k (by omega)).mpr z))]
/-- what a cost is as a long -/
def cstI (v : Int) : Int := if -9223372036854775808 ≤ v ∧ v < 9223372036854775808 then v else -9223372036854775808
noncomputable def fK (w : rf_w) (m : rf_m) (L : List Nat) (i : Nat) : Int := Xk (aN w m L) L.length i (bN w m L)
noncomputable def oneK (w : rf_w) (m : rf_m) (L : List Nat) : Int := sm L.length (fun i => bN w m L i * fK w m L i)
noncomputable def DK (w : rf_w) (m : rf_m) (L : List Nat) : Int := dF L.length (aN w m L)
def kF (m m' : rf_m) : Prop := (∀ z, (z < 67 ∨ (78 < z ∧ z < 163) ∨ 174 < z) → m'.1 z = m.1 z) ∧ ∀ z, (z < 67 ∨ (78 < z ∧ z < 163) ∨ 174 < z) → m'.2 z = m.2 z
theorem kF_trans {a b c : rf_m} (h : kF a b) (k : kF b c) : kF a c := ⟨fun z hz => (k.1 z hz).trans (h.1 z hz), fun z hz => (k.2 z hz).trans (h.2 z hz)⟩
theorem kF_b {a : Nat} {m m' : rf_m} (h : bF a m m') (ha : (67 ≤ a ∧ a ≤ 77) ∨ (163 ≤ a ∧ a ≤ 173)) : kF m m' := ⟨fun z hz => h.1 z (by omega), fun z hz => h.2 z (by omega)⟩
theorem kF_q {a r s : Nat} {m m' : rf_m} (h : qF a r s m m') (ha : 67 ≤ a ∧ a ≤ 77) (hr : 67 ≤ r ∧ r ≤ 77) (hs : 67 ≤ s ∧ s ≤ 77) : kF m m' := ⟨fun z hz => h.1 z (by omega) (by omega) (by omega), fun z hz => h.2 z (by omega) (by omega) (by omega)⟩
theorem bg_k {m m' : rf_m} {b : Nat} {v : Int} (h : bg m b v) (f : kF m m') (hb : b + 1 < 67 ∨ (78 < b ∧ b + 1 < 163) ∨ 174 < b) : bg m' b v := bg_c h (f.1 b (by omega)) (f.2 (b + 1) (by omega))
theorem fK_bd {w : rf_w} {m : rf_m} {L : List Nat} (nb : nrmB (aN w m L) (bN w m L)) (hL : L.length ≤ 6) {i : Nat} (hi : i < L.length) : mg (fK w m L i) < 42535295865117307932921825928971026432 := by
  have h := Ent_bd (a := aN w m L) (b := bN w m L) (n := L.length) (k := L.length) (i := i) (j := 6) nb hL (Nat.le_refl _) hi
  unfold Ent colv at h
  rw [if_pos hi, if_pos rfl] at h
  exact h
theorem one_bd {w : rf_w} {m : rf_m} {L : List Nat} (nb : nrmB (aN w m L) (bN w m L)) (hL : L.length ≤ 6) : ∀ k, k ≤ L.length → mg (sm k (fun i => bN w m L i * fK w m L i)) ≤ (k : Int) * 3402823669209384634633746074317682114560000000 := by
  intro k hk
  refine mg_sm k (fun i hi => ?_)
  rw [mgm]
  have h1 := nb.2 i
  have h2 := fK_bd nb hL (i := i) (by omega)
  have a0 := mg_nn (bN w m L i)
  have b0 := mg_nn (fK w m L i)
  have := Int.mul_le_mul h1 (Int.le_of_lt h2) b0 (by omega)
  omega
/-- the class's sum of shares and numerators -/
theorem keep62_c {w : rf_w} {m X : rf_m} {L : List Nat} {v : Int32} (hg : gaS w m L X) (nb : nrmB (aN w m L) (bN w m L)) (hL : L.length ≤ 6) (ok : ∀ i (h : i < L.length), -80000000 ≤ (msK w m L[i]).toInt ∧ (msK w m L[i]).toInt ≤ 80000000) (hS : matS X L.length (Ent (aN w m L) (bN w m L) L.length)) (hD : bg X 65 (DK w m L)) (d0 : 0 < DK w m L) (h67 : bg X 67 0) : ∃ X', g_X0_keep_62 w rf_fuel v 0 X = some (v, X') ∧ (∀ z, (z < 63 ∨ (78 < z ∧ z < 163) ∨ 174 < z) → X'.1 z = X.1 z) ∧ (∀ z, (z < 55 ∨ (55 < z ∧ z < 63) ∨ (78 < z ∧ z < 163) ∨ 174 < z) → X'.2 z = X.2 z) ∧ (∀ k, k ≠ 0 → X'.2 55 k = X.2 55 k) ∧ (X'.2 55 0).toInt = cstI (oneK w m L * 2520000 / DK w m L) ∧ bg X' 63 (DK w m L) ∧ ∀ i, i < L.length → bg X' (163 + 2 * i) (fK w m L i) := by
  obtain ⟨FU, hF, hFb⟩ := fuel_ex
  have p1 : pB 1 = 1073741824 := by decide
  have p5 := pB5
  have p9 := pB9
  have key : ∀ r f i (Y : rf_m), i + r = L.length → r < f → kF X Y → bg Y 67 (sm i (fun i => bN w m L i * fK w m L i)) → (∀ i', i' < i → bg Y (163 + 2 * i') (fK w m L i')) → ∃ X', g_X0_keep_62 w f v (Int32.ofNat i) Y = some (v, X') ∧ (∀ z, (z < 63 ∨ (78 < z ∧ z < 163) ∨ 174 < z) → X'.1 z = X.1 z) ∧ (∀ z, (z < 55 ∨ (55 < z ∧ z < 63) ∨ (78 < z ∧ z < 163) ∨ 174 < z) → X'.2 z = X.2 z) ∧ (∀ k, k ≠ 0 → X'.2 55 k = X.2 55 k) ∧ (X'.2 55 0).toInt = cstI (oneK w m L * 2520000 / DK w m L) ∧ bg X' 63 (DK w m L) ∧ ∀ i, i < L.length → bg X' (163 + 2 * i) (fK w m L i) := by
    intro r
    induction r with
    | zero =>
      intro f i Y hi hf fY h67 hFF
      obtain ⟨f, rfl⟩ : ∃ g, f = g + 1 := ⟨f - 1, by omega⟩
      have e : i = L.length := by omega
      subst e
      have e8 : Y.1 55 8 = Int32.ofNat L.length := by rw [fY.1 55 (by omega)]; exact hg.1
      have ob := one_bd nb hL L.length (Nat.le_refl _)
      have h67 : bg Y 67 (oneK w m L) := h67
      have ob : mg (oneK w m L) ≤ (L.length : Int) * 3402823669209384634633746074317682114560000000 := ob
      have m2 : mg 2520000 = 2520000 := rfl
      have z2 : (2520000 : Int64).toInt = 2520000 := rfl
      obtain ⟨M1, s1, s2, s3⟩ := setLong_c (w := w) (m := Y) (a := 69) (x := 2520000) bC_69 (by decide)
      rw [z2] at s3
      obtain ⟨M2, t1, t2, t3⟩ := setProduct_c (w := w) (m := M1) (a := 71) (b := 67) (c := 69) (p := 9) (q := 1) bC_71 bC_67 bC_69 (by decide) (by decide) (bg_F h67 s2 (by decide)) s3 (by omega) (by omega) (by decide)
      have f2 : kF X M2 := kF_trans fY (kF_trans (kF_b s2 (by decide)) (kF_b t2 (by decide)))
      have mm : mg (oneK w m L * 2520000) < pB 9 := by rw [mgm, m2]; omega
      obtain ⟨M3, u1, u2, u3⟩ := setFloor_c (w := w) (m := M2) (a := 67) (b := 71) (c := 65) (r := 75) (s := 77) bC_67 bC_71 bC_65 bC_75 bC_77 (by decide) (by decide) (by decide) (by decide) (by decide) (by decide) (by decide) (by decide) (by decide) t3 (bg_k hD f2 (by decide)) mm d0
      have f3 : kF X M3 := kF_trans f2 (kF_q u2 (by decide) (by decide) (by decide))
      have hFF3 : ∀ i, i < L.length → bg M3 (163 + 2 * i) (fK w m L i) := fun i hi => bg_q (bg_F (bg_F (hFF i hi) s2 (by omega)) t2 (by omega)) u2 (by omega) (by omega) (by omega)
      have fin : ∀ c : Int64, c.toInt = cstI (oneK w m L * 2520000 / DK w m L) → ∃ X', (rf_bv (g_X1_copyFrom w (rf_l M3 55 0 c) 63 65) fun m4 => some (v, m4)) = some (v, X') ∧ (∀ z, (z < 63 ∨ (78 < z ∧ z < 163) ∨ 174 < z) → X'.1 z = X.1 z) ∧ (∀ z, (z < 55 ∨ (55 < z ∧ z < 63) ∨ (78 < z ∧ z < 163) ∨ 174 < z) → X'.2 z = X.2 z) ∧ (∀ k, k ≠ 0 → X'.2 55 k = X.2 55 k) ∧ (X'.2 55 0).toInt = cstI (oneK w m L * 2520000 / DK w m L) ∧ bg X' 63 (DK w m L) ∧ ∀ i, i < L.length → bg X' (163 + 2 * i) (fK w m L i) := fun c hc => by
        have fl : ∀ {b : Nat} {x : Int}, b + 1 ≠ 55 → bg M3 b x → bg (rf_l M3 55 0 c) b x := fun {b x} nb h => bg_c h rfl (by rw [rf_l_c, if_neg nb])
        obtain ⟨M4, v1, v2, v3⟩ := copyFrom_c (w := w) (m := rf_l M3 55 0 c) (a := 63) (b := 65) bC_63 bC_65 (by decide) (fl (by decide) (bg_k hD f3 (by decide)))
        refine ⟨M4, by rw [v1, bv_sm], fun z hz => ?_, fun z hz => ?_, fun k hk => ?_, ?_, v3, fun i hi => bg_F (fl (by omega) (hFF3 i hi)) v2 (by omega)⟩
        · rw [v2.1 z (by omega)]
          exact f3.1 z (by omega)
        · rw [v2.2 z (by omega), rf_l_c, if_neg (by omega)]
          exact f3.2 z (by omega)
        · rw [v2.2 55 (by decide), rf_l_c, if_pos rfl, pu_ne hk, f3.2 55 (by omega)]
        · rw [v2.2 55 (by decide), rf_l_c, if_pos rfl, pu_at]; exact hc
      have iL := isLong_c (w := w) bC_67 u3
      show ∃ X', g_X0_keep_62_b w _ _ _ Y = _ ∧ _
      unfold g_X0_keep_62_b
      rw [e8, if_pos (Int32.le_refl _), s1, bv_sm, t1, bv_sm, u1, bv_sm, iL, b_sm]
      by_cases q : mg (oneK w m L * 2520000 / DK w m L) < 9223372036854775808
      · obtain ⟨x, x1, x2⟩ := toLong_c bC_67 u3 q
        have o1 : ¬ (1 : Int32) = 0 := by decide
        rw [bi_t q, if_neg o1, x1, b_sm]
        have q' := mg_le.mp q
        exact fin x (by unfold cstI; rw [if_pos (by omega), x2])
      · rw [bi_f q, if_pos rfl]
        refine fin _ ?_
        have zz : (-9223372036854775808 : Int64).toInt = -9223372036854775808 := rfl
        rw [zz]
        unfold cstI
        by_cases c : -9223372036854775808 ≤ oneK w m L * 2520000 / DK w m L ∧ oneK w m L * 2520000 / DK w m L < 9223372036854775808
        · rw [if_pos c]
          have : ¬ (-9223372036854775808 < oneK w m L * 2520000 / DK w m L ∧ oneK w m L * 2520000 / DK w m L < 9223372036854775808) := fun z => q (mg_le.mpr z)
          omega
        · rw [if_neg c]
    | succ r ih =>
      intro f i Y hi hf fY h67 hFF
      obtain ⟨f, rfl⟩ : ∃ g, f = g + 1 := ⟨f - 1, by omega⟩
      have il : i < L.length := by omega
      have e8 : Y.1 55 8 = Int32.ofNat L.length := by rw [fY.1 55 (by omega)]; exact hg.1
      have nl : ¬ Int32.ofNat L.length ≤ Int32.ofNat i := nle (by omega) (by omega)
      have gi : rf_in (Int32.ofNat i) 6 = true := gof (n := i) (by omega) (by decide)
      have ti : (Int32.ofNat i).toNatClampNeg = i := tn_of (by omega)
      have bf := bC_f (w := w) i (by omega)
      have bm6 := bC_mc (w := w) (i := i) (j := 6) (by omega) (by omega)
      have h6 := hS i 6 il (Or.inr rfl)
      have eE : Ent (aN w m L) (bN w m L) L.length i 6 = fK w m L i := by
        unfold Ent colv
        rw [if_pos il, if_pos rfl]; rfl
      rw [eE] at h6
      have rm : mcl i 6 = 79 + 2 * (7 * i + 6) := rfl
      obtain ⟨M1, s1, s2, s3⟩ := copyFrom_c (w := w) (m := Y) (a := 163 + 2 * i) (b := mcl i 6) bf bm6 (by omega) (bg_k h6 fY (by omega))
      obtain ⟨o1, o2⟩ := ok i il
      have e60 : M1.1 60 i = msK w m L[i] := by rw [s2.1 60 (by omega), fY.1 60 (by omega)]; exact hg.2.1 i il
      have en : (Int32.toInt64 (-(M1.1 60 i))).toInt = bN w m L i := by
        unfold bN
        rw [dif_pos il, e60, i2l, Int32.toInt_neg, bm32 (by omega) (by omega)]
      have nb2 : -80000000 ≤ bN w m L i ∧ bN w m L i ≤ 80000000 := by
        unfold bN
        rw [dif_pos il]; omega
      obtain ⟨M2, t1, t2, t3⟩ := setLong_c (w := w) (m := M1) (a := 69) (x := Int32.toInt64 (-(M1.1 60 i))) bC_69 (by rw [en]; omega)
      rw [en] at t3
      have fb := fK_bd nb hL il
      have hb := nb.2 i
      obtain ⟨M3, u1, u2, u3⟩ := setProduct_c (w := w) (m := M2) (a := 71) (b := 69) (c := 163 + 2 * i) (p := 1) (q := 5) bC_71 bC_69 bf (by decide) (by omega) t3 (bg_F s3 t2 (by omega)) (by omega) (by omega) (by decide)
      have ob := one_bd nb hL i (by omega)
      have mp : mg (bN w m L i * fK w m L i) ≤ 3402823669209384634633746074317682114560000000 := by
        rw [mgm]
        have a0 := mg_nn (bN w m L i)
        have b0 := mg_nn (fK w m L i)
        have := Int.mul_le_mul hb (Int.le_of_lt fb) b0 (by omega)
        omega
      obtain ⟨M4, v1, v2, v3⟩ := addSigned_c (w := w) (m := M3) (a := 67) (b := 71) (less := 0) bC_67 bC_71 (by decide) (Or.inl rfl) (bg_F (bg_F (bg_F h67 s2 (by omega)) t2 (by decide)) u2 (by decide)) u3 (by omega) (by omega)
      rw [if_pos rfl] at v3
      obtain ⟨X', k1, k2⟩ := ih f (i + 1) M4 (by omega) (by omega) (kF_trans fY (kF_trans (kF_b s2 (by omega)) (kF_trans (kF_b t2 (by decide)) (kF_trans (kF_b u2 (by decide)) (kF_b v2 (by decide)))))) v3 (fun i' hi' => by
        refine bg_F (bg_F (bg_F ?_ t2 (by omega)) u2 (by omega)) v2 (by omega)
        by_cases e : i' = i
        · rw [e]; exact s3
        · exact bg_F (hFF i' (by omega)) s2 (by omega))
      refine ⟨X', ?_, k2⟩
      rw [← k1]
      show g_X0_keep_62_b w _ _ _ Y = _
      have e7 : Int32.ofNat i * 7 + 6 = Int32.ofNat (7 * i + 6) := idx7 (i := i) (j := 6) (by omega) (by omega)
      have t1 : g_X1_setLong w M1 69 (Int32.toInt64 (-(M1.1 60 (Int32.ofNat i).toNatClampNeg))) = some M2 := by rw [ti]; exact t1
      unfold g_X0_keep_62_b
      rw [e8, if_neg nl, gi, g_t, ti, Rt_62 i (by omega)]
      show rf_g (rf_isO w (163 + 2 * i) 1) (rf_g (rf_isR w (163 + 2 * i) 2 (163 + 2 * i + 1)) (rf_g (rf_isA w (163 + 2 * i + 1) .long 10) (rf_g (rf_in ((Int32.ofNat i * 7) + 6) 42) _))) = _
      rw [bC_g bf, e7, gof (n := 7 * i + 6) (by omega) (by decide), g_t, tn_of (n := 7 * i + 6) (by omega), Rt_61 (7 * i + 6) (by omega)]
      show rf_g (rf_isO w (mcl i 6) 1) (rf_g (rf_isR w (mcl i 6) 2 (mcl i 6 + 1)) (rf_g (rf_isA w (mcl i 6 + 1) .long 10) (rf_bv (g_X1_copyFrom w Y (163 + 2 * i) (mcl i 6)) _))) = _
      rw [bC_g bm6, s1, bv_sm, g_t, ← ti, t1, bv_sm, g_t, ti]
      show rf_g (rf_isO w (163 + 2 * i) 1) (rf_g (rf_isR w (163 + 2 * i) 2 (163 + 2 * i + 1)) (rf_g (rf_isA w (163 + 2 * i + 1) .long 10) (rf_bv (g_X1_setProduct w M2 71 69 (163 + 2 * i)) _))) = _
      rw [bC_g bf, u1, bv_sm, v1, bv_sm, of_succ]
  rw [hF]
  exact key L.length FU 0 X (by omega) (by omega) ⟨fun _ _ => rfl, fun _ _ => rfl⟩ h67 (fun i' h => by omega)
end PBKeepC
