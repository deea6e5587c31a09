/-! adjust: the class fills its matrix -/
section PBFill
theorem msk_t {x : Int32} {i j : Nat} (hi : i < 32) (hj : j < 32) : (x &&& (((1 : Int32) <<< (Int32.ofNat i &&& 31)) ||| ((1 : Int32) <<< (Int32.ofNat j &&& 31))) = (((1 : Int32) <<< (Int32.ofNat i &&& 31)) ||| ((1 : Int32) <<< (Int32.ofNat j &&& 31)))) ↔ (bt x i = true ∧ bt x j = true) := by
  have hm : ∀ u, u < 32 → bt (((1 : Int32) <<< (Int32.ofNat i &&& 31)) ||| ((1 : Int32) <<< (Int32.ofNat j &&& 31))) u = (decide (u = i) || decide (u = j)) := fun u hu => by rw [bt_set hu hj, bt_one hu hi]
  generalize (((1 : Int32) <<< (Int32.ofNat i &&& 31)) ||| ((1 : Int32) <<< (Int32.ofNat j &&& 31))) = mk at *
  constructor
  · intro h
    have h1 : bt (x &&& mk) i = bt mk i := congrArg (fun z => bt z i) h
    have h2 : bt (x &&& mk) j = bt mk j := congrArg (fun z => bt z j) h
    rw [bt_and, hm i hi] at h1
    rw [bt_and, hm j hj] at h2
    simp only [decide_true, Bool.true_or, Bool.or_true, Bool.and_true] at h1 h2
    exact ⟨h1, h2⟩
  · rintro ⟨h1, h2⟩
    refine bt_ext (fun u hu => ?_)
    rw [bt_and, hm u hu]
    by_cases e1 : u = i
    · subst e1; rw [h1]; simp
    · by_cases e2 : u = j
      · subst e2; rw [h2]; simp
      · simp [e1, e2]
theorem gaS_b {w : rf_w} {m X : rf_m} {L : List Nat} (h : gaS w m L X) {a u : Nat} (ha : a < 80) (hu : u < 32) : bt (X.1 56 a) u = true ↔ mbQ m L u a := h.2.2 a ha u hu
theorem tQ_s {w : rf_w} {m : rf_m} {L : List Nat} {i j t : Nat} {x : Int32} (h1 : bt x i = true ↔ mbQ m L i t) (h2 : bt x j = true ↔ mbQ m L j t) {v : Int} (hv : v = if x = 0 then 2520 else sI w m t) : tQ w m L i j t = if bt x i = true ∧ bt x j = true then v else 0 := by
  by_cases q : bt x i = true ∧ bt x j = true
  · rw [if_pos q, tQ_v.1 (h1.mp q.1) (h2.mp q.2), hv, if_neg]
    intro z
    rw [z, bt_0] at q
    exact absurd q.1 (by decide)
  · rw [if_neg q]
    exact tQ_v.2 (fun z => q ⟨h1.mpr z.1, h2.mpr z.2⟩)
def wtS (w : rf_w) (m X : rf_m) : Prop := ∀ a, a < (m.1 206 16).toNatClampNeg → (X.1 57 a).toInt = if X.1 56 a = 0 then 2520 else sI w m a
/-- one entry -/
theorem fill34_c {w : rf_w} {m Y : rf_m} {L : List Nat} {i j : Nat} {r2 : Int32 → rf_m → Option rf_m} {r12 : Int32 → Int32 → rf_m → Option rf_m} (ja : JAng m) (hg : gaS w m L Y) (h57 : wtS w m Y) (e6 : Y.1 26 6 = m.1 206 16) (hi : i < 6) (hj : j < 6) : ∃ Y', g_X0_fillMatrix_34 w r2 r12 rf_fuel (Int32.ofNat i) (Int32.ofNat j) (((1 : Int32) <<< (Int32.ofNat i &&& 31)) ||| ((1 : Int32) <<< (Int32.ofNat j &&& 31))) 0 0 Y = r12 (Int32.ofNat i) (Int32.ofNat (j + 1)) Y' ∧ bF (mcl i j) Y Y' ∧ bg Y' (mcl i j) (aN w m L j i) := by
  obtain ⟨FU, hF, hFb⟩ := fuel_ex
  have h80 := ang80 ja
  have hR := of_tn ja.2.1.1
  have bij := bC_mc (w := w) (i := i) (j := j) hi (by omega)
  generalize hk : (((1 : Int32) <<< (Int32.ofNat i &&& 31)) ||| ((1 : Int32) <<< (Int32.ofNat j &&& 31))) = mk
  have mt : ∀ x : Int32, (x &&& mk) = mk ↔ (bt x i = true ∧ bt x j = true) := fun x => by rw [← hk]; exact msk_t (by omega) (by omega)
  have smB : ∀ t, t ≤ 80 → 0 ≤ sm t (tQ w m L i j) ∧ sm t (tQ w m L i j) ≤ 201600 := fun t ht => by
    have := sm_rng (f := tQ w m L i j) t (fun t => tQ_rng)
    omega
  have key : ∀ r f t (s : Int64), t + r = (m.1 206 16).toNatClampNeg → r < f → s.toInt = sm t (tQ w m L i j) → ∃ Y', g_X0_fillMatrix_34 w r2 r12 f (Int32.ofNat i) (Int32.ofNat j) mk s (Int32.ofNat t) Y = r12 (Int32.ofNat i) (Int32.ofNat (j + 1)) Y' ∧ bF (mcl i j) Y Y' ∧ bg Y' (mcl i j) (aN w m L j i) := by
    intro r
    induction r with
    | zero =>
      intro f t s ht hf hs
      obtain ⟨f, rfl⟩ : ∃ g, f = g + 1 := ⟨f - 1, by omega⟩
      have b := smB t (by omega)
      obtain ⟨Y1, s1, s2, s3⟩ := setLong_c (w := w) (m := Y) (a := mcl i j) (x := s) bij (by omega)
      refine ⟨Y1, ?_, s2, ?_⟩
      · show g_X0_fillMatrix_34_b w _ _ _ _ _ _ _ _ Y = _
        unfold g_X0_fillMatrix_34_b
        rw [e6, show t = (m.1 206 16).toNatClampNeg by omega, hR, if_pos (Int32.le_refl _), idx7 hi (by omega), gof (n := 7 * i + j) (by omega) (by decide), g_t, tn_of (n := 7 * i + j) (by omega), Rt_61 (7 * i + j) (by omega)]
        show rf_g (rf_isO w (mcl i j) 1) (rf_g (rf_isR w (mcl i j) 2 (mcl i j + 1)) (rf_g (rf_isA w (mcl i j + 1) .long 10) (rf_bv (g_X1_setLong w Y (mcl i j) s) _))) = _
        rw [bC_g bij, s1, bv_sm, of_succ]
      · rw [hs, show t = (m.1 206 16).toNatClampNeg by omega] at s3
        exact s3
    | succ r ih =>
      intro f t s ht hf hs
      obtain ⟨f, rfl⟩ : ∃ g, f = g + 1 := ⟨f - 1, by omega⟩
      have nl : ¬ m.1 206 16 ≤ Int32.ofNat t := by rw [← hR]; exact nle (by omega) (by omega)
      have gi : rf_in (Int32.ofNat t) 80 = true := gof (n := t) (by omega) (by decide)
      have ti : (Int32.ofNat t).toNatClampNeg = t := tn_of (by omega)
      have e := tQ_s (w := w) (i := i) (j := j) (gaS_b hg (a := t) (by omega) (by omega)) (gaS_b hg (a := t) (by omega) (by omega)) (h57 t (by omega))
      have b := smB t (by omega)
      have b' := smB (t + 1) (by omega)
      have es : sm (t + 1) (tQ w m L i j) = sm t (tQ w m L i j) + tQ w m L i j t := rfl
      show ∃ Y', g_X0_fillMatrix_34_b w _ _ (g_X0_fillMatrix_34 w r2 r12 f) _ _ _ _ _ Y = _ ∧ _
      unfold g_X0_fillMatrix_34_b
      rw [e6, if_neg nl, gi, g_t, ti, g_t]
      by_cases q : bt (Y.1 56 t) i = true ∧ bt (Y.1 56 t) j = true
      · rw [if_pos ((mt _).mpr q)]
        rw [if_pos q] at e
        unfold g_X0_fillMatrix_72
        rw [of_succ]
        refine ih f (t + 1) _ (by omega) (by omega) ?_
        rw [addL (by rw [i2l]; omega) (by rw [i2l]; omega), i2l]
        omega
      · rw [if_neg (fun z => q ((mt _).mp z))]
        rw [if_neg q] at e
        unfold g_X0_fillMatrix_72
        rw [of_succ]
        exact ih f (t + 1) _ (by omega) (by omega) (by omega)
  rw [hF]
  exact key (m.1 206 16).toNatClampNeg FU 0 0 (by omega) (by omega) rfl
/-- the whole matrix -/
theorem fillM_c {w : rf_w} {m X : rf_m} {L : List Nat} (ja : JAng m) (hg : gaS w m L X) (h57 : wtS w m X) (e6 : X.1 26 6 = m.1 206 16) (hL : L.length ≤ 6) (ok : ∀ i (h : i < L.length), -80000000 ≤ (msK w m L[i]).toInt ∧ (msK w m L[i]).toInt ≤ 80000000) : ∃ X', g_X0_fillMatrix w X = some X' ∧ slF X X' ∧ matS X' L.length (Ent (aN w m L) (bN w m L) 0) := by
  obtain ⟨FU, hF, hFb⟩ := fuel_ex
  have eA : ∀ i j, j < 6 → Ent (aN w m L) (bN w m L) 0 i j = aN w m L j i := fun i j hj => by
    unfold Ent; rw [if_neg (by omega), Yk_0]; unfold colv; rw [if_neg (by omega)]
  have eB : ∀ i, Ent (aN w m L) (bN w m L) 0 i 6 = bN w m L i := fun i => by
    unfold Ent; rw [if_neg (by omega), Yk_0]; unfold colv; rw [if_pos rfl]
  have gF : ∀ {Y}, slF X Y → gaS w m L Y ∧ wtS w m Y ∧ Y.1 26 6 = m.1 206 16 := fun {Y} f => by
    refine ⟨?_, ?_, by rw [f.1 26 (by omega)]; exact e6⟩
    · unfold gaS
      rw [f.1 55 (by omega), f.1 56 (by omega), f.1 60 (by omega)]; exact hg
    · unfold wtS
      rw [f.1 56 (by omega), f.1 57 (by omega)]; exact h57
  have key2 : ∀ (r2 : Int32 → rf_m → Option rf_m) i, i < L.length → ∀ r f j (Y : rf_m), j + r = L.length → r < f → slF X Y → (∀ i' j', i' < L.length → inN L.length j' → (i' < i ∨ (i' = i ∧ j' < j)) → bg Y (mcl i' j') (Ent (aN w m L) (bN w m L) 0 i' j')) → ∃ Y', g_X0_fillMatrix_12 w r2 f (Int32.ofNat i) (Int32.ofNat j) Y = r2 (Int32.ofNat (i + 1)) Y' ∧ slF X Y' ∧ ∀ i' j', i' < L.length → inN L.length j' → i' < i + 1 → bg Y' (mcl i' j') (Ent (aN w m L) (bN w m L) 0 i' j') := by
    intro r2 i hi r
    induction r with
    | zero =>
      intro f j Y hj hf fY hS
      obtain ⟨f, rfl⟩ : ∃ g, f = g + 1 := ⟨f - 1, by omega⟩
      obtain ⟨g1, g2, g3⟩ := gF fY
      have bi6 := bC_mc (w := w) (i := i) (j := 6) (by omega) (by omega)
      obtain ⟨o1, o2⟩ := ok i hi
      have e60 : Y.1 60 i = msK w m L[i] := g1.2.1 i hi
      have en : (Int32.toInt64 (-(Y.1 60 i))).toInt = bN w m L i := by
        unfold bN
        rw [dif_pos hi, e60, i2l, Int32.toInt_neg, bm32 (by omega) (by omega)]
      have nb : -80000000 ≤ bN w m L i ∧ bN w m L i ≤ 80000000 := by
        unfold bN
        rw [dif_pos hi]; omega
      obtain ⟨Y1, s1, s2, s3⟩ := setLong_c (w := w) (m := Y) (a := mcl i 6) (x := Int32.toInt64 (-(Y.1 60 i))) bi6 (by rw [en]; omega)
      refine ⟨Y1, ?_, slF_trans fY (slF_b s2 (by unfold mcl; omega)), fun i' j' hi' hj' hlt => ?_⟩
      · show g_X0_fillMatrix_12_b w _ _ _ _ Y = _
        unfold g_X0_fillMatrix_12_b
        have e7 : Int32.ofNat i * 7 + 6 = Int32.ofNat (7 * i + 6) := idx7 (i := i) (j := 6) (by omega) (by omega)
        rw [g1.1, show j = L.length by omega, if_pos (Int32.le_refl _), e7, gof (n := 7 * i + 6) (by omega) (by decide), g_t, tn_of (n := 7 * i + 6) (by omega), Rt_61 (7 * i + 6) (by omega)]
        show rf_g (rf_isO w (mcl i 6) 1) (rf_g (rf_isR w (mcl i 6) 2 (mcl i 6 + 1)) (rf_g (rf_isA w (mcl i 6 + 1) .long 10) (rf_g (rf_in (Int32.ofNat i) 6) (rf_bv (g_X1_setLong w Y (mcl i 6) _) _)))) = _
        rw [bC_g bi6, gof (n := i) (by omega) (by decide), g_t, tn_of (n := i) (by omega), s1, bv_sm, of_succ]
      · by_cases q : i' = i ∧ j' = 6
        · rw [q.1, q.2, eB, ← en]; exact s3
        · refine bg_F (hS i' j' hi' hj' ?_) s2 (by rcases hj' with h | h <;> exact mcl_ne (by omega) (by omega) q)
          rcases hj' with h | h <;> omega
    | succ r ih =>
      intro f j Y hj hf fY hS
      obtain ⟨f, rfl⟩ : ∃ g, f = g + 1 := ⟨f - 1, by omega⟩
      obtain ⟨g1, g2, g3⟩ := gF fY
      have nl : ¬ Int32.ofNat L.length ≤ Int32.ofNat j := nle (by omega) (by omega)
      obtain ⟨Y1, s1, s2, s3⟩ := fill34_c (r2 := r2) (r12 := g_X0_fillMatrix_12 w r2 f) (i := i) (j := j) ja g1 g2 g3 (by omega) (by omega)
      obtain ⟨Y2, k1, k2⟩ := ih f (j + 1) Y1 (by omega) (by omega) (slF_trans fY (slF_b s2 (by unfold mcl; omega))) (fun i' j' hi' hj' hlt => by
        by_cases q : i' = i ∧ j' = j
        · rw [q.1, q.2, eA _ _ (by omega)]; exact s3
        · refine bg_F (hS i' j' hi' hj' (by omega)) s2 (by rcases hj' with h | h <;> exact mcl_ne (by omega) (by omega) q))
      refine ⟨Y2, ?_, k2⟩
      rw [← k1, ← s1]
      show g_X0_fillMatrix_12_b w _ _ _ _ Y = _
      unfold g_X0_fillMatrix_12_b
      rw [g1.1, if_neg nl]
      rfl
  have key : ∀ r f i (Y : rf_m), i + r = L.length → r < f → slF X Y → (∀ i' j', i' < L.length → inN L.length j' → i' < i → bg Y (mcl i' j') (Ent (aN w m L) (bN w m L) 0 i' j')) → ∃ X', g_X0_fillMatrix_2 w f (Int32.ofNat i) Y = some X' ∧ slF X X' ∧ matS X' L.length (Ent (aN w m L) (bN w m L) 0) := by
    intro r
    induction r with
    | zero =>
      intro f i Y hi hf fY hS
      obtain ⟨f, rfl⟩ : ∃ g, f = g + 1 := ⟨f - 1, by omega⟩
      refine ⟨Y, ?_, fY, fun i' j' hi' hj' => hS i' j' hi' hj' (by omega)⟩
      show g_X0_fillMatrix_2_b w _ _ Y = _
      unfold g_X0_fillMatrix_2_b
      rw [(gF fY).1.1, show i = L.length by omega, if_pos (Int32.le_refl _)]
    | succ r ih =>
      intro f i Y hi hf fY hS
      obtain ⟨f, rfl⟩ : ∃ g, f = g + 1 := ⟨f - 1, by omega⟩
      have nl : ¬ Int32.ofNat L.length ≤ Int32.ofNat i := nle (by omega) (by omega)
      obtain ⟨Y1, k1, k2, k3⟩ := key2 (g_X0_fillMatrix_2 w f) i (by omega) L.length FU 0 Y (by omega) (by omega) fY (fun i' j' hi' hj' h => hS i' j' hi' hj' (by omega))
      obtain ⟨X', x1, x2⟩ := ih f (i + 1) Y1 (by omega) (by omega) k2 k3
      refine ⟨X', ?_, x2⟩
      rw [← x1, ← k1, ← hF]
      show g_X0_fillMatrix_2_b w _ _ Y = _
      unfold g_X0_fillMatrix_2_b
      rw [(gF fY).1.1, if_neg nl]
      rfl
  unfold g_X0_fillMatrix
  rw [hF]
  exact key L.length FU 0 X (by omega) (by omega) slF_refl (fun i' j' _ _ h => by omega)
/-- the class: nothing, or solved -/
theorem solveA_c {c : Nat} {w : rf_w} {m X : rf_m} {L : List Nat} (J : JCnt c w m) (jn : JNet m) (hg : gaS w m L X) (h57 : wtS w m X) (e6 : X.1 26 6 = m.1 206 16) (hL : L.length ≤ 6) (ok : ∀ q, q ∈ L → okK m q ∧ msK w m q ≠ -2147483648) : ∃ X', slF X X' ∧ ((g_X0_solve w X = some (0, X') ∧ dF L.length (aN w m L) = 0) ∨ (g_X0_solve w X = some (1, X') ∧ 0 < dF L.length (aN w m L) ∧ matS X' L.length (Ent (aN w m L) (bN w m L) L.length) ∧ bg X' 65 (dF L.length (aN w m L)))) := by
  have ja := J.2.2.2.2.1
  have nb := nrm_ok (L := L) J jn ok
  obtain ⟨X1, a1, a2, a3⟩ := fillM_c ja hg h57 e6 hL (fun i h => by
    obtain ⟨o1, o2⟩ := ok _ (List.getElem_mem h)
    rcases msK_rng J jn o1 with e | e
    · exact absurd e o2
    · exact e)
  obtain ⟨X2, b1, b2, b3⟩ := setLong_c (w := w) (m := X1) (a := 65) (x := 1) bC_65 (by decide)
  have e8 : X2.1 55 8 = Int32.ofNat L.length := by rw [b2.1 55 (by decide), a2.1 55 (by omega)]; exact hg.1
  obtain ⟨X3, c1, c2⟩ := solve_c (w := w) (m := X2) (n := L.length) (N0 := (m.1 206 16).toNatClampNeg) (a := aN w m L) (b := bN w m L) (s := sI w m) (v := vQ m L) hL e8 (fun i j hi hj => bg_F (a3 i j hi hj) b2 (by unfold mcl; omega)) b3 (fun k i j hk hi hj => Ent_bd nb hL hk hi) (fun i j => rfl) (fun t _ => sI_rng.1)
  have st : g_X0_solve w X = g_X0_solve_14 w rf_fuel 0 X2 := by
    unfold g_X0_solve
    rw [a1, bv_sm, b1, bv_sm]
  rw [st]
  exact ⟨X3, slF_trans a2 (slF_trans (slF_b b2 (by decide)) c1), c2⟩
end PBFill
