/-! adjust: the class keeps, all of it -/
section PBKeepD
def kpt2 (w : rf_w) (m : rf_m) (L : List Nat) (X X' : rf_m) : Prop := (∀ z, (z < 58 ∨ (59 < z ∧ z < 63) ∨ (78 < z ∧ z < 163) ∨ 174 < z) → X'.1 z = X.1 z) ∧ (∀ z, (z < 55 ∨ (55 < z ∧ z < 63) ∨ (78 < z ∧ z < 163) ∨ 174 < z) → X'.2 z = X.2 z) ∧ (∀ k, k ≠ 0 → X'.2 55 k = X.2 55 k) ∧ (X'.2 55 0).toInt = cstI (oneK w m L * 2520000 / DK w m L) ∧ bg X' 63 (DK w m L) ∧ (∀ i, i < L.length → bg X' (163 + 2 * i) (fK w m L i)) ∧ ∀ a, a < 80 → X'.1 58 a = X.1 56 a ∧ X'.1 59 a = X.1 57 a
theorem keep_c {w : rf_w} {m X : rf_m} {L : List Nat} (hg : gaS w m L X) (nb : nrmB (aN w m L) (bN w m L)) (hL : L.length ≤ 6) (ok : ∀ i (h : i < L.length), -80000000 ≤ (msK w m L[i]).toInt ∧ (msK w m L[i]).toInt ≤ 80000000) (hS : matS X L.length (Ent (aN w m L) (bN w m L) L.length)) (hD : bg X 65 (DK w m L)) (d0 : 0 < DK w m L) : ∃ X', g_X0_keep w X = some (Int32.ofNat (cn (X.1 56) 80), X') ∧ kpt2 w m L X X' := by
  obtain ⟨FU, hF, hFb⟩ := fuel_ex
  have key : ∀ r f i (Y : rf_m), i + r = 80 → r < f → (∀ z, z ≠ 58 → z ≠ 59 → Y.1 z = X.1 z) → Y.2 = X.2 → (∀ a, a < i → Y.1 58 a = X.1 56 a ∧ Y.1 59 a = X.1 57 a) → ∃ X', g_X0_keep_4 w f (Int32.ofNat (cn (X.1 56) i)) (Int32.ofNat i) Y = some (Int32.ofNat (cn (X.1 56) 80), X') ∧ kpt2 w m L X X' := by
    intro r
    induction r with
    | zero =>
      intro f i Y hi hf f1 f2 hd
      obtain ⟨f, rfl⟩ : ∃ g, f = g + 1 := ⟨f - 1, by omega⟩
      have e : i = 80 := by omega
      subst e
      obtain ⟨M1, s1, s2, s3⟩ := setLong_c (w := w) (m := Y) (a := 67) (x := 0) bC_67 (by decide)
      have z0 : (0 : Int64).toInt = 0 := rfl
      rw [z0] at s3
      have b1 : ∀ z, z ≠ 58 → z ≠ 59 → z ≠ 67 → M1.1 z = X.1 z := fun z h1 h2 h3 => (s2.1 z h3).trans (f1 z h1 h2)
      have b2 : ∀ z, z ≠ 68 → M1.2 z = X.2 z := fun z h3 => by rw [s2.2 z (by omega), f2]
      have rm : ∀ i j, mcl i j = 79 + 2 * (7 * i + j) := fun _ _ => rfl
      have hg1 : gaS w m L M1 := by
        unfold gaS
        rw [b1 55 (by decide) (by decide) (by decide), b1 56 (by decide) (by decide) (by decide), b1 60 (by decide) (by decide) (by decide)]
        exact hg
      obtain ⟨X', k1, k2, k3, k4, k5, k6, k7⟩ := keep62_c (w := w) (m := m) (X := M1) (L := L) (v := Int32.ofNat (cn (X.1 56) 80)) hg1 nb hL ok (fun i j hi hj => bg_c (hS i j hi hj) (b1 _ (by have := rm i j; omega) (by have := rm i j; omega) (by have := rm i j; omega)) (b2 _ (by have := rm i j; omega))) (bg_c hD (b1 _ (by decide) (by decide) (by decide)) (b2 _ (by decide))) d0 s3
      refine ⟨X', ?_, ⟨fun z hz => ?_, fun z hz => ?_, fun k hk => ?_, k5, k6, k7, fun a ha => ?_⟩⟩
      · show g_X0_keep_4_b w _ _ _ Y = _
        unfold g_X0_keep_4_b
        have z : (80 : Int32) ≤ Int32.ofNat 80 := by decide
        rw [if_pos z, s1, bv_sm]
        exact k1
      · rw [k2 z (by omega)]
        exact b1 z (by omega) (by omega) (by omega)
      · rw [k3 z (by omega)]
        exact b2 z (by omega)
      · rw [k4 k hk, b2 55 (by decide)]
      · rw [k2 58 (by omega), k2 59 (by omega), s2.1 58 (by decide), s2.1 59 (by decide)]
        exact hd a ha
    | succ r ih =>
      intro f i Y hi hf f1 f2 hd
      obtain ⟨f, rfl⟩ : ∃ g, f = g + 1 := ⟨f - 1, by omega⟩
      have nl : ¬ (80 : Int32) ≤ Int32.ofNat i := nle (R := 80) (by omega) (by decide)
      have gi : rf_in (Int32.ofNat i) 80 = true := gof (n := i) (by omega) (by decide)
      have ti : (Int32.ofNat i).toNatClampNeg = i := tn_of (by omega)
      generalize hY1 : rf_i (rf_i Y 58 i (Y.1 56 i)) 59 i ((rf_i Y 58 i (Y.1 56 i)).1 57 i) = Y1
      have q1 : ∀ z, z ≠ 58 → z ≠ 59 → Y1.1 z = X.1 z := fun z h1 h2 => by
        rw [← hY1, rf_i_c, if_neg h2, rf_i_c, if_neg h1]; exact f1 z h1 h2
      have q2 : Y1.2 = X.2 := by rw [← hY1]; exact f2
      have q58 : Y1.1 58 = pu (Y.1 58) i (X.1 56 i) := by
        rw [← hY1, rf_i_c, if_neg (by decide), rf_i_c, if_pos rfl, f1 56 (by decide) (by decide)]
      have q59 : Y1.1 59 = pu (Y.1 59) i (X.1 57 i) := by
        rw [← hY1, rf_i_c, if_pos rfl, rf_i_c, if_neg (by decide), rf_i_c, if_neg (by decide), f1 57 (by decide) (by decide)]
      obtain ⟨X', k1, k2⟩ := ih f (i + 1) Y1 (by omega) (by omega) q1 q2 (fun a ha => by
        rw [q58, q59]
        by_cases e : a = i
        · subst e; rw [pu_at, pu_at]; exact ⟨rfl, rfl⟩
        · rw [pu_ne e, pu_ne e]; exact hd a (by omega))
      refine ⟨X', ?_, k2⟩
      rw [← k1]
      show g_X0_keep_4_b w _ _ _ Y = _
      unfold g_X0_keep_4_b g_X0_keep_46
      rw [if_neg nl, gi, g_t, g_t, g_t, g_t, g_t, ti, hY1, q1 56 (by decide) (by decide), of_succ, of_succ]
      have ec : cn (X.1 56) (i + 1) = cn (X.1 56) i + if X.1 56 i = 0 then 0 else 1 := rfl
      by_cases q : X.1 56 i = 0
      · rw [if_pos q, ec, if_pos q]
        rfl
      · rw [if_neg q, ec, if_neg q]
  unfold g_X0_keep
  rw [hF]
  exact key 80 FU 0 X (by omega) (by omega) (fun _ _ _ => rfl) rfl (fun a ha => by omega)
end PBKeepD
