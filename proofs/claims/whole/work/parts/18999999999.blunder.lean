/-! suspects: the reference goes over all sets -/
section PBBlunder
theorem pw12 : ∀ n, n ≤ 12 → (1 : Int32) <<< (Int32.ofNat n &&& 31) = Int32.ofNat (2 ^ n) := by decide
theorem cnM_z {P : Nat → Prop} : ∀ M, (∀ x, x < M → ¬ P x) → cnM P M = 0 := by
  intro M
  induction M with
  | zero => intro _; rfl
  | succ M ih =>
    intro h
    show cnM P M + @ite _ (P M) (Classical.propDecidable _) 1 0 = 0
    rw [if_neg (h M (by omega)), ih (fun x hx => h x (by omega))]
theorem cnM_t {P : Nat → Prop} {M : Nat} (h : P M) : cnM P (M + 1) = cnM P M + 1 := by
  show cnM P M + @ite _ (P M) (Classical.propDecidable _) 1 0 = _
  rw [if_pos h]
theorem cnM_f {P : Nat → Prop} {M : Nat} (h : ¬ P M) : cnM P (M + 1) = cnM P M := by
  show cnM P M + @ite _ (P M) (Classical.propDecidable _) 1 0 = _
  rw [if_neg h]; rfl
theorem cnM_le {P : Nat → Prop} : ∀ M, cnM P M ≤ M := by
  intro M
  induction M with
  | zero => exact Nat.le_refl _
  | succ M ih =>
    by_cases h : P M
    · rw [cnM_t h]; omega
    · rw [cnM_f h]; omega
theorem bt_ixs {mu n : Nat} (hn : n ≤ 12) (hm : mu < 2 ^ n) : ixf (bt (Int32.ofNat mu)) 32 0 = ixs mu n 0 := by
  have e1 : ixf (bt (Int32.ofNat mu)) 32 0 = ixf mu.testBit 32 0 := ixf_c 32 0 (fun j _ hj => bt_nat (by omega))
  rw [e1, ixs_f, show (32 : Nat) = n + (32 - n) by omega, ixf_add, Nat.zero_add]
  have e2 : ixf mu.testBit (32 - n) n = [] := by
    refine List.eq_nil_iff_forall_not_mem.mpr (fun x hx => ?_)
    have := (ixf_ge _ _ x).mp hx
    have lt : mu < 2 ^ x := Nat.lt_of_lt_of_le hm (Nat.pow_le_pow_right (by omega) this.1)
    rw [Nat.testBit_lt_two_pow lt] at this
    exact absurd this.2.2 (by decide)
  rw [e2, List.append_nil]
def blF (M M' : rf_m) : Prop := (∀ z, z ≠ 206 → z ≠ 226 → z ≠ 227 → z ≠ 228 → z ≠ 235 → z ≠ 285 → M'.1 z = M.1 z) ∧ (∀ k, k < 33 ∨ 38 < k → M'.1 206 k = M.1 206 k) ∧ ∀ z, z ≠ 287 → M'.2 z = M.2 z
theorem blF_refl {M : rf_m} : blF M M := ⟨fun _ _ _ _ _ _ _ => rfl, fun _ _ => rfl, fun _ _ => rfl⟩
theorem blF_trans {a b c : rf_m} (h : blF a b) (k : blF b c) : blF a c := ⟨fun z h1 h2 h3 h4 h5 h6 => (k.1 z h1 h2 h3 h4 h5 h6).trans (h.1 z h1 h2 h3 h4 h5 h6), fun z h1 => (k.2.1 z h1).trans (h.2.1 z h1), fun z h1 => (k.2.2 z h1).trans (h.2.2 z h1)⟩
theorem blF_go {a b : rf_m} (h : goF a b) : blF a b := ⟨fun z h1 h2 h3 h4 h5 _ => h.1 z h1 h2 h3 h4 h5, h.2.1, fun z _ => by rw [h.2.2]⟩
theorem blF_mA {m M M' : rf_m} (h : mA m M) (g : blF M M') : mA m M' := mA_x h (fun z hz => g.1 z (by omega) (by omega) (by omega) (by omega) (by omega) (by omega)) (fun k hk => g.2.1 k (by omega))
/-- the kept ones' sum -/
theorem sum88 {w : rf_w} {m : rf_m} {a K : Nat} {kp : List Nat} {r56 : Int32 → Int32 → rf_m → Option (Int32 × rf_m)} {a1 : Int32} (ha : a < 80) (hK : kp.length = K) (hK20 : K ≤ 20) (hr : ∀ r, r ∈ kp → iv 0 12959999 (m.1 221 r) ∧ r < 1200) : ∀ r f i (Y : rf_m), i + r = K → r < f → Y.1 206 34 = Int32.ofNat K → (∀ j (h : j < kp.length), Y.1 227 j = Int32.ofNat kp[j]) → Y.1 221 = m.1 221 → (Y.2 287 a).toInt = (smL m (kp.take i)).toInt → ∃ G, g_X14_blunder_88 w r56 f a1 (Int32.ofNat a) (Int32.ofNat i) Y = r56 a1 (Int32.ofNat (a + 1)) (stl Y 287 G) ∧ (G a).toInt = (smL m kp).toInt ∧ ∀ b, b ≠ a → G b = Y.2 287 b := by
  intro r
  induction r with
  | zero =>
    intro f i Y hi hf h34 h227 h221 hs
    obtain ⟨f, rfl⟩ : ∃ g, f = g + 1 := ⟨f - 1, by omega⟩
    have e : i = K := by omega
    subst e
    refine ⟨Y.2 287, ?_, ?_, fun _ _ => rfl⟩
    · show g_X14_blunder_88_b w _ _ _ _ _ Y = _
      unfold g_X14_blunder_88_b
      rw [h34, if_pos (Int32.le_refl _), of_succ, stl_self]
    · rw [hs, List.take_of_length_le (by omega)]
  | succ r ih =>
    intro f i Y hi hf h34 h227 h221 hs
    obtain ⟨f, rfl⟩ : ∃ g, f = g + 1 := ⟨f - 1, by omega⟩
    have il : i < kp.length := by omega
    have g1 : ¬ Int32.ofNat K ≤ Int32.ofNat i := nle (by omega) (by omega)
    obtain ⟨q1, q2⟩ := hr _ (List.getElem_mem il)
    have s0 := smL_rng kp (fun x hx => (hr x hx).1) (by omega) i (by omega)
    have s1 := smL_rng kp (fun x hx => (hr x hx).1) (by omega) (i + 1) (by omega)
    have tk := List.take_succ_eq_append_getElem il
    have qq := ivI q1
    have qq1 : 0 ≤ (m.1 221 kp[i]).toInt := qq.1
    have qq2 : (m.1 221 kp[i]).toInt ≤ 12959999 := qq.2
    have ad : (smL m (kp.take (i + 1))).toInt = (smL m (kp.take i)).toInt + (m.1 221 kp[i]).toInt := by rw [tk, smL_snoc, addI (by omega) (by omega)]
    have al := addL (a := Y.2 287 a) (b := Int32.toInt64 (m.1 221 kp[i])) (by rw [hs, i2l]; omega) (by rw [hs, i2l]; omega)
    obtain ⟨G, k1, k2, k3⟩ := ih f (i + 1) (stl Y 287 (pu (Y.2 287) a (Y.2 287 a + Int32.toInt64 (m.1 221 kp[i])))) (by omega) (by omega) h34 h227 h221 (by rw [stl_c, if_pos rfl, pu_at, al, hs, i2l, ad])
    refine ⟨G, ?_, k2, fun b hb => by rw [k3 b hb, stl_c, if_pos rfl, pu_ne hb]⟩
    show g_X14_blunder_88_b w _ _ _ _ _ Y = _
    unfold g_X14_blunder_88_b
    rw [h34, if_neg g1, gof (n := a) (by omega) (by decide), g_t, gof (n := i) (by omega) (by decide), g_t, tn_of (n := i) (by omega), h227 i il, gof (n := kp[i]) q2 (by decide), g_t, g_t, tn_of (n := a) (by omega), tn_of (n := kp[i]) (by omega), h221, of_succ, stl_l, k1, stl_stl]
/-- what the sets are tried with -/
theorem gath56 {c : Nat} {w : rf_w} {m M : rf_m} {n : Nat} (J : JCnt c w m) (hA : mA m M) : ∃ M', g_X14_blunder_56 w rf_fuel (Int32.ofNat n) 0 M = g_X14_blunder_142 w rf_fuel (Int32.ofNat n) (allowV m (m.1 206 5)) (-1) 0 0 M' ∧ blF M M' ∧ ∀ a, a < (m.1 206 16).toNatClampNeg → M'.1 285 a = Int32.ofNat (klen w m a) ∧ (M'.2 287 a).toInt = smI w m a := by
  have h80 := ang80 J.2.2.2.2.1
  have hR := of_tn J.2.2.2.2.1.2.1.1
  have ju := J.2.2.2.1
  have j := J.2.1
  have hn12 : (m.1 206 17).toNatClampNeg ≤ 1200 := tn_le j.2.1.1 j.2.1.2 (by decide)
  obtain ⟨FU, hF, hFb⟩ := fuel_ex
  have key : ∀ r f i (Y : rf_m), i + r = (m.1 206 16).toNatClampNeg → r < f → blF M Y → (∀ a, a < i → Y.1 285 a = Int32.ofNat (klen w m a) ∧ (Y.2 287 a).toInt = smI w m a) → ∃ M', g_X14_blunder_56 w f (Int32.ofNat n) (Int32.ofNat i) Y = g_X14_blunder_142 w rf_fuel (Int32.ofNat n) (allowV m (m.1 206 5)) (-1) 0 0 M' ∧ blF M M' ∧ ∀ a, a < (m.1 206 16).toNatClampNeg → M'.1 285 a = Int32.ofNat (klen w m a) ∧ (M'.2 287 a).toInt = smI w m a := by
    intro r
    induction r with
    | zero =>
      intro f i Y hi hf fY hm
      obtain ⟨f, rfl⟩ : ∃ g, f = g + 1 := ⟨f - 1, by omega⟩
      have hAY := blF_mA hA fY
      obtain ⟨G, g, hG⟩ := allow_r (w := w) (m := m) (M := Y) ju (mA_ag ju hAY)
      rw [hAY.2.1] at hG
      refine ⟨stc (stc Y 228 g) 235 G, ?_, blF_trans fY ⟨fun z _ _ _ a b _ => by rw [stc_ne b, stc_ne a], fun k _ => by rw [stc_ne (by decide), stc_ne (by decide)], fun z _ => rfl⟩, fun a ha => by rw [stc_ne (by decide), stc_ne (by decide)]; exact hm a (by omega)⟩
      show g_X14_blunder_56_b w _ _ _ Y = _
      unfold g_X14_blunder_56_b
      rw [hAY.2.2.1, show i = (m.1 206 16).toNatClampNeg by omega, hR, if_pos (Int32.le_refl _), hG, b_sm]
    | succ r ih =>
      intro f i Y hi hf fY hm
      obtain ⟨f, rfl⟩ : ∃ g, f = g + 1 := ⟨f - 1, by omega⟩
      have hil : i < (m.1 206 16).toNatClampNeg := by omega
      have hAY := blF_mA hA fY
      have nl : ¬ m.1 206 16 ≤ Int32.ofNat i := by rw [← hR]; exact nle hil (by omega)
      obtain ⟨M1, h1, h2, h3⟩ := now_r J hil hAY
      have ki := kpt_in (a := i) (d := 9999) J
      have h20 := ki.2 (by omega)
      have hA1 := goF_mA hAY h2
      have e221 : M1.1 221 = m.1 221 := hA1.1 221 (by omega)
      have rg : ∀ r, r ∈ kpt w m 9999 i → iv 0 12959999 (m.1 221 r) ∧ r < 1200 := fun r hr => by
        obtain ⟨a, b⟩ := ki.1 r hr
        have := (mid_rng j a b.1).2
        have l := (rds_lt _ _ a).1
        exact ⟨this, by omega⟩
      obtain ⟨G, k1, k2, k3⟩ := sum88 (w := w) (m := m) (a := i) (r56 := g_X14_blunder_56 w f) (a1 := Int32.ofNat n) (by omega) rfl h20 rg (kpt w m 9999 i).length FU 0 (rf_l (rf_i M1 285 i (Int32.ofNat (kpt w m 9999 i).length)) 287 i 0) (by omega) (by omega) (by rw [rf_l_i, rf_i_c, if_neg (by decide)]; exact h3.2.1) (fun q hq => by rw [rf_l_i, rf_i_c, if_neg (by decide)]; exact h3.2.2.2.2.2.2 q hq) (by rw [rf_l_i, rf_i_c, if_neg (by decide)]; exact e221) (by rw [rf_l_c, if_pos rfl, pu_at]; rfl)
      show ∃ M', g_X14_blunder_56_b w _ _ _ Y = _ ∧ _
      unfold g_X14_blunder_56_b
      have z0 : Int32.ofNat 0 = 0 := rfl
      rw [z0] at k1
      rw [hAY.2.2.1, if_neg nl, h1, bv_sm, gof (n := i) (by omega) (by decide), g_t, g_t, tn_of (n := i) (by omega), h3.2.1, hF, k1, ← hF]
      refine ih f (i + 1) _ (by omega) (by omega) (blF_trans fY (blF_trans (blF_go h2) ⟨fun z _ _ _ _ _ a => by rw [stl_i, rf_l_i, rf_i_c, if_neg a], fun k _ => by rw [stl_i, rf_l_i, rf_i_c, if_neg (by decide)], fun z a => (by rw [stl_c, if_neg a, rf_l_c, if_neg a, rf_i_l] : (stl (rf_l (rf_i M1 285 i (Int32.ofNat (kpt w m 9999 i).length)) 287 i 0) 287 G).2 z = M1.2 z)⟩)) (fun a ha => ?_)
      rw [stl_i, rf_l_i, rf_i_c, if_pos rfl, stl_c, if_pos rfl]
      by_cases e : a = i
      · subst e
        rw [pu_at, k2]
        exact ⟨rfl, rfl⟩
      · rw [pu_ne e, k3 a e, rf_l_c, if_pos rfl, pu_ne e, rf_i_l, h2.1 285 (by decide) (by decide) (by decide) (by decide) (by decide), h2.2.2]
        exact hm a (by omega)
  have := key (m.1 206 16).toNatClampNeg FU 0 M (by omega) (by omega) blF_refl (fun a ha => by omega)
  rw [← hF] at this
  exact this
end PBBlunder
