/-! suspects struck out: sums and counts -/
section PBStrikes
def anV (m : rf_m) (V : Nat → Nat) (k : Nat) : Nat := (m.1 220 (V k)).toNatClampNeg
def whV (m : rf_m) (V : Nat → Nat) (k : Nat) : Int := (m.1 221 (V k)).toInt
def cA (m : rf_m) (V : Nat → Nat) : List Nat → Nat → Nat
  | [], _ => 0
  | k :: L, a => cA m V L a + if anV m V k = a then 1 else 0
def sA (m : rf_m) (V : Nat → Nat) : List Nat → Nat → Int
  | [], _ => 0
  | k :: L, a => sA m V L a + if anV m V k = a then whV m V k else 0
theorem cA_snoc {m : rf_m} {V : Nat → Nat} {k a : Nat} : ∀ L, cA m V (L ++ [k]) a = cA m V L a + if anV m V k = a then 1 else 0 := by
  intro L
  induction L with
  | nil => rfl
  | cons x L ih => show cA m V (L ++ [k]) a + _ = cA m V L a + _ + _; rw [ih]; omega
theorem sA_snoc {m : rf_m} {V : Nat → Nat} {k a : Nat} : ∀ L, sA m V (L ++ [k]) a = sA m V L a + if anV m V k = a then whV m V k else 0 := by
  intro L
  induction L with
  | nil => rfl
  | cons x L ih => show sA m V (L ++ [k]) a + _ = sA m V L a + _ + _; rw [ih]; omega
theorem cA_le {m : rf_m} {V : Nat → Nat} {a : Nat} : ∀ L, cA m V L a ≤ L.length := by
  intro L
  induction L with
  | nil => exact Nat.le_refl _
  | cons x L ih => show cA m V L a + _ ≤ L.length + 1; split <;> omega
theorem cA_pos {m : rf_m} {V : Nat → Nat} {a : Nat} : ∀ L, 0 < cA m V L a → ∃ k, k ∈ L ∧ anV m V k = a := by
  intro L
  induction L with
  | nil => intro h; exact absurd h (Nat.lt_irrefl _)
  | cons x L ih =>
    intro h
    by_cases e : anV m V x = a
    · exact ⟨x, List.mem_cons_self, e⟩
    · have h : 0 < cA m V L a + if anV m V x = a then 1 else 0 := h
      rw [if_neg e, Nat.add_zero] at h
      obtain ⟨k, q1, q2⟩ := ih h
      exact ⟨k, List.mem_cons_of_mem _ q1, q2⟩
theorem sA_0 {m : rf_m} {V : Nat → Nat} {a : Nat} : ∀ L, (¬ ∃ k, k ∈ L ∧ anV m V k = a) → cA m V L a = 0 ∧ sA m V L a = 0 := by
  intro L
  induction L with
  | nil => intro _; exact ⟨rfl, rfl⟩
  | cons x L ih =>
    intro h
    have e : ¬ anV m V x = a := fun e => h ⟨x, List.mem_cons_self, e⟩
    obtain ⟨i1, i2⟩ := ih (fun ⟨k, q1, q2⟩ => h ⟨k, List.mem_cons_of_mem _ q1, q2⟩)
    refine ⟨?_, ?_⟩
    · show cA m V L a + _ = 0; rw [if_neg e, i1]
    · show sA m V L a + _ = 0; rw [if_neg e, i2]; rfl
noncomputable def klen (w : rf_w) (m : rf_m) (a : Nat) : Nat := (kpt w m 9999 a).length
noncomputable def smI (w : rf_w) (m : rf_m) (a : Nat) : Int := (smL m (kpt w m 9999 a)).toInt
/-- the live suspects -/
def vOK (w : rf_w) (m : rf_m) (V : Nat → Nat) (n : Nat) : Prop := n ≤ 12 ∧ (∀ k, k < n → V k < (m.1 206 17).toNatClampNeg ∧ knP w m (V k)) ∧ ∀ i j, i < n → j < n → V i = V j → i = j
def okL (w : rf_w) (m : rf_m) (V : Nat → Nat) (n : Nat) (L : List Nat) : Prop := ∀ k, k < n → cA m V L (anV m V k) < klen w m (anV m V k)
noncomputable def mnL (w : rf_w) (m : rf_m) (V : Nat → Nat) (L : List Nat) (a : Nat) : Int32 := if klen w m a = cA m V L a then -2 else Int32.ofInt ((smI w m a - sA m V L a).tdiv ((klen w m a : Int) - cA m V L a))
theorem v_f {c : Nat} {w : rf_w} {m : rf_m} {V : Nat → Nat} {n k : Nat} (J : JCnt c w m) (hV : vOK w m V n) (hk : k < n) : anV m V k < (m.1 206 16).toNatClampNeg ∧ V k ∈ kpt w m 9999 (anV m V k) ∧ 0 ≤ whV m V k ∧ whV m V k ≤ 12959999 ∧ V k < 1200 ∧ Int32.ofNat (anV m V k) = m.1 220 (V k) := by
  have j := J.2.1
  obtain ⟨q1, q2⟩ := hV.2.1 k hk
  have hr12 : (m.1 206 17).toNatClampNeg ≤ 1200 := tn_le j.2.1.1 j.2.1.2 (by decide)
  obtain ⟨f0, f1, _, _, _, f5, _⟩ := j.2.2.1 (V k) q1
  have ha := tn_lt2 f5.1 f5.2
  have eo := of_tn f5.1
  have mr : V k ∈ rdl m (anV m V k) := rds_of _ _ q1 eo.symm
  have mk : V k ∈ kpt w m 9999 (anV m V k) := by rw [kpt_flt, flt_mem]; exact ⟨mr, q2⟩
  have rg := (mid_rng j mr q2.1).2
  have rg := ivI rg
  exact ⟨ha, mk, rg.1, rg.2, by omega, eo⟩
theorem k_rng {c a : Nat} {w : rf_w} {m : rf_m} (J : JCnt c w m) (ha : a < (m.1 206 16).toNatClampNeg) : klen w m a ≤ 20 ∧ 0 ≤ smI w m a ∧ smI w m a ≤ 259199980 := by
  have h80 := ang80 J.2.2.2.2.1
  have ki := kpt_in (a := a) (d := 9999) J
  have h20 := ki.2 (by omega)
  have hs := smL_rng' (m := m) (l := kpt w m 9999 a) (fun r hr => (mid_rng J.2.1 (ki.1 r hr).1 (ki.1 r hr).2.1).2) h20
  unfold klen smI
  refine ⟨h20, hs.1, ?_⟩
  have h1 := hs.2
  have h2 : ((kpt w m 9999 a).length : Int) ≤ 20 := by omega
  omega
theorem sA_rng {c : Nat} {w : rf_w} {m : rf_m} {V : Nat → Nat} {n a : Nat} (J : JCnt c w m) (hV : vOK w m V n) : ∀ L, (∀ k, k ∈ L → k < n) → 0 ≤ sA m V L a ∧ sA m V L a ≤ 12959999 * (L.length : Int) := by
  intro L
  induction L with
  | nil => intro _; exact ⟨Int.le_refl _, by show (0 : Int) ≤ _; simp⟩
  | cons x L ih =>
    intro h
    obtain ⟨i1, i2⟩ := ih (fun k hk => h k (List.mem_cons_of_mem _ hk))
    obtain ⟨_, _, w1, w2, _⟩ := v_f J hV (h x List.mem_cons_self)
    have e : sA m V (x :: L) a = sA m V L a + if anV m V x = a then whV m V x else 0 := rfl
    have el : ((x :: L).length : Int) = (L.length : Int) + 1 := by rw [List.length_cons]; omega
    rw [e, el]
    split <;> omega
theorem fact_b {c : Nat} {w : rf_w} {m X : rf_m} {V : Nat → Nat} {n k : Nat} (J : JCnt c w m) (hV : vOK w m V n) (hB : blA w m X) (hk : k < n) : g_X3_factOf w X (Int32.ofNat (V k)) 0 = some (Int32.ofNat (anV m V k), X) ∧ g_X3_factOf w X (Int32.ofNat (V k)) 1 = some (m.1 221 (V k), X) := by
  obtain ⟨a1, a2, a3, a4, a5, a6⟩ := v_f J hV hk
  obtain ⟨q1, q2⟩ := hV.2.1 k hk
  have e0 := X3_factOf (w := w) (m := X) (r := V k) (k := 0) a5 (by decide)
  have e1 := X3_factOf (w := w) (m := X) (r := V k) (k := 1) a5 (by decide)
  rw [Nat.add_zero, (hB.1 _ q1).1, ← a6] at e0
  rw [(hB.1 _ q1).2.1] at e1
  exact ⟨e0, e1⟩
/-- tried sums and counts, so far -/
def stF (X X' : rf_m) : Prop := (∀ z, z ≠ 190 → z ≠ 191 → z ≠ 192 → X'.1 z = X.1 z) ∧ X'.2 = X.2
theorem strikes_c {c : Nat} {w : rf_w} {m X : rf_m} {V : Nat → Nat} {n : Nat} {L : List Nat} (J : JCnt c w m) (hV : vOK w m V n) (hB : blA w m X) (h8 : X.1 184 8 = Int32.ofNat n) (h187 : ∀ k, k < n → X.1 187 k = Int32.ofNat (V k)) (hL : ∀ k, k ∈ L → k < n) (hLn : L.length ≤ 12) (h188 : ∀ i (h : i < L.length), X.1 188 i = Int32.ofNat L[i]) (hnl : ∀ a, a < (m.1 206 16).toNatClampNeg → (¬ ∃ k, k < n ∧ anV m V k = a) → X.1 192 a = meanV w m 9999 a) : ∃ X', g_X2_strikesOut w X (Int32.ofNat L.length) = some (bi (okL w m V n L), X') ∧ stF X X' ∧ (∀ a, a < (m.1 206 16).toNatClampNeg → (¬ ∃ k, k < n ∧ anV m V k = a) → X'.1 192 a = meanV w m 9999 a) ∧ (okL w m V n L → ∀ a, a < (m.1 206 16).toNatClampNeg → X'.1 192 a = mnL w m V L a) := by
  have ja := J.2.2.2.2.1
  have h80 := ang80 ja
  have n12 := hV.1
  obtain ⟨F, hF, hFb⟩ := fuel_ex
  have vf := fun k (hk : k < n) => v_f J hV hk
  -- the last loop
  have key3 : ∀ r f i (Y : rf_m), i + r = n → r < f → stF X Y → (∀ k, k < n → (Y.1 190 (anV m V k)).toInt = smI w m (anV m V k) - sA m V L (anV m V k) ∧ (Y.1 191 (anV m V k)).toInt = (klen w m (anV m V k) : Int) - cA m V L (anV m V k)) → (∀ a, a < (m.1 206 16).toNatClampNeg → (¬ ∃ k, k < n ∧ anV m V k = a) → Y.1 192 a = meanV w m 9999 a) → (∀ k, k < i → cA m V L (anV m V k) < klen w m (anV m V k) ∧ Y.1 192 (anV m V k) = mnL w m V L (anV m V k)) → ∃ X', g_X2_strikesOut_135 w f (Int32.ofNat i) Y = some (bi (okL w m V n L), X') ∧ stF X X' ∧ (∀ a, a < (m.1 206 16).toNatClampNeg → (¬ ∃ k, k < n ∧ anV m V k = a) → X'.1 192 a = meanV w m 9999 a) ∧ (okL w m V n L → ∀ a, a < (m.1 206 16).toNatClampNeg → X'.1 192 a = mnL w m V L a) := by
    intro r
    induction r with
    | zero =>
      intro f i Y hi hf fY hs hn hd
      obtain ⟨f, rfl⟩ : ∃ g, f = g + 1 := ⟨f - 1, by omega⟩
      have e : i = n := by omega
      subst e
      have ok : okL w m V i L := fun k hk => (hd k hk).1
      refine ⟨Y, ?_, fY, hn, fun _ a ha => ?_⟩
      · show g_X2_strikesOut_135_b w _ _ Y = _
        unfold g_X2_strikesOut_135_b
        rw [fY.1 184 (by decide) (by decide) (by decide), h8, if_pos (Int32.le_refl _), bi_t ok]
      · by_cases q : ∃ k, k < i ∧ anV m V k = a
        · obtain ⟨k, q1, q2⟩ := q
          rw [← q2]
          exact (hd k q1).2
        · rw [hn a ha q]
          obtain ⟨c0, s0⟩ := sA_0 (m := m) (V := V) (a := a) L (fun ⟨k, q1, q2⟩ => q ⟨k, hL k q1, q2⟩)
          obtain ⟨kr1, kr2, kr3⟩ := k_rng J ha
          unfold mnL meanV
          rw [c0, s0]
          have ek : (kpt w m 9999 a).length = klen w m a := rfl
          rw [ek]
          by_cases z : klen w m a = 0
          · rw [if_pos z, if_pos z]
          · rw [if_neg z, if_neg z]
            have hp : (0 : Int32) < Int32.ofNat (klen w m a) := (of_lt (a := 0) (by omega) (by omega)).mpr (by omega)
            apply Int32.toInt_inj.mp
            rw [divI hp, ofI (by omega)]
            have es : (smL m (kpt w m 9999 a)).toInt = smI w m a := rfl
            have ez : (smI w m a - 0).tdiv ((klen w m a : Int) - (0 : Nat)) = (smI w m a).tdiv (klen w m a : Int) := by congr 1 <;> omega
            rw [es, ez, tdiv_nn kr2 (by omega)]
            have b1 : 0 ≤ smI w m a / (klen w m a : Int) := Int.ediv_nonneg kr2 (by omega)
            have b2 : smI w m a / (klen w m a : Int) ≤ smI w m a := Int.ediv_le_self _ kr2
            rw [Int32.toInt_ofInt, bm32 (by omega) (by omega)]
    | succ r ih =>
      intro f i Y hi hf fY hs hn hd
      obtain ⟨f, rfl⟩ : ∃ g, f = g + 1 := ⟨f - 1, by omega⟩
      have g1 : ¬ Int32.ofNat n ≤ Int32.ofNat i := nle (by omega) (by omega)
      obtain ⟨a1, a2, a3, a4, a5, a6⟩ := vf i (by omega)
      have hBY : blA w m Y := blA_e hB (fun z hz => fY.1 z (by omega) (by omega) (by omega)) (fun k _ => by rw [fY.1 50 (by decide) (by decide) (by decide)])
      obtain ⟨f0, f1⟩ := fact_b J hV hBY (show i < n by omega)
      obtain ⟨s1, s2⟩ := hs i (by omega)
      obtain ⟨kr1, kr2, kr3⟩ := k_rng J a1
      have g80 := gof (n := anV m V i) (N := 80) (by omega) (by decide)
      show ∃ X', g_X2_strikesOut_135_b w _ _ Y = _ ∧ _
      unfold g_X2_strikesOut_135_b
      rw [fY.1 184 (by decide) (by decide) (by decide), h8, if_neg g1, gof (by omega) (by decide), g_t, tn_of (by omega), fY.1 187 (by decide) (by decide) (by decide), h187 i (by omega), f0, b_sm, g80, g_t, tn_of (by omega)]
      by_cases q : cA m V L (anV m V i) < klen w m (anV m V i)
      · have q' : (0 : Int32) < Y.1 191 (anV m V i) := by rw [i_lt, i_0, s2]; omega
        rw [if_pos q', g_t, g_t, nz_of q', g_t, g_t, of_succ]
        have ev : Y.1 190 (anV m V i) / Y.1 191 (anV m V i) = mnL w m V L (anV m V i) := by
          apply Int32.toInt_inj.mp
          unfold mnL
          rw [if_neg (by omega), divI q', s1, s2]
          have sr := sA_rng (a := anV m V i) J hV L hL
          have l12 : (L.length : Int) ≤ 12 := by omega
          have bnd : -200000000 ≤ smI w m (anV m V i) - sA m V L (anV m V i) ∧ smI w m (anV m V i) - sA m V L (anV m V i) ≤ 300000000 := by omega
          have ab := Int.natAbs_tdiv_le_natAbs (smI w m (anV m V i) - sA m V L (anV m V i)) ((klen w m (anV m V i) : Int) - cA m V L (anV m V i))
          rw [Int32.toInt_ofInt, bm32 (by omega) (by omega)]
        rw [ev]
        refine ih f (i + 1) _ (by omega) (by omega) ⟨fun z z1 z2 z3 => by rw [rf_i_c, if_neg z3]; exact fY.1 z z1 z2 z3, fY.2⟩ (fun k hk => by rw [rf_i_c, if_neg (by decide), rf_i_c, if_neg (by decide)]; exact hs k hk) (fun a ha hna => ?_) (fun k hk => ?_)
        · rw [rf_i_c, if_pos rfl, pu_ne (fun e => hna ⟨i, by omega, e.symm⟩)]
          exact hn a ha hna
        · rw [rf_i_c, if_pos rfl]
          by_cases e : anV m V k = anV m V i
          · rw [e, pu_at]; exact ⟨q, rfl⟩
          · rw [pu_ne e]
            exact hd k (by
              have : k ≠ i := fun z => e (by rw [z])
              omega)
      · have q' : ¬ (0 : Int32) < Y.1 191 (anV m V i) := fun z => by rw [i_lt, i_0, s2] at z; omega
        rw [if_neg q', bi_f (fun ok => q (ok i (by omega)))]
        exact ⟨Y, rfl, fY, hn, fun ok => absurd (ok i (by omega)) q⟩
  -- the picked ones
  have key2 : ∀ r f i (Y : rf_m), i + r = L.length → r < f → stF X Y → (∀ k, k < n → (Y.1 190 (anV m V k)).toInt = smI w m (anV m V k) - sA m V (L.take i) (anV m V k) ∧ (Y.1 191 (anV m V k)).toInt = (klen w m (anV m V k) : Int) - cA m V (L.take i) (anV m V k)) → Y.1 192 = X.1 192 → ∃ X', g_X2_strikesOut_64 w f (Int32.ofNat L.length) (Int32.ofNat i) Y = some (bi (okL w m V n L), X') ∧ stF X X' ∧ (∀ a, a < (m.1 206 16).toNatClampNeg → (¬ ∃ k, k < n ∧ anV m V k = a) → X'.1 192 a = meanV w m 9999 a) ∧ (okL w m V n L → ∀ a, a < (m.1 206 16).toNatClampNeg → X'.1 192 a = mnL w m V L a) := by
    intro r
    induction r with
    | zero =>
      intro f i Y hi hf fY hs h192
      obtain ⟨f, rfl⟩ : ∃ g, f = g + 1 := ⟨f - 1, by omega⟩
      have e : i = L.length := by omega
      subst e
      rw [List.take_length] at hs
      show ∃ X', g_X2_strikesOut_64_b w _ _ _ Y = _ ∧ _
      unfold g_X2_strikesOut_64_b
      rw [if_pos (Int32.le_refl _), hF]
      exact key3 n F 0 Y (by omega) (by omega) fY hs (fun a ha hna => by rw [h192]; exact hnl a ha hna) (fun k hk => by omega)
    | succ r ih =>
      intro f i Y hi hf fY hs h192
      obtain ⟨f, rfl⟩ : ∃ g, f = g + 1 := ⟨f - 1, by omega⟩
      have il : i < L.length := by omega
      have g1 : ¬ Int32.ofNat L.length ≤ Int32.ofNat i := nle il (by omega)
      have kn := hL L[i] (List.getElem_mem il)
      obtain ⟨a1, a2, a3, a4, a5, a6⟩ := vf L[i] kn
      have hBY : blA w m Y := blA_e hB (fun z hz => fY.1 z (by omega) (by omega) (by omega)) (fun k _ => by rw [fY.1 50 (by decide) (by decide) (by decide)])
      obtain ⟨f0, f1⟩ := fact_b J hV hBY kn
      obtain ⟨s1, s2⟩ := hs L[i] kn
      obtain ⟨kr1, kr2, kr3⟩ := k_rng J a1
      have g80 := gof (n := anV m V L[i]) (N := 80) (by omega) (by decide)
      have p1 : Y.1 188 i = Int32.ofNat L[i] := by rw [fY.1 188 (by decide) (by decide) (by decide)]; exact h188 i il
      have p2 : Y.1 187 L[i] = Int32.ofNat (V L[i]) := by rw [fY.1 187 (by decide) (by decide) (by decide)]; exact h187 _ kn
      have tk : L.take (i + 1) = L.take i ++ [L[i]] := by rw [List.take_succ_eq_append_getElem il]
      have lk : ∀ x, x ∈ L.take i → x < n := fun x hx => hL x (List.mem_of_mem_take hx)
      have sr := sA_rng (a := anV m V L[i]) J hV (L.take i) lk
      have cl := cA_le (m := m) (V := V) (a := anV m V L[i]) (L.take i)
      have tl : (L.take i).length = i := by rw [List.length_take]; omega
      generalize hki : L[i] = k at *
      rw [tl] at cl sr
      show ∃ X', g_X2_strikesOut_64_b w _ _ _ Y = _ ∧ _
      unfold g_X2_strikesOut_64_b
      rw [if_neg g1, gof (n := i) (by omega) (by decide), g_t, tn_of (n := i) (by omega), p1, gof (n := k) (by omega) (by decide), g_t, tn_of (n := k) (by omega), p2, f0, b_sm, g80, g_t, g_t, p1, gof (n := k) (by omega) (by decide), g_t, tn_of (n := k) (by omega), p2, f1, b_sm, g_t, g_t, g_t, tn_of (n := anV m V k) (by omega), of_succ]
      have e191 : (rf_i Y 190 (anV m V k) (Y.1 190 (anV m V k) - m.1 221 (V k))).1 191 = Y.1 191 := by rw [rf_i_c, if_neg (by decide)]
      rw [e191]
      have wI : (m.1 221 (V k)).toInt = whV m V k := rfl
      have d1 : (Y.1 190 (anV m V k) - m.1 221 (V k)).toInt = smI w m (anV m V k) - sA m V (L.take i) (anV m V k) - whV m V k := by rw [subI (by rw [s1, wI]; omega) (by rw [s1, wI]; omega), s1, wI]
      have k1 : (1 : Int32).toInt = 1 := by decide
      have d2 : (Y.1 191 (anV m V k) - 1).toInt = (klen w m (anV m V k) : Int) - cA m V (L.take i) (anV m V k) - 1 := by rw [subI (by rw [s2, k1]; omega) (by rw [s2, k1]; omega), s2, k1]
      refine ih f (i + 1) _ (by omega) (by omega) ⟨fun z z1 z2 z3 => by rw [rf_i_c, if_neg z2, rf_i_c, if_neg z1]; exact fY.1 z z1 z2 z3, fY.2⟩ (fun k' hk' => ?_) (by rw [rf_i_c, if_neg (by decide), rf_i_c, if_neg (by decide)]; exact h192)
      rw [tk, sA_snoc, cA_snoc]
      have e0 : (rf_i (rf_i Y 190 (anV m V k) (Y.1 190 (anV m V k) - m.1 221 (V k))) 191 (anV m V k) (Y.1 191 (anV m V k) - 1)).1 190 = pu (Y.1 190) (anV m V k) (Y.1 190 (anV m V k) - m.1 221 (V k)) := by rw [rf_i_c, if_neg (by decide), rf_i_c, if_pos rfl]
      have e1 : (rf_i (rf_i Y 190 (anV m V k) (Y.1 190 (anV m V k) - m.1 221 (V k))) 191 (anV m V k) (Y.1 191 (anV m V k) - 1)).1 191 = pu (Y.1 191) (anV m V k) (Y.1 191 (anV m V k) - 1) := by rw [rf_i_c, if_pos rfl, rf_i_c, if_neg (by decide)]
      rw [e0, e1]
      by_cases e : anV m V k' = anV m V k
      · rw [e, pu_at, pu_at, d1, d2, if_pos rfl, if_pos rfl]
        omega
      · rw [pu_ne e, pu_ne e, if_neg (fun z => e z.symm), if_neg (fun z => e z.symm)]
        have := hs k' hk'
        omega
  -- the first loop
  have key1 : ∀ r f i (Y : rf_m), i + r = n → r < f → stF X Y → Y.1 192 = X.1 192 → (∀ k, k < i → (Y.1 190 (anV m V k)).toInt = smI w m (anV m V k) ∧ (Y.1 191 (anV m V k)).toInt = (klen w m (anV m V k) : Int)) → ∃ X', g_X2_strikesOut_2 w f (Int32.ofNat L.length) (Int32.ofNat i) Y = some (bi (okL w m V n L), X') ∧ stF X X' ∧ (∀ a, a < (m.1 206 16).toNatClampNeg → (¬ ∃ k, k < n ∧ anV m V k = a) → X'.1 192 a = meanV w m 9999 a) ∧ (okL w m V n L → ∀ a, a < (m.1 206 16).toNatClampNeg → X'.1 192 a = mnL w m V L a) := by
    intro r
    induction r with
    | zero =>
      intro f i Y hi hf fY h192 hs
      obtain ⟨f, rfl⟩ : ∃ g, f = g + 1 := ⟨f - 1, by omega⟩
      have e : i = n := by omega
      subst e
      show ∃ X', g_X2_strikesOut_2_b w _ _ _ Y = _ ∧ _
      unfold g_X2_strikesOut_2_b
      rw [fY.1 184 (by decide) (by decide) (by decide), h8, if_pos (Int32.le_refl _), hF]
      refine key2 L.length F 0 Y (by omega) (by omega) fY (fun k hk => ?_) h192
      obtain ⟨q1, q2⟩ := hs k hk
      rw [List.take_zero, q1, q2]
      exact ⟨(Int.sub_zero _).symm, (Int.sub_zero _).symm⟩
    | succ r ih =>
      intro f i Y hi hf fY h192 hs
      obtain ⟨f, rfl⟩ : ∃ g, f = g + 1 := ⟨f - 1, by omega⟩
      have g1 : ¬ Int32.ofNat n ≤ Int32.ofNat i := nle (by omega) (by omega)
      obtain ⟨a1, a2, a3, a4, a5, a6⟩ := vf i (by omega)
      have hBY : blA w m Y := blA_e hB (fun z hz => fY.1 z (by omega) (by omega) (by omega)) (fun k _ => by rw [fY.1 50 (by decide) (by decide) (by decide)])
      obtain ⟨f0, f1⟩ := fact_b J hV hBY (show i < n by omega)
      obtain ⟨kr1, kr2, kr3⟩ := k_rng J a1
      have g80 := gof (n := anV m V i) (N := 80) (by omega) (by decide)
      have ib80 : ib (Int32.ofNat (anV m V i)) 80 := ⟨of_nn (by omega), (of_lt (b := 80) (by omega) (by omega)).mpr (by omega)⟩
      have ta := hBY.2.1 _ a1
      have t8 := tly_c (w := w) (X := Y) (k := 8) ib80 (by decide) (by decide)
      rw [tn_of (by omega), ta.2.2.2.2.2.2.2] at t8
      have t8 : g_X3_tallyOf w Y (Int32.ofNat (anV m V i)) 8 = _ := t8
      generalize hY2 : rf_i Y 190 (anV m V i) (smL m (kpt w m 9999 (anV m V i))) = Y2
      have y34 : Y2.1 34 = Y.1 34 := by rw [← hY2, rf_i_c, if_neg (by decide)]
      have t4 := tly_c (w := w) (X := Y2) (k := 4) ib80 (by decide) (by decide)
      rw [tn_of (by omega), y34, ta.2.2.2.2.1] at t4
      have t4 : g_X3_tallyOf w Y2 (Int32.ofNat (anV m V i)) 4 = some (Int32.ofNat (klen w m (anV m V i)), Y2) := t4
      show ∃ X', g_X2_strikesOut_2_b w _ _ _ Y = _ ∧ _
      unfold g_X2_strikesOut_2_b
      rw [fY.1 184 (by decide) (by decide) (by decide), h8, if_neg g1, gof (n := i) (by omega) (by decide), g_t, tn_of (n := i) (by omega), fY.1 187 (by decide) (by decide) (by decide), h187 i (by omega), f0, b_sm, t8, b_sm, g80, g_t, tn_of (n := anV m V i) (by omega), hY2, t4, b_sm, g_t, of_succ]
      have z0 : (rf_i Y2 191 (anV m V i) (Int32.ofNat (klen w m (anV m V i)))).1 190 = pu (Y.1 190) (anV m V i) (smL m (kpt w m 9999 (anV m V i))) := by rw [rf_i_c, if_neg (by decide), ← hY2, rf_i_c, if_pos rfl]
      have z1' : (rf_i Y2 191 (anV m V i) (Int32.ofNat (klen w m (anV m V i)))).1 191 = pu (Y.1 191) (anV m V i) (Int32.ofNat (klen w m (anV m V i))) := by rw [rf_i_c, if_pos rfl, ← hY2, rf_i_c, if_neg (by decide)]
      refine ih f (i + 1) _ (by omega) (by omega) ⟨fun z z1 z2 z3 => by rw [rf_i_c, if_neg z2, ← hY2, rf_i_c, if_neg z1]; exact fY.1 z z1 z2 z3, by rw [rf_i_l, ← hY2, rf_i_l]; exact fY.2⟩ (by rw [rf_i_c, if_neg (by decide), ← hY2, rf_i_c, if_neg (by decide)]; exact h192) (fun k hk => ?_)
      rw [z0, z1']
      by_cases e : anV m V k = anV m V i
      · rw [e, pu_at, pu_at, ofI (by omega)]
        exact ⟨rfl, rfl⟩
      · rw [pu_ne e, pu_ne e]
        exact hs k (by
          have : k ≠ i := fun z => e (by rw [z])
          omega)
  unfold g_X2_strikesOut
  rw [hF]
  exact key1 n F 0 X (by omega) (by omega) ⟨fun _ _ _ _ => rfl, rfl⟩ rfl (fun k hk => by omega)
end PBStrikes
