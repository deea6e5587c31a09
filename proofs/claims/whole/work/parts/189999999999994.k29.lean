/-! adjust, both sides -/
section PBK29
def biA (w : rf_w) (m Y : rf_m) : Prop := ∃ m2, (m2 = m ∨ allF w m m2) ∧ biF m2 Y
def r29 (c : Nat) (w : rf_w) (m Y : rf_m) : Prop := biA w m Y ∧ JT Y ∧ JCnt c w Y ∧ JCache w Y ∧ JCost Y ∧ JAdj Y ∧ JWt Y
def aZ (z : Nat) : Prop := z = 58 ∨ z = 59 ∨ z = 63 ∨ (163 ≤ z ∧ z ≤ 174)
def lZ (z : Nat) : Prop := z = 55 ∨ z = 64 ∨ (163 ≤ z ∧ z ≤ 174) ∨ z = 206
theorem ref_fin {c : Nat} {w : rf_w} {m m2 X M : rf_m} {v : Int32} (J : JCnt c w m) (jt : JT m) (jo : JCost m) (jj : JAdj m) (jw : JWt X) (e1 : g_X3_freshenAll w m = some m2) (e2 : allF w m m2) (hv : v ≠ 4) (hX : cF m2 X) (X1 : ∀ z, aZ z → X.1 z = m2.1 z) (X2 : ∀ z, lZ z → X.2 z = m2.2 z) (hM : biF X M) (M1 : ∀ z, z = 57 ∨ aZ z ∨ z = 259 ∨ z = 263 ∨ z = 264 → M.1 z = X.1 z) (M2 : M.2 = X.2) (M88 : M.1 206 88 = X.1 206 88) (M11 : M.1 0 11 = v) : r29 c w m (rf_i (rf_i M 206 1 v) 206 2 (-1)) := by
  have bY : biF M (rf_i (rf_i M 206 1 v) 206 2 (-1)) := biF_trans (biF_206 (by decide)) (biF_206 (by decide))
  have bA : biF m2 (rf_i (rf_i M 206 1 v) 206 2 (-1)) := biF_trans (cF_bi hX) (biF_trans hM bY)
  have eM : ∀ z, z ≠ 206 → (rf_i (rf_i M 206 1 v) 206 2 (-1)).1 z = M.1 z := fun z hz => by rw [rf_i_c, if_neg hz, rf_i_c, if_neg hz]
  have fa := fa_2 e1
  have f := fin_bi J e2 bA
  refine ⟨⟨m2, Or.inr e2, bA⟩, jt_all jt hv e2 bA ((congrFun (eM 0 (by decide)) 11).trans M11) (by rw [rf_i_c, if_pos rfl, pu_ne (by decide), rf_i_c, if_pos rfl, pu_at]) (by rw [rf_i_c, if_pos rfl, pu_at]), f.1, f.2, ?_, ?_, ?_⟩
  · show M.2 55 0 = M.2 206 89
    rw [M2, X2 55 (Or.inl rfl), X2 206 (Or.inr (Or.inr (Or.inr rfl))), fa 55 (by decide), fa 206 (by decide)]
    exact jo
  · refine JAdj_e jj (fun z hz => ?_) (fun z hz => ?_) ?_
    · rw [eM z (by omega)]
      by_cases q : 259 ≤ z
      · rw [M1 z (by omega), hX.1 z (by omega) (by omega) (by omega)]
        exact all_c e2 z (by omega)
      · rw [M1 z (by unfold aZ; omega), X1 z (by unfold aZ; omega)]
        exact all_c e2 z (by omega)
    · show M.2 z = m.2 z
      rw [M2, X2 z (by unfold lZ; omega), fa z (by omega)]
    · rw [rf_i_c, if_pos rfl, pu_ne (by decide), rf_i_c, if_pos rfl, pu_ne (by decide), M88, hX.1 206 (by decide) (by decide) (by decide), all_c e2 206 (by omega)]
  · intro a ha
    rw [eM 57 (by decide), M1 57 (Or.inl rfl)]
    exact jw a ha
/-- refused at once -/
theorem ref_now {c : Nat} {w : rf_w} {m : rf_m} {v : Int32} (J : JCnt c w m) (jc : JCache w m) (jt : JT m) (jo : JCost m) (jj : JAdj m) (jw : JWt m) (hv : v ≠ 4) : r29 c w m (rf_i (rf_i (rf_i (rf_i m 0 11 v) 206 0 0) 206 1 v) 206 2 (-1)) := by
  have bA : biF m (rf_i (rf_i (rf_i (rf_i m 0 11 v) 206 0 0) 206 1 v) 206 2 (-1)) := biF_trans (cF_bi cF_0) (biF_trans (biF_206 (by decide)) (biF_trans (biF_206 (by decide)) (biF_206 (by decide))))
  have eM : ∀ z, z ≠ 0 → z ≠ 206 → (rf_i (rf_i (rf_i (rf_i m 0 11 v) 206 0 0) 206 1 v) 206 2 (-1)).1 z = m.1 z := fun z h0 hz => by rw [rf_i_c, if_neg hz, rf_i_c, if_neg hz, rf_i_c, if_neg hz, rf_i_c, if_neg h0]
  have f := fin_no J jc bA
  refine ⟨⟨m, Or.inl rfl, bA⟩, jt_fin jt hv bA rfl rfl rfl, f.1, f.2, jo, JAdj_e jj (fun z hz => eM z (by omega) (by omega)) (fun z _ => rfl) rfl, fun a ha => ?_⟩
  rw [eM 57 (by decide) (by decide)]
  exact jw a ha
theorem mbK_lt {m : rf_m} {q a : Nat} (jn : JNet m) (ja : JAng m) (ok : okK m q) (ha : a < 80) (h : mbK m q a) : a < (m.1 206 16).toNatClampNeg := by
  have n30 := net30 jn
  unfold mbK at h
  by_cases c : q < 30
  · rw [if_pos c] at h
    obtain ⟨i, h1, h2⟩ := h
    have n := (net_t jn ja (t := q) (by rcases ok with k | k <;> omega) h1).2
    rw [h2, tn_of (by omega)] at n
    exact n
  · rw [if_neg c] at h
    obtain ⟨i, h1, h2⟩ := h
    have n := (net_r jn ja (r := q - 30) (by rcases ok with k | k <;> omega) h1).2
    rw [h2, tn_of (by omega)] at n
    exact n
/-- what each angle is part of, as the class keeps it -/
theorem mem_0 {w : rf_w} {m X : rf_m} {L : List Nat} {a : Nat} (hg : gaS w m L X) (hL : L.length ≤ 6) (ha : a < 80) : X.1 56 a = 0 ↔ ¬ memQ m L a := by
  constructor
  · rintro h ⟨i, hi, k⟩
    have := (gaS_b hg (a := a) (u := i) ha (by omega)).mpr ⟨hi, k⟩
    rw [h, bt_0] at this
    cases this
  · intro h
    refine bt_ext fun u hu => ?_
    rw [bt_0]
    cases q : bt (X.1 56 a) u with
    | false => rfl
    | true => exact absurd ⟨u, (gaS_b hg ha hu).mp q⟩ h
theorem num_e {w : rf_w} {m X : rf_m} {L : List Nat} {a : Nat} (hg : gaS w m L X) (hL : L.length ≤ 6) (ha : a < 80) : sumA (fK w m L) (X.1 56 a) 6 = mN w m L a L.length := by
  have e : ∀ i, i < 6 → (if bt (X.1 56 a) i = true then fK w m L i else 0) = vQ m L a i * fK w m L i := fun i hi => by
    have b := gaS_b hg (a := a) (u := i) ha (by omega)
    by_cases q : mbQ m L i a
    · rw [if_pos (b.mpr q), vQ_t q, Int.one_mul]
    · rw [if_neg (fun z => q (b.mp z)), vQ_f q, Int.zero_mul]
  have st : ∀ k, L.length + k ≤ 6 → sm (L.length + k) (fun i => vQ m L a i * fK w m L i) = sm L.length (fun i => vQ m L a i * fK w m L i) := by
    intro k
    induction k with
    | zero => intro _; rfl
    | succ k ih =>
      intro hk
      show sm (L.length + k) (fun i => vQ m L a i * fK w m L i) + vQ m L a (L.length + k) * fK w m L (L.length + k) = _
      have : ¬ mbQ m L (L.length + k) a := fun ⟨h, _⟩ => by omega
      rw [vQ_f this, Int.zero_mul, Int.add_zero]
      exact ih (by omega)
  unfold sumA mN
  rw [sm_c 6 e, ← st (6 - L.length) (by omega)]
  rw [show L.length + (6 - L.length) = 6 by omega]
/-- solved on both sides -/
theorem adj_fin {c : Nat} {w : rf_w} {m m2 X1 X2 X3 X4 M5 M6 : rf_m} {L : List Nat} {s1 : Int64} (J : JCnt c w m) (jn : JNet m) (jt : JT m) (jw : JWt m) (e1 : g_X3_freshenAll w m = some m2) (e2 : allF w m m2) (hL : L.length ≤ 6) (ok : ∀ q, q ∈ L → okK m q ∧ msK w m q ≠ -2147483648) (f1 : gaF m2 X1) (g1 : gaS w m L X1) (f2 : weF X1 X2) (h57 : wtS w m X2) (h57' : ∀ a, (m.1 206 16).toNatClampNeg ≤ a → X2.1 57 a = X1.1 57 a) (f3 : slF X2 X3) (d0 : 0 < DK w m L) (k4 : kpt2 w m L X3 X4) (f5 : biF (rf_i (rf_i X4 0 11 0) 206 0 0) M5) (f5z : ∀ z, z < 206 → M5.1 z = (rf_i X4 0 11 0).1 z) (f5l : M5.2 = X4.2) (h259 : w6 (M5.1 259) 0 = DK w m L) (hs : s1.toInt = cstI (oneK w m L * 2520000 / DK w m L)) (f6 : tlF (rf_l M5 206 89 s1) M6) (h263 : ∀ a, a < (m.1 206 16).toNatClampNeg → M6.1 263 a = bi (memQ m L a) ∧ wd (M6.1 264) (6 * a) (mN w m L a L.length * sI w m a)) (h263' : ∀ a, (m.1 206 16).toNatClampNeg ≤ a → a < 80 → M6.1 263 a = 0) : r29 c w m M6 := by
  have ja := J.2.2.2.2.1
  have nb := nrm_ok (L := L) J jn (fun q h => ok q h)
  obtain ⟨q1, q2, q3, q4, q5, q6, q7⟩ := k4
  have z6 : ∀ z, z < 206 → M6.1 z = (rf_i X4 0 11 0).1 z := fun z hz => by
    rw [f6.1 z (by omega) (by omega) (by omega) (by omega)]
    exact f5z z hz
  have z6' : ∀ z, 0 < z → z < 206 → M6.1 z = X4.1 z := fun z h0 hz => by rw [z6 z hz, rf_i_c, if_neg (by omega)]
  have l6 : ∀ z, z ≠ 206 → M6.2 z = X4.2 z := fun z hz => by
    rw [f6.2.2.1, rf_l_c, if_neg hz, f5l]
  have cc : cF m2 X3 := cF_trans (cF_ga f1) (cF_trans (cF_we f2) (cF_sl f3))
  have c4 : cF X3 X4 := ⟨fun z _ _ h3 => q1 z (by omega), fun k _ => by rw [q1 0 (by omega)]⟩
  have bA : biF m2 M6 := biF_trans (cF_bi (cF_trans cc c4)) (biF_trans (cF_bi cF_0) (biF_trans (biF_206 (by decide)) (biF_trans f5 (biF_trans biF_l (biF_tl f6)))))
  have f := fin_bi J e2 bA
  have e56 : X3.1 56 = X1.1 56 := by rw [f3.1 56 (by omega), f2.1 56 (by decide) (by decide)]
  have e57 : X3.1 57 = X2.1 57 := f3.1 57 (by omega)
  have e56' : X2.1 56 = X1.1 56 := f2.1 56 (by decide) (by decide)
  have m57 : X1.1 57 = m.1 57 := by rw [f1.1 57 (by decide) (by decide) (by decide)]; exact all_c e2 57 (by omega)
  have w57 : ∀ a, a < 80 → 0 ≤ (X2.1 57 a).toInt ∧ (X2.1 57 a).toInt ≤ 2520 := fun a ha => by
    by_cases q : a < (m.1 206 16).toNatClampNeg
    · rw [h57 a q]
      split
      · decide
      · exact sI_rng
    · rw [h57' a (by omega), m57]
      exact jw a ha
  have nmem : ∀ a, a < 80 → (m.1 206 16).toNatClampNeg ≤ a → ¬ memQ m L a := fun a ha h => by
    rintro ⟨i, hi, k⟩
    have := mbK_lt jn ja (ok _ (List.getElem_mem hi)).1 ha k
    omega
  have e58 : ∀ a, a < 80 → M6.1 58 a = X1.1 56 a := fun a ha => by rw [z6' 58 (by decide) (by decide), (q7 a ha).1, e56]
  have e59 : ∀ a, a < 80 → M6.1 59 a = X2.1 57 a := fun a ha => by rw [z6' 59 (by decide) (by decide), (q7 a ha).2, e57]
  refine ⟨⟨m2, Or.inr e2, bA⟩, jt_all jt (v := 0) (by decide) e2 bA (by rw [z6 0 (by decide), rf_i_c, if_pos rfl, pu_at]) f6.2.2.2.1 f6.2.2.2.2.1, f.1, f.2, ?_, Or.inr ⟨f6.2.2.2.2.2, L.length, fK w m L, DK w m L, hL, fun i hi => ⟨bg_c (q6 i hi) (z6' _ (by omega) (by omega)) (l6 _ (by omega)), fK_bd nb hL hi⟩, bg_c q5 (z6' 63 (by decide) (by decide)) (l6 64 (by decide)), d0, ?_, ?_, fun a ha => ⟨fun i h1 h2 => ?_, ?_, ?_, fun hz => ?_⟩⟩, fun a ha => ?_⟩
  · show M6.2 55 0 = M6.2 206 89
    have e206 : M6.2 206 89 = s1 := by rw [f6.2.2.1, rf_l_c, if_pos rfl, pu_at]
    rw [e206, l6 55 (by decide), l_eq, q4, hs]
  · have := (mg_le.mp (DK_bd nb hL)).2
    exact this
  · rw [f6.1 259 (by decide) (by decide) (by decide) (by decide)]
    exact h259
  · rw [e58 a ha]
    cases q : bt (X1.1 56 a) i with
    | false => rfl
    | true =>
      obtain ⟨h, _⟩ := (gaS_b g1 ha h2).mp q
      omega
  · rw [e59 a ha]
    exact w57 a ha
  · rw [e58 a ha]
    by_cases q : a < (m.1 206 16).toNatClampNeg
    · rw [(h263 a q).1]
      exact bi_congr ⟨fun h z => (mem_0 g1 hL ha).mp z h, fun h => Classical.byContradiction fun z => h ((mem_0 g1 hL ha).mpr z)⟩
    · rw [h263' a (by omega) ha, bi_f]
      exact fun z => z ((mem_0 g1 hL ha).mpr (nmem a ha (by omega)))
  · rw [e58 a ha] at hz
    have hq : memQ m L a := Classical.byContradiction fun z => hz ((mem_0 g1 hL ha).mpr z)
    have q : a < (m.1 206 16).toNatClampNeg := Nat.lt_of_not_le fun z => nmem a ha z hq
    unfold numA
    rw [e58 a ha, e59 a ha, num_e g1 hL ha, h57 a q, e56', if_neg hz]
    exact (h263 a q).2
  · rw [z6' 57 (by decide) (by decide), q1 57 (by omega), e57]
    exact w57 a ha
end PBK29
