/-! rule: a rule that is taken, the class's rows and the new object -/
section PBRuleB
variable {w w' : rf_w} {m M : rf_m} {cc R c : Nat}
theorem eqv_ne {d : Nat} {C D : List (Nat × Int)} {b : Prop} (h : eqv d C D b) (hd : d ≤ 30) : C ≠ [] ∧ D ≠ [] := by
  obtain ⟨v, _, h1, h2⟩ := h.2 (fun _ => 0) (fun i _ => ⟨Int32.le_refl 0, show (0 : Int32) ≤ 1000000000 by decide⟩) [] (by simp only [List.length_nil]; omega)
  constructor
  · intro e
    rw [e] at h1
    cases Option.some.inj h1
  · intro e
    rw [e] at h2
    cases Option.some.inj h2
theorem get_l {α : Type} {a b : List α} {i : Nat} {x : α} (h : a[i]? = some x) : (a ++ b)[i]? = some x := by
  have hi : i < a.length := by
    by_cases q : i < a.length
    · exact q
    · rw [List.getElem?_eq_none (by omega)] at h; cases h
  rw [List.getElem?_append, if_pos hi]
  exact h
theorem get_r {α : Type} {a b : List α} {i : Nat} {x : α} (h : b[i]? = some x) : (a ++ b)[a.length + i]? = some x := by
  rw [List.getElem?_append, if_neg (by omega), Nat.add_sub_cancel_left]
  exact h
theorem get_m {α β : Type} {a : List α} {g : α → β} {i : Nat} {x : β} (h : (a.map g)[i]? = some x) : ∃ y, a[i]? = some y ∧ g y = x := by
  rw [List.getElem?_map] at h
  cases q : a[i]? with
  | none => rw [q] at h; cases h
  | some y => rw [q] at h; exact ⟨y, rfl, Option.some.inj h⟩
/-- the new rule -/
theorem new_ok {ac d1 d2 : Nat} {x y : Int32} {st1 st2 : List Int32} {I1 I2 : List (Int32 × Int32)} (hw : w'.2.2 (R + 2) = some c) (hr : rob w' c) (h1 : 1 ≤ ac) (h5 : ac ≤ 5) (h0 : M.1 c 0 = Int32.ofNat (ac - 1)) (h19 : M.1 19 R = Int32.ofNat ac) (h20 : M.1 20 R = x) (h21 : M.1 21 R = y) (hc1 : M.1 c 1 = x) (hc2 : M.1 c 2 = y) (h22 : M.1 22 R = Int32.ofNat st1.length) (h23 : M.1 23 R = Int32.ofNat (st1 ++ st2).length) (h24 : ∀ i z, (st1 ++ st2)[i]? = some z → M.1 24 (160 * R + i) = z) (hs : (st1 ++ st2).length < 160) (h4 : M.1 c 4 = Int32.ofNat I1.length) (hi : RI c M (I1 ++ I2)) (hI : (I1 ++ I2).length ≤ 300) (hd1 : d1 ≤ 30) (hd2 : d2 ≤ 30) (e1 : ac ≠ 1 → ac ≠ 3 → eqv d1 (st1.map dC) (I1.map dRp) False) (e2 : (st2 = [] ∧ I2 = []) ∨ eqv d2 (st2.map dC) (I2.map dRp) True) : rulOK w' M R c := by
  have hs' := hs
  have hI' := hI
  rw [List.length_append] at hs' hI'
  have h3 : M.1 c 3 = Int32.ofNat (I1 ++ I2).length := hi.1
  have emp : st2.length = 0 ↔ I2.length = 0 := by
    rcases e2 with ⟨q1, q2⟩ | q
    · rw [q1, q2]; exact ⟨fun _ => rfl, fun _ => rfl⟩
    · obtain ⟨n1, n2⟩ := eqv_ne q hd2
      constructor
      · intro z
        exact absurd (by rw [List.length_eq_zero_iff.mp z]; rfl) n1
      · intro z
        exact absurd (by rw [List.length_eq_zero_iff.mp z]; rfl) n2
  have t22 : (M.1 22 R).toNatClampNeg = st1.length := by rw [h22, tn_of (by omega)]
  have t23 : (M.1 23 R).toNatClampNeg = st1.length + st2.length := by rw [h23, List.length_append, tn_of (by omega)]
  have t4 : (M.1 c 4).toNatClampNeg = I1.length := by rw [h4, tn_of (by omega)]
  have t3 : (M.1 c 3).toNatClampNeg = I1.length + I2.length := by rw [h3, List.length_append, tn_of (by omega)]
  refine ⟨hw, hr, ?_, ?_, ?_, ?_, ?_, ?_, ?_, ?_, ?_, fun N hN => ⟨fun a1 a3 => ?_, fun ne => ?_⟩⟩
  · rw [h0]
    exact ⟨of_nn (by omega), (of_le (b := 4) (by omega) (by decide)).mpr (by omega)⟩
  · rw [h19, h0, of_succ]
    congr 1
    omega
  · rw [h20, hc1]
  · rw [h21, hc2]
  · rw [h22, h23, List.length_append]
    exact ⟨of_nn (by omega), (of_le (by omega) (by omega)).mpr (by omega)⟩
  · rw [h23]
    exact (of_le (b := 160) (by omega) (by decide)).mpr (by omega)
  · rw [h4, h3, List.length_append]
    exact ⟨of_nn (by omega), (of_le (by omega) (by omega)).mpr (by omega)⟩
  · rw [h3]
    exact (of_le (b := 300) (by omega) (by decide)).mpr hI
  · rw [h22, h23, h3, h4, List.length_append, List.length_append, of_inj (by omega) (by omega), of_inj (by omega) (by omega)]
    omega
  · have a1' : ac ≠ 1 := fun z => a1 (by rw [h19, z]; rfl)
    have a3' : ac ≠ 3 := fun z => a3 (by rw [h19, z]; rfl)
    obtain ⟨v, _, v1, v2⟩ := (e1 a1' a3').2 N hN [] (by simp only [List.length_nil]; omega)
    refine ⟨v, ?_, ?_⟩
    · rw [t22, ← v1, ← List.length_map (as := st1) (f := dC)]
      refine runA_L _ _ _ _ (fun i z hz => ?_)
      obtain ⟨u, u1, u2⟩ := get_m hz
      rw [Nat.zero_add, h24 i u (get_l u1)]
      exact u2
    · rw [t4, ← v2, ← List.length_map (as := I1) (f := dRp)]
      refine runA_L _ _ _ _ (fun i z hz => ?_)
      obtain ⟨u, u1, u2⟩ := get_m hz
      obtain ⟨p1, p2⟩ := hi.2 i u (get_l u1)
      rw [Nat.zero_add, p1, p2]
      exact u2
  · have ne' : ¬ st2.length = 0 := fun z => ne (by rw [h22, h23, List.length_append, z, Nat.add_zero])
    have q : eqv d2 (st2.map dC) (I2.map dRp) True := by
      rcases e2 with ⟨q1, q2⟩ | q
      · exact absurd (by rw [q1]; rfl) ne'
      · exact q
    obtain ⟨v, vb, v1, v2⟩ := q.2 N hN [] (by simp only [List.length_nil]; omega)
    refine ⟨v, vb trivial, ?_, ?_⟩
    · rw [t22, t23, Nat.add_sub_cancel_left, ← v1, ← List.length_map (as := st2) (f := dC)]
      refine runA_L _ _ _ _ (fun i z hz => ?_)
      obtain ⟨u, u1, u2⟩ := get_m hz
      rw [h24 (st1.length + i) u (get_r u1)]
      exact u2
    · rw [t4, t3, Nat.add_sub_cancel_left, ← v2, ← List.length_map (as := I2) (f := dRp)]
      refine runA_L _ _ _ _ (fun i z hz => ?_)
      obtain ⟨u, u1, u2⟩ := get_m hz
      obtain ⟨p1, p2⟩ := hi.2 (I1.length + i) u (get_r u1)
      rw [p1, p2]
      exact u2
/-- the call that makes a rule -/
theorem ru_new (hcc : cc < 512) (J : JCnt cc w m) (jc : JCache w m) (jw : JW cc w m) (jl : JLg w m) (hc : w.2.2 0 = some c) (hR : (m.1 206 39).toNatClampNeg = R) (hR24 : R < 24) (h : ruF w (rf_wrule w R) m M) (h13 : M.1 13 3 = Int32.ofNat (R + 1)) (h39 : M.1 206 39 = Int32.ofNat (R + 1)) (ho : ∀ r, r < R → oldR m M r) (hob : ∀ z, (z = 230 ∨ z = 231 ∨ z = 232 ∨ 306 ≤ z) → z < w.1 → z ≠ c → z ≠ c + 1 → z ≠ c + 2 → M.1 z = m.1 z) (hn : rulOK (rf_wrule w R) M R c) (hno : M.1 19 R ≠ 1 → M.1 40 = m.1 40 ∧ M.1 26 19 = m.1 26 19) (hyes : M.1 19 R = 1 → (∀ a, a < (m.1 206 16).toNatClampNeg → M.1 40 a = 1) ∧ (0 < (m.1 206 16).toNatClampNeg → M.1 26 19 = 1)) : JCnt (cc + 1) (rf_wrule w R) M ∧ JCache (rf_wrule w R) M ∧ JW (cc + 1) (rf_wrule w R) M ∧ JLg (rf_wrule w R) M := by
  obtain ⟨b1, b2, b3, b4, b5, b6⟩ := ru_base J jl h
  have ju := J.2.2.2.1
  have jw' := jw
  obtain ⟨a1, a2, a3, a4, a5⟩ := jw
  have t39 : (M.1 206 39).toNatClampNeg = R + 1 := by rw [h39, tn_of (by omega)]
  obtain ⟨c', q1, q2, q3, q4⟩ := a4 0 (Or.inl rfl)
  have : c' = c := by rw [hc] at q1; exact (Option.some.inj q1).symm
  subst this
  refine ⟨⟨by omega, b1, str_m b2 (by omega), ⟨by rw [h13, h39], by rw [h39]; exact ⟨of_nn (by omega), (of_le (b := 24) (by omega) (by decide)).mpr (by omega)⟩, fun r hr => ?_⟩, b3, b4, b5⟩, ?_, ⟨?_, ?_, ?_, ?_, ?_⟩, b6⟩
  · rw [t39] at hr
    by_cases e : r = R
    · rw [e]; exact ⟨c', hn⟩
    · obtain ⟨k, hk⟩ := ju.2.2 r (by omega)
      have hd := a5 0 (r + 2) c' k (Or.inl rfl) (Or.inr ⟨by omega, by omega⟩) (by omega) hc hk.1
      obtain ⟨k', p1, p2, p3, p4⟩ := a4 (r + 2) (Or.inr ⟨by omega, by omega⟩)
      have : k' = k := by rw [hk.1] at p1; exact (Option.some.inj p1).symm
      subst this
      have k6 := hk.2.1.2.2.2.2.2
      exact ⟨k', old_ok hk (ho r (by omega)) (wr_22 (by omega) (by omega)) (wr_old p2 p3) (hob k' (by omega) (by omega) (by omega) (by omega) (by omega)) (hob (k' + 1) (by omega) (by omega) (by omega) (by omega) (by omega)) (hob (k' + 2) (by omega) (by omega) (by omega) (by omega) (by omega))⟩
  · by_cases e : M.1 19 R = 1
    · obtain ⟨y1, y2⟩ := hyes e
      have e16 : M.1 206 16 = m.1 206 16 := h.2.2.2.2.1 16 (by omega)
      exact stale_cache (fun a ha => y1 a (by rw [e16] at ha; exact ha)) (fun hh => y2 (by rw [e16] at hh; exact hh))
    · obtain ⟨y1, y2⟩ := hno e
      refine ru_cache J jc h (fun N d => ?_) y1 y2
      unfold stkV
      rw [t39, hR, fst_s R 0 (fun z => e (by rw [Nat.zero_add] at z; exact z.1.1))]
      exact fst_c _ _ (fun j _ hj => old_due (ju.2.2 j (by omega)) (ho j (by omega)))
  · rw [wr_1]; omega
  · rw [wr_1]; omega
  · intro l hl
    rw [wr_22 (by decide) (by omega)] at hl
    obtain ⟨l1, l2⟩ := a3 l hl
    refine ⟨by rw [wr_1]; omega, fun len hlen => ?_⟩
    rw [wr_al l1] at hlen
    exact l2 len hlen
  · intro i hi
    rw [t39] at hi
    have hlg : ∀ l, (rf_wrule w R).2.2 1 = some l → w.2.2 1 = some l := fun l hl => by rw [wr_22 (by decide) (by omega)] at hl; exact hl
    by_cases i0 : i = 0
    · subst i0
      exact ⟨w.1, rfl, wr_rob a1, by rw [wr_1]; omega, fun l hl => Or.inl (a3 l (hlg l hl)).1⟩
    · by_cases iR : i = R + 2
      · subst iR
        exact ⟨c', by rw [wr_R]; exact hc, wr_old q2 q3, by rw [wr_1]; omega, fun l hl => q4 l (hlg l hl)⟩
      · obtain ⟨k', p1, p2, p3, p4⟩ := a4 i (by unfold ix at hi ⊢; omega)
        exact ⟨k', by rw [wr_22 i0 iR]; exact p1, wr_old p2 p3, by rw [wr_1]; omega, fun l hl => p4 l (hlg l hl)⟩
  · intro i j k k' hi hj hij hk hk'
    rw [t39] at hi hj
    -- an old number's cell
    have old : ∀ i k, ix (R + 1) i → i ≠ 0 → (rf_wrule w R).2.2 i = some k → ∃ i', ix (m.1 206 39).toNatClampNeg i' ∧ w.2.2 i' = some k ∧ (i' = 0 ↔ i = R + 2) ∧ (i ≠ R + 2 → i' = i) := by
      intro i k hi i0 hk
      by_cases iR : i = R + 2
      · subst iR
        rw [wr_R] at hk
        exact ⟨0, Or.inl rfl, hk, ⟨fun _ => rfl, fun _ => rfl⟩, fun z => absurd rfl z⟩
      · rw [wr_22 i0 iR] at hk
        exact ⟨i, by unfold ix at hi ⊢; omega, hk, ⟨fun z => absurd z i0, fun z => absurd z iR⟩, fun _ => rfl⟩
    have lo : ∀ i k, ix (R + 1) i → i ≠ 0 → (rf_wrule w R).2.2 i = some k → k + 2 < w.1 := by
      intro i k hi i0 hk
      obtain ⟨i', o1, o2, _⟩ := old i k hi i0 hk
      obtain ⟨k2, p1, p2, p3, p4⟩ := a4 i' o1
      have : k2 = k := by rw [o2] at p1; exact (Option.some.inj p1).symm
      omega
    by_cases i0 : i = 0
    · subst i0
      have e : k = w.1 := (Option.some.inj (show some w.1 = some k from hk)).symm
      have := lo j k' hj (fun z => hij z.symm) hk'
      omega
    · by_cases j0 : j = 0
      · subst j0
        have e : k' = w.1 := (Option.some.inj (show some w.1 = some k' from hk')).symm
        have := lo i k hi i0 hk
        omega
      · obtain ⟨i', o1, o2, o3, o4⟩ := old i k hi i0 hk
        obtain ⟨j', o5, o6, o7, o8⟩ := old j k' hj j0 hk'
        refine a5 i' j' k k' o1 o5 (fun z => ?_) o2 o6
        by_cases iR : i = R + 2
        · have : i' = 0 := o3.mpr iR
          have : j = R + 2 := o7.mp (by omega)
          omega
        · have z1 := o4 iR
          by_cases jR : j = R + 2
          · have : j' = 0 := o7.mpr jR
            omega
          · have z2 := o8 jR
            omega
/-- the class keeps a rule -/
theorem addRule_c {x y : Int32} {L : Nat} (hR : m.1 13 3 = Int32.ofNat R) (h24 : R < 24) (h2 : m.1 14 2 = Int32.ofNat L) (hL : L ≤ 160) : ∃ X, g_X9_add w m x y = some (Int32.ofNat R, X) ∧ X.1 19 = pu (m.1 19) R (m.1 14 4) ∧ X.1 20 = pu (m.1 20) R x ∧ X.1 21 = pu (m.1 21) R y ∧ X.1 22 = pu (m.1 22) R (m.1 14 3) ∧ X.1 23 = pu (m.1 23) R (Int32.ofNat L) ∧ X.1 24 = va_cpy (m.1 16) (m.1 24) 0 (160 * R) L ∧ X.1 13 = pu (m.1 13) 3 (Int32.ofNat (R + 1)) ∧ (∀ z, z ≠ 13 → (z < 19 ∨ 24 < z) → X.1 z = m.1 z) ∧ X.2 = m.2 := by
  have e160 : Int32.ofNat R * 160 = Int32.ofNat (160 * R) := by rw [Nat.mul_comm, Int32.ofNat_mul]; rfl
  have z0 : (0 : Int32).toNatClampNeg = 0 := rfl
  have g24 : rf_in (Int32.ofNat R) 24 = true := gof h24 (by decide)
  have tR : (Int32.ofNat R).toNatClampNeg = R := tn_of (by omega)
  have hg : rf_cg 0 (Int32.ofNat (160 * R)) (Int32.ofNat L) 160 3840 = true := by
    unfold rf_cg
    have a1 : ¬ (0 : Int32) < 0 := by decide
    have a2 : ¬ Int32.ofNat (160 * R) < 0 := by have := of_nn (a := 160 * R) (by omega); grind
    have a3 : ¬ Int32.ofNat L < 0 := by have := of_nn (a := L) (by omega); grind
    rw [decide_eq_false a1, decide_eq_false a2, decide_eq_false a3, z0, tn_of (by omega), tn_of (by omega), Nat.ble_eq_true_of_le (by omega), Nat.ble_eq_true_of_le (by omega)]
    rfl
  unfold g_X9_add g_X9_putInForce
  rw [hR, tR, g24, g_t]
  generalize hA1 : rf_i m 19 R (m.1 14 4) = A1
  have p1 : ∀ z, z ≠ 19 → A1.1 z = m.1 z := fun z hz => by rw [← hA1, rf_i_c, if_neg hz]
  have p19 : A1.1 19 = pu (m.1 19) R (m.1 14 4) := by rw [← hA1, rf_i_c, if_pos rfl]
  have pl : A1.2 = m.2 := by rw [← hA1]; rfl
  rw [p1 13 (by decide), p1 14 (by decide), hR, tR, g24, g_t]
  generalize hA2 : rf_i A1 22 R (m.1 14 3) = A2
  have q1 : ∀ z, z ≠ 22 → A2.1 z = A1.1 z := fun z hz => by rw [← hA2, rf_i_c, if_neg hz]
  have q22 : A2.1 22 = pu (A1.1 22) R (m.1 14 3) := by rw [← hA2, rf_i_c, if_pos rfl]
  have ql : A2.2 = m.2 := by rw [← hA2]; exact pl
  rw [q1 13 (by decide), q1 14 (by decide), p1 13 (by decide), p1 14 (by decide), hR, tR, g24, g_t]
  generalize hA3 : rf_i A2 23 R (m.1 14 2) = A3
  have s1 : ∀ z, z ≠ 23 → A3.1 z = A2.1 z := fun z hz => by rw [← hA3, rf_i_c, if_neg hz]
  have s23 : A3.1 23 = pu (A2.1 23) R (m.1 14 2) := by rw [← hA3, rf_i_c, if_pos rfl]
  have sl : A3.2 = m.2 := by rw [← hA3]; exact ql
  rw [s1 13 (by decide), s1 14 (by decide), q1 13 (by decide), q1 14 (by decide), p1 13 (by decide), p1 14 (by decide), hR, h2, e160, hg, g_t]
  have hcc : ∀ z, z ≠ 24 → (rf_ci A3 16 24 0 (Int32.ofNat (160 * R)) (Int32.ofNat L)).1 z = A3.1 z := fun z hz => by unfold rf_ci; funext b; simp only [if_neg hz]
  have hc3 : (rf_ci A3 16 24 0 (Int32.ofNat (160 * R)) (Int32.ofNat L)).1 24 = va_cpy (A3.1 16) (A3.1 24) 0 (160 * R) L := by
    funext b
    unfold rf_ci
    simp only [if_pos, z0, tn_of (show 160 * R < 2147483648 by omega), tn_of (show L < 2147483648 by omega)]
  have hcl : (rf_ci A3 16 24 0 (Int32.ofNat (160 * R)) (Int32.ofNat L)).2 = m.2 := sl
  generalize rf_ci A3 16 24 0 (Int32.ofNat (160 * R)) (Int32.ofNat L) = A4 at *
  rw [hcc 13 (by decide), s1 13 (by decide), q1 13 (by decide), p1 13 (by decide), hR, of_succ]
  generalize hA5 : rf_i A4 13 3 (Int32.ofNat (R + 1)) = A5
  have u1 : ∀ z, z ≠ 13 → A5.1 z = A4.1 z := fun z hz => by rw [← hA5, rf_i_c, if_neg hz]
  have u13 : A5.1 13 = pu (A4.1 13) 3 (Int32.ofNat (R + 1)) := by rw [← hA5, rf_i_c, if_pos rfl]
  have ul : A5.2 = m.2 := by rw [← hA5]; exact hcl
  have e5 : A5.1 13 3 = Int32.ofNat (R + 1) := by rw [u13, pu_at]
  rw [e5, ofm1', g24, g_t, g_t, tR, bv_sm]
  have e6 : (rf_i (rf_i A5 20 R x) 21 R y).1 13 3 = Int32.ofNat (R + 1) := by rw [rf_i_c, if_neg (by decide), rf_i_c, if_neg (by decide)]; exact e5
  rw [e6, ofm1']
  have all : ∀ z, z ≠ 13 → (z < 19 ∨ 24 < z) → A5.1 z = m.1 z := fun z h1 h2 => by rw [u1 z h1, hcc z (by omega), s1 z (by omega), q1 z (by omega), p1 z (by omega)]
  refine ⟨_, rfl, ?_, ?_, ?_, ?_, ?_, ?_, ?_, fun z h1 h2 => ?_, ul⟩
  · rw [rf_i_c, if_neg (by decide), rf_i_c, if_neg (by decide), u1 19 (by decide), hcc 19 (by decide), s1 19 (by decide), q1 19 (by decide), p19]
  · rw [rf_i_c, if_neg (by decide), rf_i_c, if_pos rfl, u1 20 (by decide), hcc 20 (by decide), s1 20 (by decide), q1 20 (by decide), p1 20 (by decide)]
  · rw [rf_i_c, if_pos rfl, rf_i_c, if_neg (by decide), u1 21 (by decide), hcc 21 (by decide), s1 21 (by decide), q1 21 (by decide), p1 21 (by decide)]
  · rw [rf_i_c, if_neg (by decide), rf_i_c, if_neg (by decide), u1 22 (by decide), hcc 22 (by decide), s1 22 (by decide), q22, p1 22 (by decide)]
  · rw [rf_i_c, if_neg (by decide), rf_i_c, if_neg (by decide), u1 23 (by decide), hcc 23 (by decide), s23, q1 23 (by decide), p1 23 (by decide), h2]
  · rw [rf_i_c, if_neg (by decide), rf_i_c, if_neg (by decide), u1 24 (by decide), hc3, s1 16 (by decide), q1 16 (by decide), p1 16 (by decide), s1 24 (by decide), q1 24 (by decide), p1 24 (by decide)]
  · rw [rf_i_c, if_neg (by decide), rf_i_c, if_neg (by decide), u13, hcc 13 (by decide), s1 13 (by decide), q1 13 (by decide), p1 13 (by decide)]
  · rw [rf_i_c, if_neg (by omega), rf_i_c, if_neg (by omega)]
    exact all z h1 h2
/-- copying, place by place -/
theorem cpy_in {f g : Nat → Int32} {d n i : Nat} (h : i < n) : va_cpy f g 0 d n (d + i) = f i := by
  induction n with
  | zero => omega
  | succ n ih =>
    rw [cpy_s]
    by_cases e : i = n
    · rw [e, pu_at]
    · rw [pu_ne (by omega)]
      exact ih (by omega)
theorem cpy_out {f g : Nat → Int32} {d n k : Nat} (h : k < d ∨ d + n ≤ k) : va_cpy f g 0 d n k = g k := by
  induction n with
  | zero => rw [cpy_0]
  | succ n ih =>
    rw [cpy_s, pu_ne (by omega)]
    exact ih (by omega)
end PBRuleB
