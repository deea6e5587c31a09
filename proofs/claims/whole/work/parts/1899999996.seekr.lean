/-! chains: what the reference seeks -/
section PBSeekR
theorem well_r2 {t : Nat} {w : rf_w} {m M : rf_m} (ja : JAng m) (jn : JNet m) (ju : JRule w m) (h1 : mA m M) (h2 : nA w m M) (ht : t < (m.1 206 64).toNatClampNeg) : ∃ G g, g_X14_isWell w M (Int32.ofNat t) = some (wlI (tmF w m t) (leastV m (m.1 206 5)) 3 0, stc (stc M 228 g) 235 G) := by
  have n30 := (net30 jn).1
  obtain ⟨G, g, hG⟩ := least_r (w := w) (m := m) (M := M) ju (mA_ag ju h1)
  rw [h1.2.1] at hG
  refine ⟨G, g, ?_⟩
  unfold g_X14_isWell
  rw [hG, b_sm]
  have z : ∀ x, x ≠ 228 → x ≠ 235 → (stc (stc M 228 g) 235 G).1 x = M.1 x := fun x a b => by rw [stc_ne b, stc_ne a]
  exact wl_r (by omega) (fun i hi => by
    rw [z 243 (by decide) (by decide), z 248 (by decide) (by decide), h2.1 243 (by omega)]
    obtain ⟨q1, q2⟩ := net_t jn ja ht hi
    exact ⟨q1, h2.2.2.2 _ q2⟩)
/-- gathering those that are well -/
def uwF (M M' : rf_m) : Prop := (∀ z, z ≠ 206 → z ≠ 228 → z ≠ 235 → z ≠ 271 → M'.1 z = M.1 z) ∧ (∀ k, k ≠ 104 → M'.1 206 k = M.1 206 k) ∧ M'.2 = M.2
theorem uw_mA {w : rf_w} {m M M' : rf_m} (h1 : mA m M) (h2 : nA w m M) (f : uwF M M') : mA m M' ∧ nA w m M' := by
  refine ⟨mA_x h1 (fun z hz => f.1 z (by omega) (by omega) (by omega) (by omega)) (fun k hk => f.2.1 k (by omega)), fun z hz => by rw [f.1 z (by omega) (by omega) (by omega) (by omega)]; exact h2.1 z hz, by rw [f.2.1 64 (by decide)]; exact h2.2.1, by rw [f.2.1 65 (by decide)]; exact h2.2.2.1, fun a ha => by rw [f.1 248 (by decide) (by decide) (by decide) (by decide)]; exact h2.2.2.2 a ha⟩
def crF (M M' : rf_m) : Prop := (∀ z, z ≠ 206 → z ≠ 226 → z ≠ 227 → z ≠ 228 → z ≠ 235 → z ≠ 248 → (z < 268 ∨ 278 < z) → M'.1 z = M.1 z) ∧ (∀ k, k < 33 ∨ (38 < k ∧ k < 104) ∨ 112 < k → M'.1 206 k = M.1 206 k) ∧ M'.2 = M.2
def trN (M M' : rf_m) : Prop := M'.1 278 = M.1 278 ∧ ∀ k, k = 110 ∨ k = 111 ∨ k = 112 → M'.1 206 k = M.1 206 k
def trY (E : chE) (M' : rf_m) (q : List (Nat × Nat)) : Prop := M'.1 206 110 = Int32.ofNat q.length ∧ rnE E q = some (eGo E, (M'.1 206 111).toInt, (M'.1 206 112).toInt) ∧ ∀ j (h : j < q.length), M'.1 278 j = Int32.ofNat q[j].1
theorem copy184 {w : rf_w} {M : rf_m} {N : Nat} (hN : N ≤ 6) (h5 : M.1 206 105 = Int32.ofNat N) : ∃ G, (∀ j, j < N → G j = M.1 275 j) ∧ g_X14_chainOf_184 w rf_fuel 0 M = some (0, stc M 278 G) := by
  obtain ⟨F, hF, hFb⟩ := fuel_ex
  have key : ∀ n f i G, i + n = N → n < f → (∀ j, j < i → G j = M.1 275 j) → ∃ G', (∀ j, j < N → G' j = M.1 275 j) ∧ g_X14_chainOf_184 w f (Int32.ofNat i) (stc M 278 G) = some (0, stc M 278 G') := by
    intro n
    induction n with
    | zero =>
      intro f i G hi hf hG
      obtain ⟨f, rfl⟩ : ∃ g, f = g + 1 := ⟨f - 1, by omega⟩
      have e : i = N := by omega
      subst e
      refine ⟨G, hG, ?_⟩
      show g_X14_chainOf_184_b w _ _ _ = _
      unfold g_X14_chainOf_184_b
      rw [stc_ne (by decide), h5, if_pos (Int32.le_refl _)]
    | succ n ih =>
      intro f i G hi hf hG
      obtain ⟨f, rfl⟩ : ∃ g, f = g + 1 := ⟨f - 1, by omega⟩
      have g1 : ¬ Int32.ofNat N ≤ Int32.ofNat i := nle (by omega) (by omega)
      show ∃ G', _ ∧ g_X14_chainOf_184_b w _ _ _ = _
      unfold g_X14_chainOf_184_b
      have e5 : (stc M 278 G).1 206 = M.1 206 := stc_ne (by decide)
      have e7 : (stc M 278 G).1 275 = M.1 275 := stc_ne (by decide)
      rw [e5, e7, h5, if_neg g1, gof (by omega) (by decide), g_t, g_t, tn_of (by omega), stc_i2, of_succ]
      refine ih f (i + 1) _ (by omega) (by omega) (fun j hj => ?_)
      by_cases e : j = i
      · rw [e, pu_at]
      · rw [pu_ne e]; exact hG j (by omega)
  obtain ⟨G', k1, k2⟩ := key N F 0 (M.1 278) (by omega) (by omega) (fun j hj => by omega)
  rw [stc_self] at k2
  rw [hF]
  exact ⟨G', k1, k2⟩
theorem seek_r {c : Nat} {w : rf_w} {m M : rf_m} {b one oth lo hi : Int32} (J : JCnt c w m) (jn : JNet m) (jb : JBase m) (hA : mA m M) (hbM : bM m M) (h4 : ∀ z, 243 ≤ z ∧ z ≤ 246 → M.1 z = m.1 z) (h64 : M.1 206 64 = m.1 206 64) (h65 : M.1 206 65 = m.1 206 65) (hb : ib b (m.1 206 55)) (p1 : ib one 30) (p2 : ib oth 30) (hsp : ∀ M, bM m M → g_X14_spanOf w M b 0 = some (lo, M) ∧ g_X14_spanOf w M b 1 = some (hi, M)) (h0 : 0 ≤ lo.toInt) (h1 : lo.toInt ≤ hi.toInt) (h2 : hi.toInt ≤ 5000000) : ∃ M', crF M M' ∧ ((¬ (fl (fun t => wlI (tmF w m t) (leastV m (m.1 206 5)) 3 0 ≠ 0) (m.1 206 64).toNatClampNeg).length ≤ 8 ∧ g_X14_chainOf w M b one oth = some (7, M') ∧ trN M M') ∨ ((fl (fun t => wlI (tmF w m t) (leastV m (m.1 206 5)) 3 0 ≠ 0) (m.1 206 64).toNatClampNeg).length ≤ 8 ∧ ∃ B, srP (envE w m (leastV m (m.1 206 5)) (sd one oth) (m.1 43 b.toNatClampNeg) lo.toInt hi.toInt) [] none B ∧ ((B = none ∧ g_X14_chainOf w M b one oth = some (5, M') ∧ trN M M') ∨ ∃ q, B = some q ∧ g_X14_chainOf w M b one oth = some (0, M') ∧ trY (envE w m (leastV m (m.1 206 5)) (sd one oth) (m.1 43 b.toNatClampNeg) lo.toInt hi.toInt) M' q))) := by
  have ja := J.2.2.2.2.1
  have jm := J.2.2.2.2.2.1
  have ju := J.2.2.2.1
  have n30 := (net30 jn).1
  have hR := of_tn jn.2.1.1
  have hbb : b.toNatClampNeg < (m.1 206 55).toNatClampNeg := tn_lt2 hb.1 hb.2
  obtain ⟨s43, pb1, pb2⟩ := base_sd jb jm hbb
  have h6 : ib b 6 := ⟨hb.1, by have a := hb.2; have d := jb.2.1.2; clear jb jn; grind⟩
  have gm : ∀ (Y : rf_m) (u v : Int32), g_min w Y u v = some (if v < u then v else u, Y) := fun Y u v => by unfold g_min; split <;> rfl
  have gx : ∀ (Y : rf_m) (u v : Int32), g_max w Y u v = some (if u < v then v else u, Y) := fun Y u v => by unfold g_max; split <;> rfl
  have ord : ∀ u v : Int32, ib u 30 → ib v 30 → ib (if v < u then v else u) 30 ∧ ib (if u < v then v else u) 30 ∧ (if v < u then v else u) ≤ (if u < v then v else u) ∧ sd (if v < u then v else u) (if u < v then v else u) = sd u v := fun u v hu hv => by
    by_cases c1 : v < u
    · have c2 : ¬ u < v := fun z => by have := i_lt.mp c1; have := i_lt.mp z; omega
      rw [if_pos c1, if_neg c2]
      exact ⟨hv, hu, Int32.le_of_lt c1, sd_comm hv hu⟩
    · rw [if_neg c1]
      by_cases c2 : u < v
      · rw [if_pos c2]; exact ⟨hu, hv, Int32.le_of_lt c2, rfl⟩
      · rw [if_neg c2]
        have e : u = v := Int32.le_antisymm (Int32.not_lt.mp c1) (Int32.not_lt.mp c2)
        exact ⟨hu, hu, Int32.le_refl _, by rw [e]⟩
  obtain ⟨o1, o2, o3, o4⟩ := ord one oth p1 p2
  obtain ⟨v1, v2, v3, v4⟩ := ord _ _ pb1 pb2
  obtain ⟨F, hF, hFb⟩ := fuel_ex
  obtain ⟨M1, a1, a2, a3⟩ := allMeans_r J hA
  generalize hMs : rf_i M1 206 104 0 = Ms
  have msz : ∀ z, z ≠ 206 → Ms.1 z = M1.1 z := fun z hz => by rw [← hMs, rf_i_c, if_neg hz]
  have ms6 : Ms.1 206 = pu (M1.1 206) 104 0 := by rw [← hMs, rf_i_c, if_pos rfl]
  have msl : Ms.2 = M.2 := by rw [← hMs, rf_i_l, a2.2.2]
  have mAs : mA m Ms := mA_x (meF_mA hA a2) (fun z hz => msz z (by omega)) (fun k hk => by rw [ms6, pu_ne (by omega)])
  have nAs : nA w m Ms := ⟨fun z hz => by rw [msz z (by omega), a2.1 z (by omega) (by omega) (by omega) (by omega) (by omega) (by omega)]; exact h4 z hz, by rw [ms6, pu_ne (by decide), a2.2.1 64 (by omega)]; exact h64, by rw [ms6, pu_ne (by decide), a2.2.1 65 (by omega)]; exact h65, fun a ha => by rw [msz 248 (by decide)]; exact a3 a ha⟩
  have ms64 : Ms.1 206 64 = m.1 206 64 := nAs.2.1
  generalize hL : leastV m (m.1 206 5) = L at *
  generalize hT : (m.1 206 64).toNatClampNeg = T at *
  generalize hW : (fun t => wlI (tmF w m t) L 3 0 ≠ 0) = W
  have eW : ∀ t, W t ↔ wlI (tmF w m t) L 3 0 ≠ 0 := fun t => by rw [← hW]
  -- gathering
  have key : ∀ n f t (Y : rf_m), t + n = T → n < f → uwF Ms Y → Y.1 206 104 = Int32.ofNat (fl W t).length → (∀ u (h : u < (fl W t).length), Y.1 271 u = Int32.ofNat (fl W t)[u]) → ∃ Y', g_X14_chainOf_12 w f b one oth (Int32.ofNat t) Y = g_X14_chainOf_12 w 1 b one oth (Int32.ofNat T) Y' ∧ uwF Ms Y' ∧ Y'.1 206 104 = Int32.ofNat (fl W T).length ∧ ∀ u (h : u < (fl W T).length), Y'.1 271 u = Int32.ofNat (fl W T)[u] := by
    intro n
    induction n with
    | zero =>
      intro f t Y ht hf fY y1 y2
      obtain ⟨f, rfl⟩ : ∃ g, f = g + 1 := ⟨f - 1, by omega⟩
      have e : t = T := by omega
      subst e
      refine ⟨Y, ?_, fY, y1, y2⟩
      have e64 : Y.1 206 64 = m.1 206 64 := by rw [fY.2.1 64 (by decide)]; exact ms64
      have le : Y.1 206 64 ≤ Int32.ofNat t := by rw [e64, hR]; exact Int32.le_refl _
      show g_X14_chainOf_12_b w _ _ _ _ _ Y = g_X14_chainOf_12_b w _ _ _ _ _ Y
      unfold g_X14_chainOf_12_b
      rw [if_pos le, if_pos le]
    | succ n ih =>
      intro f t Y ht hf fY y1 y2
      obtain ⟨f, rfl⟩ : ∃ g, f = g + 1 := ⟨f - 1, by omega⟩
      have e64 : Y.1 206 64 = m.1 206 64 := by rw [fY.2.1 64 (by decide)]; exact ms64
      have nl : ¬ Y.1 206 64 ≤ Int32.ofNat t := by rw [e64, ← hR]; exact nle (by omega) (by omega)
      obtain ⟨q1, q2⟩ := uw_mA mAs nAs fY
      have htT : t < (m.1 206 64).toNatClampNeg := by omega
      obtain ⟨G, g, wl⟩ := well_r2 ja jn ju q1 q2 htT
      rw [hL] at wl
      have st : g_X14_chainOf_12 w (f + 1) b one oth (Int32.ofNat t) Y = g_X14_chainOf_12_b w (g_X14_chainOf_12 w f) b one oth (Int32.ofNat t) Y := rfl
      have st2 : g_X14_chainOf_12_b w (g_X14_chainOf_12 w f) b one oth (Int32.ofNat t) Y = rf_b (g_X14_isWell w Y (Int32.ofNat t)) fun y12 m12 => (if y12 = 0 then g_X14_chainOf_54 w (g_X14_chainOf_12 w f) b one oth (Int32.ofNat t) m12 else rf_g (rf_in (m12.1 206 104) 30) (g_X14_chainOf_54 w (g_X14_chainOf_12 w f) b one oth (Int32.ofNat t) (rf_i (rf_i m12 271 (Int32.toNatClampNeg (m12.1 206 104)) (Int32.ofNat t)) 206 104 (((rf_i m12 271 (Int32.toNatClampNeg (m12.1 206 104)) (Int32.ofNat t)).1 206 104) + 1)))) := if_neg nl
      rw [st, st2, wl, b_sm]
      unfold g_X14_chainOf_54
      generalize hY2 : stc (stc Y 228 g) 235 G = Y2
      have y2z : ∀ z, z ≠ 228 → z ≠ 235 → Y2.1 z = Y.1 z := fun z p q => by rw [← hY2, stc_ne q, stc_ne p]
      have y2l : Y2.2 = Y.2 := by rw [← hY2]; rfl
      rw [of_succ]
      by_cases c1 : W t
      · have ft := fl_t c1
        have lt : (fl W t).length ≤ t := fl_len t
        have e4 : Y2.1 206 104 = Int32.ofNat (fl W t).length := by rw [y2z 206 (by decide) (by decide)]; exact y1
        have e4' : (rf_i Y2 271 (fl W t).length (Int32.ofNat t)).1 206 104 = Int32.ofNat (fl W t).length := by rw [rf_i_c, if_neg (by decide)]; exact e4
        rw [if_neg ((eW t).mp c1), e4, gof (by omega) (by decide), g_t, tn_of (by omega), e4', of_succ]
        generalize hY3 : rf_i (rf_i Y2 271 (fl W t).length (Int32.ofNat t)) 206 104 (Int32.ofNat ((fl W t).length + 1)) = Y3
        have w1 : Y3.1 206 = pu (Y2.1 206) 104 (Int32.ofNat ((fl W t).length + 1)) := by rw [← hY3, rf_i_c, if_pos rfl, rf_i_c, if_neg (by decide)]
        have w2 : Y3.1 271 = pu (Y2.1 271) (fl W t).length (Int32.ofNat t) := by rw [← hY3, rf_i_c, if_neg (by decide), rf_i_c, if_pos rfl]
        have w3 : ∀ z, z ≠ 206 → z ≠ 271 → Y3.1 z = Y2.1 z := fun z p q => by rw [← hY3, rf_i_c, if_neg p, rf_i_c, if_neg q]
        refine ih f (t + 1) Y3 (by omega) (by omega) ⟨fun z z1 z2 z3 z4 => by rw [w3 z z1 z4, y2z z z2 z3]; exact fY.1 z z1 z2 z3 z4, fun k hk => by rw [w1, pu_ne hk, y2z 206 (by decide) (by decide)]; exact fY.2.1 k hk, by rw [← hY3, rf_i_l, rf_i_l, y2l]; exact fY.2.2⟩ (by rw [w1, pu_at, ft, List.length_append]; rfl) (fun u hu => ?_)
        rw [w2]
        by_cases e : u = (fl W t).length
        · subst e
          rw [pu_at]
          congr 1
          simp [ft]
        · rw [pu_ne e, y2z 271 (by decide) (by decide)]
          have hu' : u < (fl W t).length := by rw [ft, List.length_append] at hu; have hu : u < (fl W t).length + 1 := hu; omega
          have : (fl W (t + 1))[u] = (fl W t)[u] := by simp only [ft]; exact List.getElem_append_left hu'
          rw [this]
          exact y2 u hu'
      · have ft := fl_f c1
        rw [if_pos (Classical.byContradiction fun z => c1 ((eW t).mpr z))]
        refine ih f (t + 1) Y2 (by omega) (by omega) ⟨fun z z1 z2 z3 z4 => by rw [y2z z z2 z3]; exact fY.1 z z1 z2 z3 z4, fun k hk => by rw [y2z 206 (by decide) (by decide)]; exact fY.2.1 k hk, by rw [y2l]; exact fY.2.2⟩ (by rw [y2z 206 (by decide) (by decide), ft]; exact y1) (fun u hu => ?_)
        rw [y2z 271 (by decide) (by decide)]
        have hu' : u < (fl W t).length := by rw [ft] at hu; exact hu
        have : (fl W (t + 1))[u] = (fl W t)[u] := by simp only [ft]
        rw [this]
        exact y2 u hu'
  obtain ⟨Y, k1, k2, k3, k4⟩ := key T F 0 Ms (by omega) (by omega) ⟨fun _ _ _ _ _ => rfl, fun _ _ => rfl, rfl⟩ (by rw [ms6, pu_at]; rfl) (fun u hu => absurd hu (Nat.not_lt_zero u))
  have k1 : g_X14_chainOf_12 w F b one oth 0 Ms = _ := k1
  have chE : g_X14_chainOf w M b one oth = g_X14_chainOf_12_b w (g_X14_chainOf_12 w 0) b one oth (Int32.ofNat T) Y := by
    unfold g_X14_chainOf
    rw [a1, bv_sm, hMs, hF, k1]
    rfl
  have le64 : Y.1 206 64 ≤ Int32.ofNat T := by rw [k2.2.1 64 (by decide), ms64, hR]; exact Int32.le_refl _
  unfold g_X14_chainOf_12_b at chE
  rw [if_pos le64, k3] at chE
  -- what Y is against M
  have yz : ∀ z, z ≠ 206 → z ≠ 226 → z ≠ 227 → z ≠ 228 → z ≠ 235 → z ≠ 248 → z ≠ 271 → Y.1 z = M.1 z := fun z z1 z2 z3 z4 z5 z6 z7 => by rw [k2.1 z z1 z4 z5 z7, msz z z1, a2.1 z z1 z2 z3 z4 z5 z6]
  have yk : ∀ k, k < 33 ∨ 38 < k → k ≠ 104 → Y.1 206 k = M.1 206 k := fun k hk h4' => by rw [k2.2.1 k h4', ms6, pu_ne h4', a2.2.1 k hk]
  have yl : Y.2 = M.2 := by rw [k2.2.2, msl]
  have lT : (fl W T).length ≤ T := fl_len T
  by_cases c8 : (fl W T).length ≤ 8
  · have c8' : Int32.ofNat (fl W T).length ≤ 8 := (of_le (b := 8) (by omega) (by omega)).mpr c8
    rw [if_pos c8'] at chE
    obtain ⟨q1, q2⟩ := uw_mA mAs nAs k2
    obtain ⟨M2, t1, t2, t3⟩ := allSines_r J q1
    rw [t1, bv_sm, gm, b_sm, gx, b_sm] at chE
    generalize hg1 : (if oth < one then oth else one) = g1 at *
    generalize hg2 : (if one < oth then oth else one) = g2 at *
    generalize hM3 : rf_i (rf_i (rf_i M2 206 105 (-1)) 206 108 g1) 206 109 g2 = M3 at chE
    have m3z : ∀ z, z ≠ 206 → M3.1 z = M2.1 z := fun z hz => by rw [← hM3, rf_i_c, if_neg hz, rf_i_c, if_neg hz, rf_i_c, if_neg hz]
    have m36 : M3.1 206 = pu (pu (pu (M2.1 206) 105 (-1)) 108 g1) 109 g2 := by rw [← hM3, rf_i_c, if_pos rfl, rf_i_c, if_pos rfl, rf_i_c, if_pos rfl]
    have m3l : M3.2 = M.2 := by rw [← hM3, rf_i_l, rf_i_l, rf_i_l, t2.2.2, yl]
    have fz : ∀ z, z ≠ 206 → z ≠ 226 → z ≠ 227 → z ≠ 228 → z ≠ 235 → z ≠ 248 → z ≠ 268 → z ≠ 269 → z ≠ 270 → z ≠ 271 → M3.1 z = M.1 z := fun z z1 z2 z3 z4 z5 z6 z7 z8 z9 z10 => by rw [m3z z z1, t2.1 z z1 z2 z3 z4 z5 z7 z8 z9, yz z z1 z2 z3 z4 z5 z6 z10]
    have fk : ∀ k, k < 33 ∨ 38 < k → k ≠ 104 → k ≠ 105 → k ≠ 108 → k ≠ 109 → M3.1 206 k = M.1 206 k := fun k hk k1' k2' k3' k4' => by rw [m36, pu_ne k4', pu_ne k3', pu_ne k2', t2.2.1 k hk, yk k hk k1']
    have e36 : M3.1 236 = m.1 236 := by rw [fz 236 (by decide) (by decide) (by decide) (by decide) (by decide) (by decide) (by decide) (by decide) (by decide) (by decide)]; exact hbM.2.2.1
    have e37 : M3.1 237 = m.1 237 := by rw [fz 237 (by decide) (by decide) (by decide) (by decide) (by decide) (by decide) (by decide) (by decide) (by decide) (by decide)]; exact hbM.2.2.2.1
    have bM3 : bM m M3 := by
      unfold bM at hbM ⊢
      rw [fk 55 (by omega) (by decide) (by decide) (by decide) (by decide), fk 56 (by omega) (by decide) (by decide) (by decide) (by decide), fz 236 (by decide) (by decide) (by decide) (by decide) (by decide) (by decide) (by decide) (by decide) (by decide) (by decide), fz 237 (by decide) (by decide) (by decide) (by decide) (by decide) (by decide) (by decide) (by decide) (by decide) (by decide), fz 239 (by decide) (by decide) (by decide) (by decide) (by decide) (by decide) (by decide) (by decide) (by decide) (by decide), fz 240 (by decide) (by decide) (by decide) (by decide) (by decide) (by decide) (by decide) (by decide) (by decide) (by decide), fz 241 (by decide) (by decide) (by decide) (by decide) (by decide) (by decide) (by decide) (by decide) (by decide) (by decide), fz 242 (by decide) (by decide) (by decide) (by decide) (by decide) (by decide) (by decide) (by decide) (by decide) (by decide)]
      exact hbM
    obtain ⟨u1, u2⟩ := hsp M3 bM3
    rw [gin (N := 6) h6.1 h6.2 (by decide), g_t, g_t, e36, e37, gm, b_sm, g_t, g_t, e36, e37, gx, b_sm, u1, b_sm, u2, b_sm] at chE
    generalize hx1 : (if m.1 237 b.toNatClampNeg < m.1 236 b.toNatClampNeg then m.1 237 b.toNatClampNeg else m.1 236 b.toNatClampNeg) = x1 at *
    generalize hx2 : (if m.1 236 b.toNatClampNeg < m.1 237 b.toNatClampNeg then m.1 237 b.toNatClampNeg else m.1 236 b.toNatClampNeg) = x2 at *
    have hU : ∀ t, t ∈ fl W T ↔ (t < (m.1 206 64).toNatClampNeg ∧ wlI (tmF w m t) L 3 0 ≠ 0) := fun t => by rw [fl_mem, eW, hT]
    have hd := dfs_r (w := w) (m := m) (L := L) (g1 := g1) (g2 := g2) (s0 := m.1 43 b.toNatClampNeg) (lo0 := lo.toInt) (hi0 := hi.toInt) (U := fl W T) J jn hU c8 fl_nd o1 o2 o3
    rw [o4] at hd
    generalize hE : envE w m L (sd one oth) (m.1 43 b.toNatClampNeg) lo.toInt hi.toInt = E at *
    have est : eSt E = (m.1 43 b.toNatClampNeg, lo.toInt, hi.toInt) := by rw [← hE, env_st]
    have s12 : m.1 43 b.toNatClampNeg = sd x1 x2 := by rw [v4]; exact s43
    have stR3 : stR w m M3 (fl W T) g1 g2 := by
      refine ⟨?_, ?_, ?_, fun a ha => ?_, ?_, fun u hu => ?_, ?_, ?_⟩
      · rw [fz 243 (by decide) (by decide) (by decide) (by decide) (by decide) (by decide) (by decide) (by decide) (by decide) (by decide)]; exact h4 243 (by omega)
      · rw [fz 218 (by decide) (by decide) (by decide) (by decide) (by decide) (by decide) (by decide) (by decide) (by decide) (by decide)]; exact hA.1 218 (by omega)
      · rw [fz 219 (by decide) (by decide) (by decide) (by decide) (by decide) (by decide) (by decide) (by decide) (by decide) (by decide)]; exact hA.1 219 (by omega)
      · have := t3 a ha
        unfold siP at this ⊢
        rw [m3z 268 (by decide), m3z 269 (by decide), m3z 270 (by decide)]
        exact this
      · rw [m36, pu_ne (by decide), pu_ne (by decide), pu_ne (by decide), t2.2.1 104 (by omega)]; exact k3
      · rw [m3z 271 (by decide), t2.1 271 (by decide) (by decide) (by decide) (by decide) (by decide) (by decide) (by decide) (by decide)]; exact k4 u hu
      · rw [m36, pu_ne (by decide), pu_at]
      · rw [m36, pu_at]
    obtain ⟨M4, B, d1, d2, d3, d4, d5⟩ := hd 16 [] M3 none 0 x1 x2 lo hi (by decide) ⟨by decide, fun x hx => by cases hx⟩ (by simp) (fun x hx => by cases hx) v1 v2 v3 (by show some (eSt E) = _; rw [est, s12]) ⟨h0, h1, by show hi.toInt ≤ 1000000000; omega⟩ stR3 (fun u hu => by rw [bt_0]; simp) (fun j hj => absurd hj (Nat.not_lt_zero j)) (by show M3.1 206 105 = -1; rw [m36, pu_ne (by decide), pu_ne (by decide), pu_at]) (fun q hq => by cases hq)
    have d1 : g_X14_chains w 16 M3 0 0 x1 x2 lo hi = some M4 := d1
    rw [d1, bv_sm] at chE
    have gz : ∀ z, z ≠ 206 → z ≠ 226 → z ≠ 227 → z ≠ 228 → z ≠ 235 → z ≠ 248 → (z < 268 ∨ 277 < z) → M4.1 z = M.1 z := fun z z1 z2 z3 z4 z5 z6 z7 => by rw [d2.1 z z1 (by omega), fz z z1 z2 z3 z4 z5 z6 (by omega) (by omega) (by omega) (by omega)]
    have gk : ∀ k, k < 33 ∨ 38 < k → k ≠ 104 → k ≠ 105 → k ≠ 106 → k ≠ 107 → k ≠ 108 → k ≠ 109 → M4.1 206 k = M.1 206 k := fun k hk p1' p2' p3' p4' p5' p6' => by rw [d2.2.1 k (by omega), fk k hk p1' p2' p5' p6']
    have gl : M4.2 = M.2 := by rw [d2.2.2, m3l]
    cases B with
    | none =>
      have n1 : M4.1 206 105 = -1 := d4
      rw [if_pos n1] at chE
      exact ⟨M4, ⟨fun z z1 z2 z3 z4 z5 z6 z7 => gz z z1 z2 z3 z4 z5 z6 (by omega), fun k hk => gk k (by omega) (by omega) (by omega) (by omega) (by omega) (by omega) (by omega), gl⟩, Or.inr ⟨c8, none, d5, Or.inl ⟨rfl, chE, gz 278 (by decide) (by decide) (by decide) (by decide) (by decide) (by decide) (by omega), fun k hk => gk k (by omega) (by omega) (by omega) (by omega) (by omega) (by omega) (by omega)⟩⟩⟩
    | some q =>
      obtain ⟨b1, b2, b3, b4, b5⟩ := d4
      have lq : q.length ≤ 6 := b3.1
      have n1 : ¬ M4.1 206 105 = -1 := by
        rw [b1]
        intro z
        have := i_eq.mp z
        rw [ofI (by omega)] at this
        have k : (-1 : Int32).toInt = -1 := by decide
        omega
      rw [if_neg n1, b1] at chE
      have e6 : (rf_i M4 206 110 (Int32.ofNat q.length)).1 206 106 = M4.1 206 106 := by rw [rf_i_c, if_pos rfl, pu_ne (by decide)]
      have e7 : (rf_i (rf_i M4 206 110 (Int32.ofNat q.length)) 206 111 (M4.1 206 106)).1 206 107 = M4.1 206 107 := by rw [rf_i_c, if_pos rfl, pu_ne (by decide), rf_i_c, if_pos rfl, pu_ne (by decide)]
      rw [e6, e7] at chE
      generalize hM5 : rf_i (rf_i (rf_i M4 206 110 (Int32.ofNat q.length)) 206 111 (M4.1 206 106)) 206 112 (M4.1 206 107) = M5 at chE
      have m5z : ∀ z, z ≠ 206 → M5.1 z = M4.1 z := fun z hz => by rw [← hM5, rf_i_c, if_neg hz, rf_i_c, if_neg hz, rf_i_c, if_neg hz]
      have m56 : M5.1 206 = pu (pu (pu (M4.1 206) 110 (Int32.ofNat q.length)) 111 (M4.1 206 106)) 112 (M4.1 206 107) := by rw [← hM5, rf_i_c, if_pos rfl, rf_i_c, if_pos rfl, rf_i_c, if_pos rfl]
      have m5l : M5.2 = M.2 := by rw [← hM5, rf_i_l, rf_i_l, rf_i_l, gl]
      obtain ⟨G, c1, c2⟩ := copy184 (w := w) (M := M5) (N := q.length) lq (by rw [m56, pu_ne (by decide), pu_ne (by decide), pu_ne (by decide)]; exact b1)
      rw [c2] at chE
      refine ⟨stc M5 278 G, ⟨fun z z1 z2 z3 z4 z5 z6 z7 => ?_, fun k hk => ?_, m5l⟩, Or.inr ⟨c8, some q, d5, Or.inr ⟨q, rfl, chE, ?_, ?_, fun j hj => ?_⟩⟩⟩
      · rw [stc_ne (by omega), m5z z z1]; exact gz z z1 z2 z3 z4 z5 z6 (by omega)
      · rw [stc_ne (by decide), m56, pu_ne (by omega), pu_ne (by omega), pu_ne (by omega)]; exact gk k (by omega) (by omega) (by omega) (by omega) (by omega) (by omega) (by omega)
      · rw [stc_ne (by decide), m56, pu_ne (by decide), pu_ne (by decide), pu_at]
      · rw [stc_ne (by decide), m56, pu_ne (by decide), pu_at, pu_at]; exact b2
      · rw [stc_at, c1 j hj, m5z 275 (by decide)]; exact (b4 j hj).1
  · have c8' : ¬ Int32.ofNat (fl W T).length ≤ 8 := fun z => c8 ((of_le (b := 8) (by omega) (by omega)).mp z)
    rw [if_neg c8'] at chE
    exact ⟨Y, ⟨fun z z1 z2 z3 z4 z5 z6 z7 => yz z z1 z2 z3 z4 z5 z6 (by omega), fun k hk => yk k (by omega) (by omega), yl⟩, Or.inl ⟨c8, chE, yz 278 (by decide) (by decide) (by decide) (by decide) (by decide) (by decide) (by decide), fun k hk => yk k (by omega) (by omega)⟩⟩
end PBSeekR
