/-! force -/
section PBForce
/-- the rules' objects are different ones -/
def JInj (w : rf_w) (m : rf_m) : Prop := ∀ r r' c, r < (m.1 206 39).toNatClampNeg → r' < (m.1 206 39).toNatClampNeg → w.2.2 (r + 2) = some c → w.2.2 (r' + 2) = some c → r = r'
theorem isO_al {w : rf_w} {c k : Nat} (h : rf_isO w c k = true) : rf_al w c = none := by
  unfold rf_isO at h
  unfold rf_al
  rw [of_decide_eq_true h]
theorem isO_A {w : rf_w} {c k q n : Nat} {t : FieldType} (h : rf_isO w c k = true) (h2 : rf_isA w q t n = true) : q ≠ c := by
  unfold rf_isO at h
  unfold rf_isA at h2
  intro e
  rw [e, of_decide_eq_true h] at h2
  exact absurd (of_decide_eq_true h2) (by simp)
/-- what counting tells rests on this alone -/
def eqS (w : rf_w) (m m' : rf_m) : Prop := (∀ c, c = 217 ∨ (220 ≤ c ∧ c ≤ 224) → m'.1 c = m.1 c) ∧ m'.1 206 17 = m.1 206 17 ∧ m'.1 206 18 = m.1 206 18 ∧ m'.1 ((w.2.2 1).getD 0) = m.1 ((w.2.2 1).getD 0) ∧ ∀ N d, stkV m' N d = stkV m N d
theorem S_rdl {w : rf_w} {m m' : rf_m} (h : eqS w m m') (a : Nat) : rdl m' a = rdl m a := by unfold rdl; rw [h.1 220 (by omega), h.2.1]
theorem S_ok {w : rf_w} {m m' : rf_m} (h : eqS w m m') (d : Int32) : okP m' d = okP m d := by funext r; unfold okP; rw [h.1 221 (by omega), h.1 224 (by omega)]
theorem S_srt {w : rf_w} {m m' : rf_m} (h : eqS w m m') (d : Int32) (l : List Nat) : srt m' d l = srt m d l := by
  have : srS m' d = srS m d := by funext s r; unfold srS; rw [S_ok h, h.1 221 (by omega)]
  unfold srt; rw [this]
theorem S_mid {w : rf_w} {m m' : rf_m} (h : eqS w m m') (d : Int32) (a : Nat) : midV m' d a = midV m d a := by unfold midV; rw [S_rdl h, S_srt h]
theorem S_nm {w : rf_w} {m m' : rf_m} (h : eqS w m m') (d : Int32) (a r : Nat) : nmV m' d a r = nmV m d a r := by
  funext i
  unfold nmV
  rw [S_mid h, S_rdl h, S_srt h, h.1 221 (by omega), h.1 222 (by omega), h.1 223 (by omega), h.1 217 (by omega)]
theorem S_sk {w : rf_w} {m m' : rf_m} (h : eqS w m m') (d : Int32) (a r : Nat) : skV m' d a r = skV m d a r := by
  unfold skV
  rw [S_nm h, h.1 224 (by omega), h.2.2.2.2]
theorem S_sv {w : rf_w} {m m' : rf_m} (h : eqS w m m') (r : Nat) (d : Int32) : svV w m' r d = svV w m r d := by
  unfold svV lgR lgD lgI
  rw [h.2.2.2.1, h.2.2.1]
theorem S_kp {w : rf_w} {m m' : rf_m} (h : eqS w m m') (d : Int32) (a r : Nat) : keptP w m' d a r = keptP w m d a r := by unfold keptP; rw [S_ok h, S_sv h, S_sk h]
theorem S_kpt {w : rf_w} {m m' : rf_m} (h : eqS w m m') (d : Int32) (a : Nat) : kpt w m' d a = kpt w m d a := by
  have : kpS w m' d a = kpS w m d a := by funext s r; unfold kpS; rw [S_kp h]
  unfold kpt kpl; rw [S_rdl h, this]
theorem S_tal {w : rf_w} {m m' : rf_m} (h : eqS w m m') (x : rf_m) (d : Int32) (a : Nat) : tal w m' x d a = tal w m x d a := by
  unfold tal meanV sprV loV hiV smL loL hiL
  rw [S_kpt h, S_rdl h, S_srt h, S_mid h, h.1 221 (by omega)]
theorem S_f4 {w : rf_w} {m m' : rf_m} (h : eqS w m m') (x : rf_m) (d : Int32) (a r : Nat) : fact4 w m' x d a r = fact4 w m x d a r := by
  unfold fact4 strV offV
  rw [S_sv h, S_sk h, S_kp h, S_ok h, S_mid h, h.1 221 (by omega)]
/-- rule r, object c, is in force from x to y -/
def forM (m M : rf_m) (r c : Nat) (x y : Int32) : Prop := (∀ z, z ≠ 0 → z ≠ 20 → z ≠ 21 → z ≠ 26 → z ≠ 40 → z ≠ 206 → z ≠ c → M.1 z = m.1 z) ∧ M.1 20 = pu (m.1 20) r x ∧ M.1 21 = pu (m.1 21) r y ∧ M.1 c = pu (pu (m.1 c) 1 x) 2 y ∧ (∀ k, k ≠ 19 → M.1 26 k = m.1 26 k) ∧ ∀ k, k ≠ 0 → k ≠ 1 → k ≠ 2 → M.1 206 k = m.1 206 k
theorem force_cnt {cc r c : Nat} {w : rf_w} {m M : rf_m} {x y : Int32} (J : JCnt cc w m) (ji : JInj w m) (hr : r < (m.1 206 39).toNatClampNeg) (hc : w.2.2 (r + 2) = some c) (h : forM m M r c x y) : JCnt cc w M ∧ ∃ l, w.2.2 1 = some l ∧ l ≠ c ∧ (c = 230 ∨ 306 ≤ c) ∧ (l = 225 ∨ 306 ≤ l) := by
  obtain ⟨h0, h20, h21, hC, h26, h206⟩ := h
  obtain ⟨hcc, j, js, ju, ja, jm, jd⟩ := J
  obtain ⟨c1, c2, c3⟩ := ju
  obtain ⟨c', hk⟩ := c3 r hr
  have : c' = c := by have := hk.1; rw [hc] at this; exact (Option.some.inj this).symm
  subst this
  have hob := hk.2.1
  have hc6 := hob.2.2.2.2.2
  obtain ⟨l, len, j1, j2, j3, j4, js⟩ := js
  have hlc : l ≠ c' := by intro e; rw [e, isO_al hob.1] at j2; cases j2
  have g : ∀ z, z ≠ 0 → z ≠ 20 → z ≠ 21 → z ≠ 26 → z ≠ 40 → z ≠ 206 → z ≠ 230 → z < 306 → M.1 z = m.1 z := fun z q1 q2 q3 q4 q5 q6 q7 q8 => h0 z q1 q2 q3 q4 q5 q6 (by omega)
  refine ⟨⟨hcc, ?_, ⟨l, len, j1, j2, j3, j4, ?_⟩, ⟨?_, ?_, fun r' hr' => ?_⟩, ?_, ?_, ?_⟩, l, j1, hlc, hc6, j3⟩
  · unfold JRead rdl at *
    rw [h26 7 (by decide), h206 17 (by decide) (by decide) (by decide), h206 16 (by decide) (by decide) (by decide), g 220 (by decide) (by decide) (by decide) (by decide) (by decide) (by decide) (by decide) (by decide), g 221 (by decide) (by decide) (by decide) (by decide) (by decide) (by decide) (by decide) (by decide), g 222 (by decide) (by decide) (by decide) (by decide) (by decide) (by decide) (by decide) (by decide), g 223 (by decide) (by decide) (by decide) (by decide) (by decide) (by decide) (by decide) (by decide), g 224 (by decide) (by decide) (by decide) (by decide) (by decide) (by decide) (by decide) (by decide), g 32 (by decide) (by decide) (by decide) (by decide) (by decide) (by decide) (by decide) (by decide), g 33 (by decide) (by decide) (by decide) (by decide) (by decide) (by decide) (by decide) (by decide), g 34 (by decide) (by decide) (by decide) (by decide) (by decide) (by decide) (by decide) (by decide)]
    exact j
  · have el : M.1 l = m.1 l := h0 l (by omega) (by omega) (by omega) (by omega) (by omega) (by omega) hlc
    have r1 : lgR M l = lgR m l := by unfold lgR; rw [el]
    have r2 : lgD M l = lgD m l := by unfold lgD; rw [el]
    have r3 : lgI M l = lgI m l := by unfold lgI; rw [el]
    rw [h26 17 (by decide), h206 18 (by decide) (by decide) (by decide), h206 17 (by decide) (by decide) (by decide), h206 5 (by decide) (by decide) (by decide), g 36 (by decide) (by decide) (by decide) (by decide) (by decide) (by decide) (by decide) (by decide), g 37 (by decide) (by decide) (by decide) (by decide) (by decide) (by decide) (by decide) (by decide), g 38 (by decide) (by decide) (by decide) (by decide) (by decide) (by decide) (by decide) (by decide), g 39 (by decide) (by decide) (by decide) (by decide) (by decide) (by decide) (by decide) (by decide), g 216 (by decide) (by decide) (by decide) (by decide) (by decide) (by decide) (by decide) (by decide), r1, r2, r3]
    exact js
  · rw [g 13 (by decide) (by decide) (by decide) (by decide) (by decide) (by decide) (by decide) (by decide), h206 39 (by decide) (by decide) (by decide)]; exact c1
  · rw [h206 39 (by decide) (by decide) (by decide)]; exact c2
  · rw [h206 39 (by decide) (by decide) (by decide)] at hr'
    obtain ⟨d, q1, q2, kk⟩ := c3 r' hr'
    have d6 := q2.2.2.2.2.2
    have n1 : d + 1 ≠ c' := isO_A hob.1 q2.2.2.1
    have n2 : d + 2 ≠ c' := isO_A hob.1 q2.2.2.2.2.1
    refine ⟨d, q1, q2, ?_⟩
    rw [g 19 (by decide) (by decide) (by decide) (by decide) (by decide) (by decide) (by decide) (by decide), g 22 (by decide) (by decide) (by decide) (by decide) (by decide) (by decide) (by decide) (by decide), g 23 (by decide) (by decide) (by decide) (by decide) (by decide) (by decide) (by decide) (by decide), g 24 (by decide) (by decide) (by decide) (by decide) (by decide) (by decide) (by decide) (by decide), h20, h21, h0 (d + 1) (by omega) (by omega) (by omega) (by omega) (by omega) (by omega) n1, h0 (d + 2) (by omega) (by omega) (by omega) (by omega) (by omega) (by omega) n2]
    obtain ⟨k0, k1, k2, k3, kk⟩ := kk
    by_cases e : r' = r
    · subst e
      have : d = c' := by rw [hc] at q1; exact (Option.some.inj q1).symm
      subst this
      have p0 : M.1 d 0 = m.1 d 0 := by rw [hC]; rfl
      have p1 : M.1 d 1 = x := by rw [hC]; rfl
      have p2 : M.1 d 2 = y := by rw [hC]; rfl
      have p3 : M.1 d 3 = m.1 d 3 := by rw [hC]; rfl
      have p4 : M.1 d 4 = m.1 d 4 := by rw [hC]; rfl
      have s1 : pu (m.1 20) r' x r' = x := by unfold pu; rw [if_pos rfl]
      have s2 : pu (m.1 21) r' y r' = y := by unfold pu; rw [if_pos rfl]
      rw [p0, p1, p2, p3, p4, s1, s2]
      exact ⟨k0, k1, rfl, rfl, kk⟩
    · have nd : d ≠ c' := fun q => e (ji r' r c' hr' hr (by rw [← q]; exact q1) hc)
      rw [h0 d (by omega) (by omega) (by omega) (by omega) (by omega) (by omega) nd, pu_ne e, pu_ne e]
      exact ⟨k0, k1, k2, k3, kk⟩
  · unfold JAng at *
    rw [h26 6 (by decide), h206 16 (by decide) (by decide) (by decide), h206 4 (by decide) (by decide) (by decide), g 28 (by decide) (by decide) (by decide) (by decide) (by decide) (by decide) (by decide) (by decide), g 29 (by decide) (by decide) (by decide) (by decide) (by decide) (by decide) (by decide) (by decide), g 30 (by decide) (by decide) (by decide) (by decide) (by decide) (by decide) (by decide) (by decide), g 217 (by decide) (by decide) (by decide) (by decide) (by decide) (by decide) (by decide) (by decide), g 218 (by decide) (by decide) (by decide) (by decide) (by decide) (by decide) (by decide) (by decide), g 219 (by decide) (by decide) (by decide) (by decide) (by decide) (by decide) (by decide) (by decide)]
    exact ja
  · unfold JMark at *
    rw [g 1 (by decide) (by decide) (by decide) (by decide) (by decide) (by decide) (by decide) (by decide), h206 4 (by decide) (by decide) (by decide), g 4 (by decide) (by decide) (by decide) (by decide) (by decide) (by decide) (by decide) (by decide), g 5 (by decide) (by decide) (by decide) (by decide) (by decide) (by decide) (by decide) (by decide), g 209 (by decide) (by decide) (by decide) (by decide) (by decide) (by decide) (by decide) (by decide), g 214 (by decide) (by decide) (by decide) (by decide) (by decide) (by decide) (by decide) (by decide)]
    exact jm
  · unfold JDay at *
    rw [g 224 (by decide) (by decide) (by decide) (by decide) (by decide) (by decide) (by decide) (by decide), h206 5 (by decide) (by decide) (by decide)]
    exact jd
theorem force_cache {cc r c : Nat} {w : rf_w} {m M : rf_m} {x y : Int32} (J : JCnt cc w m) (jc : JCache w m) (ji : JInj w m) (hr : r < (m.1 206 39).toNatClampNeg) (hc : w.2.2 (r + 2) = some c) (h : forM m M r c x y) (h1 : m.1 19 r ≠ 1) (h40 : M.1 40 = m.1 40) (h19 : M.1 26 19 = m.1 26 19) : JCache w M := by
  obtain ⟨_, l, l1, l2, l3, l4⟩ := force_cnt J ji hr hc h
  obtain ⟨h0, h20, h21, hC, h26, h206⟩ := h
  have g : ∀ z, z ≠ 0 → z ≠ 20 → z ≠ 21 → z ≠ 26 → z ≠ 40 → z ≠ 206 → z ≠ 230 → z < 306 → M.1 z = m.1 z := fun z q1 q2 q3 q4 q5 q6 q7 q8 => h0 z q1 q2 q3 q4 q5 q6 (by omega)
  have hS : eqS w m M := by
    refine ⟨fun z hz => g z (by omega) (by omega) (by omega) (by omega) (by omega) (by omega) (by omega) (by omega), h206 17 (by decide) (by decide) (by decide), h206 18 (by decide) (by decide) (by decide), ?_, fun N d => ?_⟩
    · have el : (w.2.2 1).getD 0 = l := by rw [l1]; rfl
      rw [el]
      exact h0 l (by omega) (by omega) (by omega) (by omega) (by omega) (by omega) l2
    · have hd : (fun r => dueP M r 1 d ∧ tstP M N r) = (fun r => dueP m r 1 d ∧ tstP m N r) := by
        funext i
        unfold dueP tstP
        rw [g 19 (by decide) (by decide) (by decide) (by decide) (by decide) (by decide) (by decide) (by decide), g 22 (by decide) (by decide) (by decide) (by decide) (by decide) (by decide) (by decide) (by decide), g 23 (by decide) (by decide) (by decide) (by decide) (by decide) (by decide) (by decide) (by decide), g 24 (by decide) (by decide) (by decide) (by decide) (by decide) (by decide) (by decide) (by decide), h20, h21]
        by_cases e : i = r
        · rw [e, eq_false h1]; simp only [false_and]
        · rw [pu_ne e, pu_ne e]
      unfold stkV
      rw [hd, h206 39 (by decide) (by decide) (by decide)]
  unfold JCache
  rw [h206 16 (by decide) (by decide) (by decide), h40, h19]
  refine ⟨fun a ha hz => ?_, jc.2⟩
  have := fre_of (m2 := M) (jc.1 a ha hz) (g 31 (by decide) (by decide) (by decide) (by decide) (by decide) (by decide) (by decide) (by decide)) (g 32 (by decide) (by decide) (by decide) (by decide) (by decide) (by decide) (by decide) (by decide)) (g 34 (by decide) (by decide) (by decide) (by decide) (by decide) (by decide) (by decide) (by decide))
  refine ⟨?_, fun r hr => ?_⟩
  · rw [S_tal hS]; exact this.1
  · rw [S_f4 hS]
    rw [S_rdl hS] at hr
    exact this.2 r hr
theorem stale_cache {w : rf_w} {M : rf_m} (h1 : ∀ a, a < (M.1 206 16).toNatClampNeg → M.1 40 a = 1) (h2 : 0 < (M.1 206 16).toNatClampNeg → M.1 26 19 = 1) : JCache w M := by
  have o1 : ¬ (1 : Int32) = 0 := by decide
  refine ⟨fun a ha hz => ?_, fun hz a ha => ?_⟩
  · rw [h1 a ha] at hz; exact absurd hz o1
  · rw [h2 (by omega)] at hz; exact absurd hz o1
theorem forgetAll_c {w : rf_w} {m : rf_m} {A : Int32} (hA : m.1 26 6 = A) (h80 : A.toNatClampNeg ≤ 80) (h0 : 0 ≤ A) : ∃ m', g_X3_forgetAll w m = some m' ∧ (∀ c, c ≠ 26 → c ≠ 40 → m'.1 c = m.1 c) ∧ (∀ k, k ≠ 19 → m'.1 26 k = m.1 26 k) ∧ (∀ a, a < A.toNatClampNeg → m'.1 40 a = 1) ∧ (0 < A.toNatClampNeg → m'.1 26 19 = 1) ∧ m'.2 = m.2 := by
  have nb : vp_nar .boolean 1 = 1 := by decide
  have hR := of_tn h0
  have key : ∀ n f i (m1 : rf_m), i + n = A.toNatClampNeg → n < f → (∀ c, c ≠ 26 → c ≠ 40 → m1.1 c = m.1 c) → (∀ k, k ≠ 19 → m1.1 26 k = m.1 26 k) → (∀ a, a < i → m1.1 40 a = 1) → (0 < i → m1.1 26 19 = 1) → m1.2 = m.2 → ∃ m', g_X3_forgetAll_2 w f (Int32.ofNat i) m1 = some m' ∧ (∀ c, c ≠ 26 → c ≠ 40 → m'.1 c = m.1 c) ∧ (∀ k, k ≠ 19 → m'.1 26 k = m.1 26 k) ∧ (∀ a, a < A.toNatClampNeg → m'.1 40 a = 1) ∧ (0 < A.toNatClampNeg → m'.1 26 19 = 1) ∧ m'.2 = m.2 := by
    intro n
    induction n with
    | zero =>
      intro f i m1 hi hf a1 a2 a3 a4 a5
      obtain ⟨f, rfl⟩ : ∃ g, f = g + 1 := ⟨f - 1, by omega⟩
      show ∃ m', g_X3_forgetAll_2_b w _ _ m1 = _ ∧ _
      unfold g_X3_forgetAll_2_b
      have e : i = A.toNatClampNeg := by omega
      rw [a2 6 (by decide), hA, e, hR, if_pos (Int32.le_refl _)]
      rw [e] at a3 a4
      exact ⟨m1, rfl, a1, a2, a3, a4, a5⟩
    | succ n ih =>
      intro f i m1 hi hf a1 a2 a3 a4 a5
      obtain ⟨f, rfl⟩ : ∃ g, f = g + 1 := ⟨f - 1, by omega⟩
      show ∃ m', g_X3_forgetAll_2_b w (g_X3_forgetAll_2 w f) _ m1 = _ ∧ _
      unfold g_X3_forgetAll_2_b g_X3_forget
      have h1 : ¬ A ≤ Int32.ofNat i := by rw [← hR]; exact nle (by omega) (by omega)
      rw [a2 6 (by decide), hA, if_neg h1, gof (by omega) (by decide), g_t, tn_of (by omega), nb]
      simp only [rf_bv]
      rw [of_succ]
      refine ih f (i + 1) _ (by omega) (by omega) (fun c q1 q2 => ?_) (fun k hk => ?_) (fun a ha => ?_) (fun _ => ?_) a5
      · rw [rf_i_c, if_neg q1, rf_i_c, if_neg q2]; exact a1 c q1 q2
      · rw [rf_i_c, if_pos rfl, pu_ne hk, rf_i_c, if_neg (by decide)]; exact a2 k hk
      · rw [rf_i_c, if_neg (by decide), rf_i_c, if_pos rfl]
        unfold pu
        by_cases q : a = i
        · rw [if_pos q]
        · rw [if_neg q]; exact a3 a (by omega)
      · rw [rf_i_c, if_pos rfl]; unfold pu; rw [if_pos rfl]
  exact key A.toNatClampNeg rf_fuel 0 m (by omega) (by unfold rf_fuel; omega) (fun _ _ _ => rfl) (fun _ _ => rfl) (fun a ha => absurd ha (Nat.not_lt_zero a)) (fun h => absurd h (Nat.lt_irrefl 0)) rfl
end PBForce
