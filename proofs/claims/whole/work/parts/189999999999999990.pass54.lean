/-! angle and pass: the counting behind them -/
section PBK7c
theorem core_N {c : Nat} {w : rf_w} {m M : rf_m} (J : JCnt c w m) (jc : JCache w m) (jw : JW c w m) (jl : JLg w m) (h : anN m M) : JRead M ∧ JStr c w M ∧ JRule w M ∧ JDay M ∧ JCache w M ∧ JW c w M ∧ JLg w M := by
  refine core_K J jc jw jl (fun z k hk => ⟨?_, rfl⟩)
  show M.1 z k = m.1 z k
  by_cases z0 : z = 0
  · rw [z0] at hk
    exact absurd hk (by simp [fr_in, PCore, fr_e])
  · by_cases z6 : z = 206
    · rw [z6] at hk ⊢
      have k0 : k ≠ 0 := fun e => by rw [e] at hk; exact absurd hk (by decide)
      have k1 : k ≠ 1 := fun e => by rw [e] at hk; exact absurd hk (by decide)
      have k2 : k ≠ 2 := fun e => by rw [e] at hk; exact absurd hk (by decide)
      exact h.2 k k0 k1 k2
    · rw [h.1 z z0 z6]
theorem core_Y {c N : Nat} {w : rf_w} {m M : rf_m} (J : JCnt c w m) (jc : JCache w m) (jw : JW c w m) (jl : JLg w m) (hN : m.1 206 16 = Int32.ofNat N) (h80 : N < 2000) (h : anY m M N) : JRead M ∧ JStr c w M ∧ JRule w M ∧ JDay M ∧ JCache w M ∧ JW c w M ∧ JLg w M := by
  have o1 : ¬ (1 : Int32) = 0 := by decide
  obtain ⟨hcc, j, js, ju, ja, jm, jd⟩ := J
  obtain ⟨h0, h26, h6, h19, h40, h16, x, h217⟩ := h
  have g : ∀ z, (z ≠ 0 ∧ z ≠ 26 ∧ z ≠ 28 ∧ z ≠ 29 ∧ z ≠ 30 ∧ z ≠ 40 ∧ z ≠ 206 ∧ z ≠ 217 ∧ z ≠ 218 ∧ z ≠ 219) → M.1 z = m.1 z := fun z q => h0 z q.1 q.2.1 q.2.2.1 q.2.2.2.1 q.2.2.2.2.1 q.2.2.2.2.2.1 q.2.2.2.2.2.2.1 q.2.2.2.2.2.2.2.1 q.2.2.2.2.2.2.2.2.1 q.2.2.2.2.2.2.2.2.2
  have e6 : ∀ k, (k ≠ 0 ∧ k ≠ 1 ∧ k ≠ 2 ∧ k ≠ 16) → M.1 206 k = m.1 206 k := fun k q => h6 k q.1 q.2.1 q.2.2.1 q.2.2.2
  have hlo : ∀ l, w.2.2 1 = some l → M.1 l = m.1 l := fun l hl => by
    obtain ⟨l', len, j1, j2, j3, _⟩ := js
    have : l' = l := by rw [hl] at j1; exact (Option.some.inj j1).symm
    subst this
    exact g l' (by omega)
  have hob : ∀ k, rob w k → M.1 k = m.1 k ∧ M.1 (k + 1) = m.1 (k + 1) ∧ M.1 (k + 2) = m.1 (k + 2) := fun k hk => by
    have := hk.2.2.2.2.2
    exact ⟨g k (by omega), g (k + 1) (by omega), g (k + 2) (by omega)⟩
  have hlg : M.1 ((w.2.2 1).getD 0) = m.1 ((w.2.2 1).getD 0) := by
    obtain ⟨l', len, j1, j2, j3, _⟩ := js
    rw [j1]
    exact hlo l' j1
  have hsk : ∀ N d, stkV M N d = stkV m N d := fun N' d => by
    unfold stkV dueP tstP
    rw [e6 39 (by decide), g 19 (by decide), g 20 (by decide), g 21 (by decide), g 22 (by decide), g 23 (by decide), g 24 (by decide)]
  refine ⟨?_, ?_, ⟨?_, ?_, fun r hr => ?_⟩, ?_, ⟨fun a ha hz => ?_, fun z => ?_⟩, ?_, fun l hl' i hi' => ?_⟩
  · unfold JRead rdl at *
    rw [h26 7 (by decide) (by decide), e6 17 (by decide), h16, g 220 (by decide), g 221 (by decide), g 222 (by decide), g 223 (by decide), g 224 (by decide), g 32 (by decide), g 33 (by decide), g 34 (by decide)]
    refine ⟨j.1, j.2.1, fun r hr => ?_, j.2.2.2⟩
    obtain ⟨p1, p2, p3, p4, p5, p6, p7⟩ := j.2.2.1 r hr
    refine ⟨p1, p2, p3, p4, p5, ⟨p6.1, ?_⟩, p7⟩
    have q := p6.2
    rw [hN, i_lt, ofI (by omega)] at q
    rw [i_lt, ofI (by omega)]
    omega
  · obtain ⟨l, len, j1, j2, j3, j4, js⟩ := js
    have el := hlo l j1
    refine ⟨l, len, j1, j2, j3, j4, ?_⟩
    have r1 : lgR M l = lgR m l := by unfold lgR; rw [el]
    have r2 : lgD M l = lgD m l := by unfold lgD; rw [el]
    have r3 : lgI M l = lgI m l := by unfold lgI; rw [el]
    rw [h26 17 (by decide) (by decide), e6 18 (by decide), e6 17 (by decide), e6 5 (by decide), g 36 (by decide), g 37 (by decide), g 38 (by decide), g 39 (by decide), g 216 (by decide), r1, r2, r3]
    exact js
  · rw [g 13 (by decide), e6 39 (by decide)]; exact ju.1
  · rw [e6 39 (by decide)]; exact ju.2.1
  · rw [e6 39 (by decide)] at hr
    obtain ⟨k, hk⟩ := ju.2.2 r hr
    obtain ⟨o0, o1, o2⟩ := hob k hk.2.1
    refine ⟨k, ?_⟩
    unfold rulOK at hk ⊢
    rw [o0, o1, o2, g 19 (by decide), g 20 (by decide), g 21 (by decide), g 22 (by decide), g 23 (by decide), g 24 (by decide)]
    exact hk
  · unfold JDay at *
    rw [g 224 (by decide), e6 5 (by decide)]
    exact jd
  · rw [h16, tn_of (by omega)] at ha
    rw [h40] at hz
    have aN : a ≠ N := fun e => by rw [e, pu_at] at hz; exact o1 hz
    rw [pu_ne aN] at hz
    have f := fre_of (m2 := M) (jc.1 a (by rw [hN, tn_of (by omega)]; omega) hz) (g 31 (by decide)) (g 32 (by decide)) (g 34 (by decide))
    exact N_fre ⟨fun z hz => g z (by omega), by rw [h217, pu_ne aN], e6 17 (by decide), e6 18 (by decide), hsk⟩ hlg f
  · rw [h19] at z; exact absurd z o1
  · obtain ⟨a1, a2, a3, a4, a5⟩ := jw
    refine ⟨a1, a2, a3, ?_, ?_⟩
    · rw [e6 39 (by decide)]; exact a4
    · rw [e6 39 (by decide)]; exact a5
  · rw [e6 18 (by decide)] at hi'
    rw [hlo l hl', e6 17 (by decide)]
    exact jl l hl' i hi'
/-- the day only grows -/
theorem pass_up {w : rf_w} {m : rf_m} {y : Nat → Int32} {r : rf_w × rf_m} (jd : JD m) (h : g_lc_54 w m y = some r) : m.1 206 5 ≤ r.2.1 206 5 := by
  have o1 : ¬ (1 : Int32) = 0 := by decide
  unfold g_lc_54 at h
  obtain ⟨y0, m0, q1, h⟩ := rf_b_some h
  obtain ⟨y1, m1, q2, h⟩ := rf_b_some h
  obtain ⟨_, h⟩ := rf_g_some h
  obtain rfl := Option.some.inj h
  have e5 : m0.1 206 5 = m.1 206 5 := (fg_X11_pass q1 206 5 (by decide)).1
  have e5' : (rf_i m0 206 0 0).1 206 5 = m.1 206 5 := e5
  have d := jd.2
  unfold g_X14_pass g_X14_refused g_X14_done at q2
  rw [X14_in, b_sm, e5'] at q2
  show m.1 206 5 ≤ m1.1 206 5
  by_cases c : iv 1 1000 (y 1)
  · rw [bi_t c, if_neg o1] at q2
    by_cases c2 : m.1 206 5 + y 1 < 10000
    · rw [if_pos c2] at q2
      have e := (Prod.mk.inj (Option.some.inj q2)).2
      have : m1.1 206 5 = m.1 206 5 + y 1 := by rw [← e]; rfl
      rw [this]
      have a := i_le.mp c.1
      have b := i_le.mp c.2
      have a' := i_le.mp d.1
      have b' := i_le.mp d.2
      have e1 : (1 : Int32).toInt = 1 := rfl
      have e2 : (1000 : Int32).toInt = 1000 := rfl
      have e3 : (9999 : Int32).toInt = 9999 := rfl
      rw [i_0] at a'
      rw [i_le, addI (by omega) (by omega)]
      omega
    · rw [if_neg c2] at q2
      have e := (Prod.mk.inj (Option.some.inj q2)).2
      have : m1.1 206 5 = m.1 206 5 := by rw [← e]; exact e5
      rw [this]
      exact Int32.le_refl _
  · rw [bi_f c, if_pos rfl] at q2
    have e := (Prod.mk.inj (Option.some.inj q2)).2
    have : m1.1 206 5 = m.1 206 5 := by rw [← e]; exact e5
    rw [this]
    exact Int32.le_refl _
/-- no strike is of a later day -/
theorem strk_up {R D I : Nat → Int32} {r t t' : Int32} (up : t ≤ t') : ∀ n, (∀ s, s < n → D s ≤ t) → strk R D I r t' n = strk R D I r t n := by
  intro n
  induction n with
  | zero => intro _; rfl
  | succ n ih =>
    intro h
    have b := h n (by omega)
    unfold strk
    rw [ih (fun s hs => h s (by omega))]
    by_cases p : R n = r
    · rw [if_pos ⟨p, Int32.le_trans b up⟩, if_pos ⟨p, b⟩]
    · rw [if_neg (fun z => p z.1), if_neg (fun z => p z.1)]
def PPass : fr_S := [(13, 13, some 3), (19, 24, none), (26, 26, some 7), (26, 26, some 17), (26, 26, some 19), (31, 34, none), (36, 40, none), (216, 217, none), (220, 225, none), (230, 232, none), (306, 0, none), (206, 206, some 16), (206, 206, some 17), (206, 206, some 18), (206, 206, some 39)]
/-- but for the day, which grows -/
theorem core_D {c : Nat} {w : rf_w} {m M : rf_m} (J : JCnt c w m) (jc : JCache w m) (jw : JW c w m) (jl : JLg w m) (h : dep PPass m (im m M)) (up : m.1 206 5 ≤ M.1 206 5) (top : M.1 206 5 ≤ 9999) : JRead M ∧ JStr c w M ∧ JRule w M ∧ JDay M ∧ JCache w M ∧ JW c w M ∧ JLg w M := by
  -- m with that day
  have hP : ∀ z k, fr_in PCore z k = true → ¬ (z = 206 ∧ k = 5) → fr_in PPass z k = true := by
    intro z k hz hn
    obtain ⟨x, hx, hx2⟩ := List.any_eq_true.mp hz
    have key : x ∈ PPass ∨ x = (206, 206, some 5) := by
      have all : ∀ x, x ∈ PCore → x ∈ PPass ∨ x = (206, 206, some 5) := by decide
      exact all x hx
    rcases key with q | q
    · exact List.any_eq_true.mpr ⟨x, q, hx2⟩
    · exfalso
      rw [q] at hx2
      unfold fr_e at hx2
      simp only [Bool.and_eq_true, Bool.or_eq_true, Nat.ble_eq, Nat.beq_eq] at hx2
      exact hn ⟨by omega, by omega⟩
  have B : dep PCore (rf_i m 206 5 (M.1 206 5)) (im (rf_i m 206 5 (M.1 206 5)) M) := by
    intro z k hz
    refine ⟨?_, rfl⟩
    show M.1 z k = if z = 206 ∧ k = 5 then M.1 206 5 else m.1 z k
    by_cases q : z = 206 ∧ k = 5
    · rw [if_pos q, q.1, q.2]
    · rw [if_neg q]
      exact (h z k (hP z k hz q)).1
  obtain ⟨hcc, j, js, ju, ja, jm, jd⟩ := J
  have a6 : ∀ k, k ≠ 5 → (rf_i m 206 5 (M.1 206 5)).1 206 k = m.1 206 k := fun k hk => by rw [rf_i_c, if_pos rfl, pu_ne hk]
  have a5 : (rf_i m 206 5 (M.1 206 5)).1 206 5 = M.1 206 5 := by rw [rf_i_c, if_pos rfl, pu_at]
  have az : ∀ z, z ≠ 206 → (rf_i m 206 5 (M.1 206 5)).1 z = m.1 z := fun z hz => by rw [rf_i_c, if_neg hz]
  generalize rf_i m 206 5 (M.1 206 5) = A at *
  have hl := JStr_l js
  have hB : eqB m A := ⟨fun z hz => az z (by omega), a6 17 (by decide), a6 18 (by decide), a6 39 (by decide)⟩
  have lo : ∀ l, w.2.2 1 = some l → A.1 l = m.1 l := fun l hl' => by
    obtain ⟨l', len, j1, j2, j3, _⟩ := js
    have : l' = l := by rw [hl'] at j1; exact (Option.some.inj j1).symm
    subst this
    exact az l' (by omega)
  refine core_K (m := A) ⟨hcc, ?_, ?_, ⟨?_, ?_, fun r hr => ?_⟩, ?_, ?_, ?_⟩ ⟨fun a ha hz => ?_, ?_⟩ ?_ (fun l hl' i hi' => ?_) B
  · unfold JRead rdl at *
    rw [az 26 (by decide), a6 17 (by decide), a6 16 (by decide), az 220 (by decide), az 221 (by decide), az 222 (by decide), az 223 (by decide), az 224 (by decide), az 32 (by decide), az 33 (by decide), az 34 (by decide)]
    exact j
  · obtain ⟨l, len, j1, j2, j3, j4, s1, s2, s3, s4, s5, s6⟩ := js
    have el := lo l j1
    have r1 : lgR A l = lgR m l := by unfold lgR; rw [el]
    have r2 : lgD A l = lgD m l := by unfold lgD; rw [el]
    have r3 : lgI A l = lgI m l := by unfold lgI; rw [el]
    refine ⟨l, len, j1, j2, j3, j4, ?_⟩
    rw [az 26 (by decide), a6 18 (by decide), a6 17 (by decide), a5, az 36 (by decide), az 37 (by decide), az 38 (by decide), az 39 (by decide), az 216 (by decide), r1, r2, r3]
    refine ⟨s1, s2, s3, s4, fun s hs => ?_, fun r hr => ?_⟩
    · obtain ⟨b1, b2, b3, b4, b5⟩ := s5 s hs
      exact ⟨b1, b2, b3, Int32.le_trans b4 up, b5⟩
    · obtain ⟨b1, b2⟩ := s6 r hr
      exact ⟨b1, b2.trans (strk_up up _ (fun s hs => (s5 s hs).2.2.2.1)).symm⟩
  · rw [az 13 (by decide), a6 39 (by decide)]; exact ju.1
  · rw [a6 39 (by decide)]; exact ju.2.1
  · rw [a6 39 (by decide)] at hr
    obtain ⟨k, hk⟩ := ju.2.2 r hr
    have k6 := hk.2.1.2.2.2.2.2
    refine ⟨k, ?_⟩
    unfold rulOK at hk ⊢
    rw [az k (by omega), az (k + 1) (by omega), az (k + 2) (by omega), az 19 (by decide), az 20 (by decide), az 21 (by decide), az 22 (by decide), az 23 (by decide), az 24 (by decide)]
    exact hk
  · unfold JAng at *
    rw [az 26 (by decide), a6 16 (by decide), a6 4 (by decide), az 28 (by decide), az 29 (by decide), az 30 (by decide), az 217 (by decide), az 218 (by decide), az 219 (by decide)]
    exact ja
  · unfold JMark at *
    rw [az 1 (by decide), a6 4 (by decide), az 4 (by decide), az 5 (by decide), az 209 (by decide), az 214 (by decide)]
    exact jm
  · exact ⟨by rw [az 224 (by decide)]; exact jd.1, by rw [a5]; exact top⟩
  · rw [a6 16 (by decide)] at ha
    rw [az 40 (by decide)] at hz
    obtain ⟨t, f⟩ := fre_of (m2 := A) (jc.1 a ha hz) (az 31 (by decide)) (az 32 (by decide)) (az 34 (by decide))
    refine ⟨?_, fun r hr => ?_⟩
    · rw [B_tal hl hB]; exact t
    · rw [B_f4 hl hB]
      rw [B_rdl hB] at hr
      exact f r hr
  · rw [az 26 (by decide), a6 16 (by decide), az 40 (by decide)]
    exact jc.2
  · obtain ⟨w1, w2, w3, w4, w5⟩ := jw
    refine ⟨w1, w2, w3, ?_, ?_⟩
    · rw [a6 39 (by decide)]; exact w4
    · rw [a6 39 (by decide)]; exact w5
  · rw [a6 18 (by decide)] at hi'
    rw [lo l hl', a6 17 (by decide)]
    exact jl l hl' i hi'
end PBK7c
