/-! strike: what stands behind it -/
section PBStrike2
def strF (w : rf_w) (m M : rf_m) (l l' s r a : Nat) (v : Int32) : Prop :=
  (∀ z, z ≠ 0 → z ≠ 26 → (z < 36 ∨ 40 < z) → z ≠ 206 → z ≠ 216 → z ≠ l' → z < w.1 → M.1 z = m.1 z) ∧ (∀ k, k < 3 * s → M.1 l' k = m.1 l k) ∧ M.1 l' (3 * s) = Int32.ofNat r ∧ M.1 l' (3 * s + 1) = m.1 206 5 ∧ M.1 l' (3 * s + 2) = v ∧ M.1 37 = pu (m.1 37) s (m.1 206 5) ∧ M.1 39 = pu (m.1 39) s v ∧ M.1 38 = pu (m.1 38) s (m.1 36 r) ∧ M.1 36 = pu (m.1 36) r (Int32.ofNat s) ∧ M.1 40 = pu (m.1 40) a 1 ∧ M.1 216 = pu (m.1 216) r v ∧ (∀ k, k ≠ 17 → k ≠ 19 → M.1 26 k = m.1 26 k) ∧ M.1 26 17 = Int32.ofNat (s + 1) ∧ M.1 26 19 = 1 ∧ (∀ k, k ≠ 0 → k ≠ 1 → k ≠ 2 → k ≠ 18 → M.1 206 k = m.1 206 k) ∧ M.1 206 18 = Int32.ofNat (s + 1)
theorem w_old {w w' : rf_w} {l l' len' k : Nat} (h : wS w w' l l' len') (hk : k < w.1) : rf_at (rf_sh w') k = rf_at (rf_sh w) k := by
  rcases h.1 with ⟨e, _⟩ | ⟨n, e, _⟩
  · rw [e]
  · rw [e]
    exact al_old (by omega)
theorem w_ref {w w' : rf_w} {l l' len' i : Nat} (h : wS w w' l l' len') (hi : i ≠ 1) : w'.2.2 i = w.2.2 i := by
  rcases h.1 with ⟨e, _⟩ | ⟨n, e, _⟩
  · rw [e]
  · rw [e]
    exact if_neg hi
theorem Rt_hi {w : rf_w} {k i : Nat} (h : 306 ≤ k) : rf_Rt w k i = rf_rz w k i := by
  have b : ∀ n, n < 306 → Nat.ble k n = false := fun n hn => by
    cases q : Nat.ble k n
    · rfl
    · have := Nat.le_of_ble_eq_true q; omega
  unfold rf_Rt
  rw [b 152 (by omega), b 229 (by omega), b 267 (by omega), b 286 (by omega), b 296 (by omega), b 301 (by omega), b 303 (by omega), b 304 (by omega), b 305 (by omega)]
  rfl
theorem w_Rt {w w' : rf_w} {a f : Nat} (ha : a = 230 ∨ 306 ≤ a) (e : 306 ≤ a → w'.2.1 a = w.2.1 a) : rf_Rt w' a f = rf_Rt w a f := by
  rcases ha with ha | ha
  · rw [ha]; rfl
  · rw [Rt_hi ha, Rt_hi ha]
    unfold rf_rz
    rw [e ha]
theorem rob_w {w w' : rf_w} {k : Nat} (hr : rob w k) (e : ∀ z, z = k ∨ z = k + 1 ∨ z = k + 2 → rf_at (rf_sh w') z = rf_at (rf_sh w) z) (e2 : 306 ≤ k → w'.2.1 k = w.2.1 k) : rob w' k := by
  obtain ⟨a, b, c, d, f, g⟩ := hr
  unfold rf_isO at a
  unfold rf_isR at b d
  unfold rf_isA at c f
  refine ⟨?_, ?_, ?_, ?_, ?_, g⟩
  · unfold rf_isO; rw [e k (by omega)]; exact a
  · unfold rf_isR; rw [w_Rt g e2]; exact b
  · unfold rf_isA; rw [e (k + 1) (by omega)]; exact c
  · unfold rf_isR; rw [w_Rt g e2]; exact d
  · unfold rf_isA; rw [e (k + 2) (by omega)]; exact f
theorem w_21 {w w' : rf_w} {l l' len' k : Nat} (h : wS w w' l l' len') (hk : k < w.1) : w'.2.1 k = w.2.1 k := by
  rcases h.1 with ⟨e, _⟩ | ⟨n, e, _⟩
  · rw [e]
  · rw [e]
    show (if k = w.1 then _ else w.2.1 k) = _
    rw [if_neg (by omega)]
theorem w_rob {w w' : rf_w} {l l' len' k : Nat} (h : wS w w' l l' len') (hk : k + 2 < w.1) (hr : rob w k) : rob w' k := rob_w hr (fun z hz => w_old h (by omega)) (fun _ => w_21 h (by omega))
theorem rul_w {w w' : rf_w} {m M : rf_m} {r k : Nat} (h : rulOK w m r k) (h1 : w'.2.2 (r + 2) = w.2.2 (r + 2)) (h2 : rob w' k) (e0 : M.1 k = m.1 k) (e1 : M.1 (k + 1) = m.1 (k + 1)) (e2 : M.1 (k + 2) = m.1 (k + 2)) (e3 : ∀ z, 19 ≤ z → z ≤ 24 → M.1 z = m.1 z) : rulOK w' M r k := by
  unfold rulOK at h ⊢
  rw [h1, e0, e1, e2, e3 19 (by omega) (by omega), e3 20 (by omega) (by omega), e3 21 (by omega) (by omega), e3 22 (by omega) (by omega), e3 23 (by omega) (by omega), e3 24 (by omega) (by omega)]
  exact ⟨h.1, h2, h.2.2⟩
theorem str_rule {c : Nat} {w w' : rf_w} {m M : rf_m} {l l' len' s r a : Nat} {v : Int32} (ju : JRule w m) (jw : JW c w m) (hw : wS w w' l l' len') (hl : w.2.2 1 = some l) (hlc : l = 225 ∨ 306 ≤ l) (h : strF w m M l l' s r a v) : JRule w' M := by
  obtain ⟨u1, u2, u3⟩ := ju
  have f0 := h.1
  have f6 := h.2.2.2.2.2.2.2.2.2.2.2.2.2.2.1
  have hw6 := jw.1
  have l6 : l' = l ∨ l' = w.1 := by
    rcases hw.1 with ⟨_, q⟩ | ⟨_, _, q⟩
    · exact Or.inl q
    · exact Or.inr q
  have l7 : ∀ z, z < 41 → z ≠ l' := fun z hz q => by omega
  unfold JRule
  rw [f6 39 (by decide) (by decide) (by decide) (by decide), f0 13 (by decide) (by decide) (by decide) (by decide) (by decide) (l7 13 (by decide)) (by omega)]
  refine ⟨u1, u2, fun r hr => ?_⟩
  obtain ⟨k, hk⟩ := u3 r hr
  obtain ⟨k', q1, q2, q3, q4⟩ := jw.2.2.2.1 (r + 2) (Or.inr ⟨by omega, by omega⟩)
  have ek : k' = k := by rw [hk.1] at q1; exact (Option.some.inj q1).symm
  rw [ek] at q2 q3 q4
  have q5 := q4 l hl
  have q6 := q2.2.2.2.2.2
  have ll : ∀ z, z = k ∨ z = k + 1 ∨ z = k + 2 → M.1 z = m.1 z := fun z hz => f0 z (by omega) (by omega) (by omega) (by omega) (by omega) (by omega) (by omega)
  exact ⟨k, rul_w hk (w_ref hw (by omega)) (w_rob hw q3 q2) (ll k (by omega)) (ll (k + 1) (by omega)) (ll (k + 2) (by omega)) (fun z h1 h2 => f0 z (by omega) (by omega) (by omega) (by omega) (by omega) (l7 z (by omega)) (by omega))⟩
theorem str_str {c : Nat} {w w' : rf_w} {m M : rf_m} {l l' len' s r a : Nat} {v : Int32} (hc : c < 512) (js : JStr c w m) (hn : (m.1 206 17).toNatClampNeg ≤ 1200) (hw : wS w w' l l' len') (h3 : 3 * (s + 1) ≤ len') (hw6 : 306 ≤ w.1) (hl : w.2.2 1 = some l) (hs : s = (m.1 206 18).toNatClampNeg) (hr : r < (m.1 206 17).toNatClampNeg) (hv : v = 0 ∨ v = 1) (h : strF w m M l l' s r a v) : JStr (c + 1) w' M := by
  obtain ⟨l0, len, j1, j2, j3, j4, j5, j6, j7, j8, j9, ja⟩ := js
  have e0 : l0 = l := by rw [hl] at j1; exact (Option.some.inj j1).symm
  rw [e0] at j1 j2 j3 j9 ja
  obtain ⟨f0, f1, f2, f3, f4, f5, f6, f7, f8, f9, f10, f11, f12, f13, f14, f15⟩ := h
  rw [← hs] at j7 j8 j9 ja
  have hlc : l' = 225 ∨ 306 ≤ l' := by
    rcases hw.1 with ⟨_, q⟩ | ⟨_, _, q⟩
    · rw [q]; exact j3
    · rw [q]; exact Or.inr hw6
  have t1 : (Int32.ofNat (s + 1)).toNatClampNeg = s + 1 := tn_of (by omega)
  have rR : ∀ i, i < s → lgR M l' i = lgR m l i := fun i hi => f1 (3 * i) (by omega)
  have rD : ∀ i, i < s → lgD M l' i = lgD m l i := fun i hi => f1 (3 * i + 1) (by omega)
  have rI : ∀ i, i < s → lgI M l' i = lgI m l i := fun i hi => f1 (3 * i + 2) (by omega)
  have sR : lgR M l' s = Int32.ofNat r := f2
  have sD : lgD M l' s = m.1 206 5 := f3
  have sI : lgI M l' s = v := f4
  have e5 := f14 5 (by decide) (by decide) (by decide) (by decide)
  have e17 := f14 17 (by decide) (by decide) (by decide) (by decide)
  refine ⟨l', len', hw.2.1, hw.2.2.1, hlc, hw.2.2.2.1, by rw [f12, f15], by rw [f15]; exact of_nn (by omega), by rw [f15, t1]; omega, by rw [f15, t1]; exact h3, ?_, ?_⟩
  · rw [f15, t1, e5, f5, f6, f7]
    intro i hi
    by_cases e : i = s
    · rw [e, pu_at, pu_at, pu_at, sD, sI, sR]
      refine ⟨rfl, rfl, hv, Int32.le_refl _, ?_⟩
      rw [(ja r hr).1]
      exact (lastLog_congr s rR).symm
    · have hi' : i < s := by omega
      rw [pu_ne e, pu_ne e, pu_ne e, rD i hi', rI i hi', rR i hi']
      obtain ⟨x1, x2, x3, x4, x5⟩ := j9 i hi'
      refine ⟨x1, x2, x3, x4, ?_⟩
      rw [x5]
      exact (lastLog_congr i (fun k hk => rR k (by omega))).symm
  · rw [f15, t1, e17, e5, f8, f10]
    intro q hq
    unfold lastLog strk
    rw [sR, sD, sI]
    by_cases e : q = r
    · rw [e, pu_at, pu_at, if_pos rfl, if_pos ⟨rfl, Int32.le_refl _⟩]
      exact ⟨rfl, rfl⟩
    · have ne : ¬ Int32.ofNat r = Int32.ofNat q := fun z => e ((of_inj (by omega) (by omega)).mp z).symm
      rw [pu_ne e, pu_ne e, if_neg ne, if_neg (fun z => ne z.1), (ja q hq).1, (ja q hq).2]
      exact ⟨(lastLog_congr s rR).symm, (strk_congr s (fun i hi => ⟨rR i hi, rD i hi, rI i hi⟩)).symm⟩
theorem str_sv {w w' : rf_w} {m M : rf_m} {l l' len' s r a q : Nat} {v d : Int32} (hw : wS w w' l l' len') (hl : w.2.2 1 = some l) (hs : s = (m.1 206 18).toNatClampNeg) (h5 : s < 512) (hq : q < 1200) (hr : r < 1200) (hne : q ≠ r) (h : strF w m M l l' s r a v) : svV w' M q d = svV w m q d := by
  obtain ⟨f0, f1, f2, f3, f4, f5, f6, f7, f8, f9, f10, f11, f12, f13, f14, f15⟩ := h
  unfold svV
  rw [hw.2.1, hl, f15, tn_of (by omega), ← hs]
  show strk (lgR M l') (lgD M l') (lgI M l') (Int32.ofNat q) d (s + 1) = strk (lgR m l) (lgD m l) (lgI m l) (Int32.ofNat q) d s
  have ne : ¬ lgR M l' s = Int32.ofNat q := fun z => by
    have z2 : M.1 l' (3 * s) = Int32.ofNat q := z
    rw [f2] at z2
    exact hne ((of_inj (by omega) (by omega)).mp z2).symm
  rw [strk, if_neg (fun z => ne z.1)]
  exact strk_congr s (fun i hi => ⟨f1 (3 * i) (by omega), f1 (3 * i + 1) (by omega), f1 (3 * i + 2) (by omega)⟩)
theorem str_cnt {c : Nat} {w w' : rf_w} {m M : rf_m} {l l' len' s r a : Nat} {v : Int32} (hc : c < 512) (J : JCnt c w m) (jc : JCache w m) (jw : JW c w m) (hw : wS w w' l l' len') (h3 : 3 * (s + 1) ≤ len') (hl : w.2.2 1 = some l) (hs : s = (m.1 206 18).toNatClampNeg) (hr : r < (m.1 206 17).toNatClampNeg) (ha : m.1 220 r = Int32.ofNat a) (ha8 : a < 80) (hv : v = 0 ∨ v = 1) (h : strF w m M l l' s r a v) : JCnt (c + 1) w' M ∧ JCache w' M ∧ JW (c + 1) w' M := by
  have J' := J
  obtain ⟨_, j, js, ju, ja, jm, jd⟩ := J
  have hn : (m.1 206 17).toNatClampNeg ≤ 1200 := tn_le j.2.1.1 j.2.1.2 (by decide)
  have hw6 := jw.1
  have hlc : l = 225 ∨ 306 ≤ l := by
    obtain ⟨l0, len, j1, j2, j3, _⟩ := js
    rw [hl] at j1
    rw [Option.some.inj j1]; exact j3
  have hs5 : s < 512 := by
    obtain ⟨_, _, _, _, _, _, _, _, j7, _⟩ := js
    omega
  have j1 := str_str hc js hn hw h3 hw6 hl hs hr hv h
  have j2 := str_rule ju jw hw hl hlc h
  have sv := fun q d (hq : q < 1200) (hne : q ≠ r) => str_sv (d := d) hw hl hs hs5 hq (by omega) hne h
  have l6 : l' = l ∨ l' = w.1 := by
    rcases hw.1 with ⟨_, q⟩ | ⟨_, _, q⟩
    · exact Or.inl q
    · exact Or.inr q
  obtain ⟨f0, f1, f2, f3, f4, f5, f6, f7, f8, f9, f10, f11, f12, f13, f14, f15⟩ := h
  have g : ∀ z, z ≠ 0 → z ≠ 26 → (z < 36 ∨ 40 < z) → z ≠ 206 → z ≠ 216 → z ≠ 225 → z < 306 → M.1 z = m.1 z := fun z a1 a2 a3 a4 a5 a6 a7 => f0 z a1 a2 a3 a4 a5 (by omega) (by omega)
  have k6 : ∀ k, k ≠ 0 → k ≠ 1 → k ≠ 2 → k ≠ 18 → M.1 206 k = m.1 206 k := f14
  have eU : eqU m M := by
    refine ⟨fun z hz => g z (by omega) (by omega) (by omega) (by omega) (by omega) (by omega) (by omega), k6 17 (by decide) (by decide) (by decide) (by decide), fun N d => ?_⟩
    unfold stkV dueP tstP
    rw [k6 39 (by decide) (by decide) (by decide) (by decide), g 19 (by decide) (by decide) (by decide) (by decide) (by decide) (by decide) (by decide), g 20 (by decide) (by decide) (by decide) (by decide) (by decide) (by decide) (by decide), g 21 (by decide) (by decide) (by decide) (by decide) (by decide) (by decide) (by decide), g 22 (by decide) (by decide) (by decide) (by decide) (by decide) (by decide) (by decide), g 23 (by decide) (by decide) (by decide) (by decide) (by decide) (by decide) (by decide), g 24 (by decide) (by decide) (by decide) (by decide) (by decide) (by decide) (by decide)]
  have gg : ∀ z, z = 1 ∨ z = 4 ∨ z = 5 ∨ (28 ≤ z ∧ z ≤ 34) ∨ z = 209 ∨ z = 214 ∨ (217 ≤ z ∧ z ≤ 224) → M.1 z = m.1 z := fun z hz => g z (by omega) (by omega) (by omega) (by omega) (by omega) (by omega) (by omega)
  refine ⟨⟨by omega, ?_, j1, j2, ?_, ?_, ?_⟩, ⟨fun a' ha' hz => ?_, fun hz => ?_⟩, ?_⟩
  · have er : ∀ a, rdl M a = rdl m a := U_rdl eU
    unfold JRead
    simp only [er]
    rw [f11 7 (by decide) (by decide), k6 17 (by decide) (by decide) (by decide) (by decide), k6 16 (by decide) (by decide) (by decide) (by decide), gg 32 (by omega), gg 33 (by omega), gg 34 (by omega), gg 220 (by omega), gg 221 (by omega), gg 222 (by omega), gg 223 (by omega), gg 224 (by omega)]
    exact j
  · unfold JAng
    rw [f11 6 (by decide) (by decide), k6 16 (by decide) (by decide) (by decide) (by decide), k6 4 (by decide) (by decide) (by decide) (by decide), gg 28 (by omega), gg 29 (by omega), gg 30 (by omega), gg 217 (by omega), gg 218 (by omega), gg 219 (by omega)]
    exact ja
  · unfold JMark
    rw [k6 4 (by decide) (by decide) (by decide) (by decide), gg 1 (by omega), gg 4 (by omega), gg 5 (by omega), gg 209 (by omega), gg 214 (by omega)]
    exact jm
  · unfold JDay
    rw [k6 5 (by decide) (by decide) (by decide) (by decide), gg 224 (by omega)]
    exact jd
  · rw [k6 16 (by decide) (by decide) (by decide) (by decide)] at ha'
    rw [f9] at hz
    have ne : a' ≠ a := fun e => by rw [e, pu_at] at hz; exact absurd hz (by decide)
    rw [pu_ne ne] at hz
    have h80 := ang80 ja
    refine U_fre eU (fun q hq => ?_) (fre_of (jc.1 a' ha' hz) (gg 31 (by omega)) (gg 32 (by omega)) (gg 34 (by omega)))
    obtain ⟨q1, q2⟩ := rds_lt _ _ hq
    exact sv q 9999 (by omega) (fun e => ne ((of_inj (by omega) (by omega)).mp (by rw [← q2, e, ha])))
  · rw [f13] at hz; exact absurd hz (by decide)
  · refine ⟨?_, ?_, ?_, ?_, ?_⟩
    · rcases hw.1 with ⟨q, _⟩ | ⟨n, q, _⟩
      · rw [q]; exact hw6
      · rw [q]; show 306 ≤ w.1 + 1; omega
    · have := jw.2.1
      rcases hw.1 with ⟨q, _⟩ | ⟨n, q, _⟩
      · rw [q]; omega
      · rw [q]; show w.1 + 1 ≤ _; omega
    · intro l2 hl2
      have e2 : l2 = l' := by rw [hw.2.1] at hl2; exact (Option.some.inj hl2).symm
      rw [e2]
      refine ⟨?_, fun len hlen => ?_⟩
      · have := (jw.2.2.1 l hl).1
        rcases hw.1 with ⟨q, q2⟩ | ⟨n, q, q2⟩
        · rw [q, q2]; exact this
        · rw [q, q2]; show w.1 < w.1 + 1; omega
      · rw [hw.2.2.1] at hlen
        have := Option.some.inj hlen
        have := hw.2.2.2.2
        omega
    · rw [k6 39 (by decide) (by decide) (by decide) (by decide)]
      intro i hi
      have hi1 : i ≠ 1 := by unfold ix at hi; omega
      obtain ⟨k, q1, q2, q3, q4⟩ := jw.2.2.2.1 i hi
      refine ⟨k, by rw [w_ref hw hi1]; exact q1, w_rob hw q3 q2, ?_, fun l2 hl2 => ?_⟩
      · rcases hw.1 with ⟨q, q2⟩ | ⟨n, q, q2⟩
        · rw [q]; exact q3
        · rw [q]; show k + 2 < w.1 + 1; omega
      · have e2 : l2 = l' := by rw [hw.2.1] at hl2; exact (Option.some.inj hl2).symm
        have := q4 l hl
        rcases l6 with q | q
        · omega
        · omega
    · rw [k6 39 (by decide) (by decide) (by decide) (by decide)]
      intro i i2 k k2 hi hi2 hne hk hk2
      have hi1 : i ≠ 1 := by unfold ix at hi; omega
      have hi3 : i2 ≠ 1 := by unfold ix at hi2; omega
      rw [w_ref hw hi1] at hk
      rw [w_ref hw hi3] at hk2
      exact jw.2.2.2.2 i i2 k k2 hi hi2 hne hk hk2
/-- the log speaks of readings that were told -/
def JLg (w : rf_w) (m : rf_m) : Prop := ∀ l, w.2.2 1 = some l → ∀ i, i < (m.1 206 18).toNatClampNeg → ib (m.1 l (3 * i)) (m.1 206 17)
theorem str_lg {w w' : rf_w} {m M : rf_m} {l l' len' s r a : Nat} {v : Int32} (jl : JLg w m) (hw : wS w w' l l' len') (hl : w.2.2 1 = some l) (hs : s = (m.1 206 18).toNatClampNeg) (h5 : s < 512) (hr : ib (Int32.ofNat r) (m.1 206 17)) (h : strF w m M l l' s r a v) : JLg w' M := by
  obtain ⟨f0, f1, f2, f3, f4, f5, f6, f7, f8, f9, f10, f11, f12, f13, f14, f15⟩ := h
  intro l2 hl2 i hi
  have e2 : l2 = l' := by rw [hw.2.1] at hl2; exact (Option.some.inj hl2).symm
  rw [f15, tn_of (by omega)] at hi
  rw [e2, f14 17 (by decide) (by decide) (by decide) (by decide)]
  by_cases e : i = s
  · rw [e, f2]; exact hr
  · rw [f1 (3 * i) (by omega)]
    exact jl l hl i (by omega)
end PBStrike2
