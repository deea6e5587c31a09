/-! read: what stands behind it -/
section PBReadJ
def redF (m M : rf_m) (n a x : Nat) (v h p : Int32) : Prop :=
  (∀ z, z ≠ 0 → z ≠ 26 → z ≠ 32 → z ≠ 33 → z ≠ 34 → z ≠ 36 → z ≠ 40 → z ≠ 206 → z ≠ 216 → (z < 220 ∨ 224 < z) → M.1 z = m.1 z) ∧ M.1 32 = pu (pu (pu (pu (pu (m.1 32) (9 * n) (Int32.ofNat a)) (9 * n + 1) v) (9 * n + 2) h) (9 * n + 3) p) (9 * n + 4) (m.1 206 5) ∧ M.1 33 = pu (m.1 33) (20 * a + x) (Int32.ofNat n) ∧ M.1 34 = pu (m.1 34) (9 * a + 6) (Int32.ofNat (x + 1)) ∧ M.1 36 = pu (m.1 36) n (-1) ∧ M.1 40 = pu (m.1 40) a 1 ∧ M.1 216 = pu (m.1 216) n 0 ∧ M.1 220 = pu (m.1 220) n (Int32.ofNat a) ∧ M.1 221 = pu (m.1 221) n v ∧ M.1 222 = pu (m.1 222) n h ∧ M.1 223 = pu (m.1 223) n p ∧ M.1 224 = pu (m.1 224) n (m.1 206 5) ∧ (∀ k, k ≠ 7 → k ≠ 19 → M.1 26 k = m.1 26 k) ∧ M.1 26 7 = Int32.ofNat (n + 1) ∧ M.1 26 19 = 1 ∧ (∀ k, k ≠ 0 → k ≠ 1 → k ≠ 2 → k ≠ 17 → M.1 206 k = m.1 206 k) ∧ M.1 206 17 = Int32.ofNat (n + 1)
theorem strk_none {R D I : Nat → Int32} {r d : Int32} : ∀ s, (∀ i, i < s → R i ≠ r) → strk R D I r d s = 0 ∧ lastLog R r s = -1 := by
  intro s
  induction s with
  | zero => intro _; exact ⟨rfl, rfl⟩
  | succ s ih =>
    intro h
    unfold strk lastLog
    rw [if_neg (fun q => h s (by omega) q.1), if_neg (h s (by omega))]
    exact ih (fun i hi => h i (by omega))
theorem red_rdl {m M : rf_m} {n a x : Nat} {v h p : Int32} (hn : n = (m.1 206 17).toNatClampNeg) (h12 : n < 1200) (ha : a < 80) (f : redF m M n a x v h p) (a' : Nat) (ha' : a' < 80) : rdl M a' = if a' = a then rdl m a' ++ [n] else rdl m a' := by
  obtain ⟨_, _, _, _, _, _, _, f220, _, _, _, _, _, _, _, _, f17⟩ := f
  unfold rdl
  rw [f17, tn_of (by omega), f220, ← hn]
  have rs : ∀ (g : Nat → Int32) (b : Int32), rds g b (n + 1) = if g n = b then rds g b n ++ [n] else rds g b n := fun _ _ => rfl
  rw [rs, pu_at, rds_congr (g := m.1 220) n (fun i hi => pu_ne (by omega))]
  by_cases e : a' = a
  · rw [if_pos e, if_pos (by rw [e])]
  · rw [if_neg e, if_neg (fun q => e ((of_inj (by omega) (by omega)).mp q).symm)]
theorem red_read {m M : rf_m} {n a x : Nat} {v h p : Int32} (j : JRead m) (hn : n = (m.1 206 17).toNatClampNeg) (h12 : n < 1200) (ha : a < 80) (hx : (rdl m a).length = x) (hx20 : x < 20) (iA : ib (Int32.ofNat a) (m.1 206 16)) (iV : v = -2 ∨ iv 0 12959999 v) (iH : iv 0 23 h) (iP : iv 0 7 p) (iD : iv 0 9999 (m.1 206 5)) (f : redF m M n a x v h p) : JRead M := by
  have er := red_rdl hn h12 ha f
  obtain ⟨f0, f32, f33, f34, f36, f40, f216, f220, f221, f222, f223, f224, f26, f7, f19, f206, f17⟩ := f
  obtain ⟨c1, c2, c3, c4⟩ := j
  rw [← hn] at c3
  refine ⟨by rw [f7, f17], ?_, fun r hr => ?_, fun a' ha' => ?_⟩
  · rw [f17]
    exact ⟨of_nn (by omega), (of_le (b := 1200) (by omega) (by omega)).mpr (by omega)⟩
  · rw [f17, tn_of (by omega)] at hr
    rw [f32, f220, f221, f222, f223, f224, f206 16 (by decide) (by decide) (by decide) (by decide)]
    by_cases e : r = n
    · subst e
      refine ⟨?_, ?_, ?_, ?_, ?_, by rw [pu_at]; exact iA, by rw [pu_at]; exact iV, by rw [pu_at]; exact iH, by rw [pu_at]; exact iP, by rw [pu_at]; exact iD⟩
      · rw [pu_ne (by omega), pu_ne (by omega), pu_ne (by omega), pu_ne (by omega), pu_at, pu_at]
      · rw [pu_ne (by omega), pu_ne (by omega), pu_ne (by omega), pu_at, pu_at]
      · rw [pu_ne (by omega), pu_ne (by omega), pu_at, pu_at]
      · rw [pu_ne (by omega), pu_at, pu_at]
      · rw [pu_at, pu_at]
    · have t := c3 r (by omega)
      rw [pu_ne e, pu_ne e, pu_ne e, pu_ne e, pu_ne e]
      have g : ∀ k, k < 5 → pu (pu (pu (pu (pu (m.1 32) (9 * n) (Int32.ofNat a)) (9 * n + 1) v) (9 * n + 2) h) (9 * n + 3) p) (9 * n + 4) (m.1 206 5) (9 * r + k) = m.1 32 (9 * r + k) := fun k hk => by
        rw [pu_ne (by omega), pu_ne (by omega), pu_ne (by omega), pu_ne (by omega), pu_ne (by omega)]
      rw [g 1 (by omega), g 2 (by omega), g 3 (by omega), g 4 (by omega), show 9 * r = 9 * r + 0 from rfl, g 0 (by omega)]
      exact t
  · rw [er a' ha', f34, f33]
    obtain ⟨d1, d2, d3⟩ := c4 a' ha'
    by_cases e : a' = a
    · subst e
      rw [pu_at]
      have el : (if a' = a' then rdl m a' ++ [n] else rdl m a') = rdl m a' ++ [n] := if_pos rfl
      rw [el]
      refine ⟨by rw [List.length_append, hx]; rfl, by rw [List.length_append, hx]; show x + 1 ≤ 20; omega, fun i hi => ?_⟩
      rw [List.length_append, hx] at hi
      have hi' : i < x + 1 := hi
      by_cases q : i = x
      · subst q
        rw [pu_at]
        congr 1
        rw [List.getElem_append_right (by omega)]
        simp [hx]
      · rw [pu_ne (by omega), d3 i (by omega), List.getElem_append_left]
    · have el : (if a' = a then rdl m a' ++ [n] else rdl m a') = rdl m a' := if_neg e
      rw [el, pu_ne (by omega)]
      exact ⟨d1, d2, fun i hi => by rw [pu_ne (by omega)]; exact d3 i hi⟩
theorem red_cnt {c : Nat} {w : rf_w} {m M : rf_m} {n a x : Nat} {v h p : Int32} (J : JCnt c w m) (jc : JCache w m) (jl : JLg w m) (hn : n = (m.1 206 17).toNatClampNeg) (h12 : n < 1200) (ha : a < 80) (hx : (rdl m a).length = x) (hx20 : x < 20) (iA : ib (Int32.ofNat a) (m.1 206 16)) (iV : v = -2 ∨ iv 0 12959999 v) (iH : iv 0 23 h) (iP : iv 0 7 p) (iD : iv 0 9999 (m.1 206 5)) (f : redF m M n a x v h p) : JCnt c w M ∧ JCache w M ∧ JLg w M := by
  obtain ⟨hc, j, js, ju, ja, jm, jd⟩ := J
  have jr := red_read j hn h12 ha hx hx20 iA iV iH iP iD f
  have er := red_rdl hn h12 ha f
  have h80 := ang80 ja
  obtain ⟨f0, f32, f33, f34, f36, f40, f216, f220, f221, f222, f223, f224, f26, f7, f19, f206, f17⟩ := f
  have hnn : Int32.ofNat n = m.1 206 17 := by rw [hn]; exact of_tn j.2.1.1
  have g : ∀ z, z ≠ 0 → z ≠ 26 → z ≠ 32 → z ≠ 33 → z ≠ 34 → z ≠ 36 → z ≠ 40 → z ≠ 206 → z ≠ 216 → (z < 220 ∨ 224 < z) → M.1 z = m.1 z := f0
  have g1 : ∀ z, z = 1 ∨ z = 4 ∨ z = 5 ∨ z = 13 ∨ (19 ≤ z ∧ z ≤ 24) ∨ (28 ≤ z ∧ z ≤ 31) ∨ (37 ≤ z ∧ z ≤ 39) ∨ z = 209 ∨ z = 214 ∨ (217 ≤ z ∧ z ≤ 219) ∨ z = 225 ∨ (230 ≤ z ∧ z ≤ 232) ∨ 306 ≤ z → M.1 z = m.1 z := fun z hz => g z (by omega) (by omega) (by omega) (by omega) (by omega) (by omega) (by omega) (by omega) (by omega) (by omega)
  obtain ⟨l, len, j1, j2, j3, j4, j5, j6, j7, j8, j9, jb⟩ := js
  have el : M.1 l = m.1 l := g1 l (by omega)
  have eR : lgR M l = lgR m l := by unfold lgR; rw [el]
  have eD : lgD M l = lgD m l := by unfold lgD; rw [el]
  have eI : lgI M l = lgI m l := by unfold lgI; rw [el]
  have e18 := f206 18 (by decide) (by decide) (by decide) (by decide)
  have e5 := f206 5 (by decide) (by decide) (by decide) (by decide)
  have nol : ∀ i, i < (m.1 206 18).toNatClampNeg → lgR m l i ≠ Int32.ofNat n := fun i hi q => by
    have b := (jl l j1 i hi).2
    have q2 : m.1 l (3 * i) = Int32.ofNat n := q
    rw [q2, hnn] at b
    exact Int32.lt_irrefl b
  have none := strk_none (D := lgD m l) (I := lgI m l) (d := m.1 206 5) _ nol
  have jS : JStr c w M := by
    refine ⟨l, len, j1, j2, j3, j4, by rw [f26 17 (by decide) (by decide), e18]; exact j5, by rw [e18]; exact j6, by rw [e18]; exact j7, by rw [e18]; exact j8, ?_, ?_⟩
    · rw [e18, e5, eR, eD, eI, g1 37 (by omega), g1 38 (by omega), g1 39 (by omega)]
      exact j9
    · rw [e18, e5, eR, eD, eI, f17, tn_of (by omega), f36, f216]
      intro r hr
      by_cases e : r = n
      · rw [e, pu_at, pu_at, none.1, none.2]; exact ⟨rfl, rfl⟩
      · rw [pu_ne e, pu_ne e]; exact jb r (by omega)
  have jU : JRule w M := by
    unfold JRule
    rw [f206 39 (by decide) (by decide) (by decide) (by decide), g1 13 (by omega)]
    refine ⟨ju.1, ju.2.1, fun r hr => ?_⟩
    obtain ⟨k, hk⟩ := ju.2.2 r hr
    have q6 := hk.2.1.2.2.2.2.2
    exact ⟨k, rul_w hk rfl hk.2.1 (g1 k (by omega)) (g1 (k + 1) (by omega)) (g1 (k + 2) (by omega)) (fun z h1 h2 => g1 z (by omega))⟩
  have sk : ∀ N d, stkV M N d = stkV m N d := fun N d => by
    unfold stkV dueP tstP
    rw [f206 39 (by decide) (by decide) (by decide) (by decide), g1 19 (by omega), g1 20 (by omega), g1 21 (by omega), g1 22 (by omega), g1 23 (by omega), g1 24 (by omega)]
  refine ⟨⟨hc, jr, jS, jU, ?_, ?_, ?_⟩, ⟨fun a' ha' hz => ?_, fun hz => ?_⟩, fun l2 hl2 i hi => ?_⟩
  · unfold JAng
    rw [f26 6 (by decide) (by decide), f206 16 (by decide) (by decide) (by decide) (by decide), f206 4 (by decide) (by decide) (by decide) (by decide), g1 28 (by omega), g1 29 (by omega), g1 30 (by omega), g1 217 (by omega), g1 218 (by omega), g1 219 (by omega)]
    exact ja
  · unfold JMark
    rw [f206 4 (by decide) (by decide) (by decide) (by decide), g1 1 (by omega), g1 4 (by omega), g1 5 (by omega), g1 209 (by omega), g1 214 (by omega)]
    exact jm
  · unfold JDay
    rw [e5, f224]
    exact ⟨pu_all jd.1 iD, jd.2⟩
  · rw [f206 16 (by decide) (by decide) (by decide) (by decide)] at ha'
    rw [f40] at hz
    have ne : a' ≠ a := fun e => by rw [e, pu_at] at hz; exact absurd hz (by decide)
    rw [pu_ne ne] at hz
    have eq : eqR w w m M a' := by
      refine ⟨by rw [er a' (by omega), if_neg ne], fun r hr => ?_, by rw [g1 217 (by omega)], sk⟩
      obtain ⟨q1, _⟩ := rds_lt _ _ hr
      have rn : r ≠ n := by omega
      refine ⟨by rw [f221, pu_ne rn], by rw [f222, pu_ne rn], by rw [f223, pu_ne rn], by rw [f224, pu_ne rn], fun d => ?_⟩
      unfold svV
      rw [j1, e18]
      show strk (lgR M l) (lgD M l) (lgI M l) _ _ _ = strk (lgR m l) (lgD m l) (lgI m l) _ _ _
      rw [eR, eD, eI]
    have hf := jc.1 a' ha' hz
    refine R_fre eq ⟨?_, fun r hr => ?_⟩
    · have := hf.1
      unfold tal at this ⊢
      rw [g1 31 (by omega), f34, pu_ne (by omega), pu_ne (by omega), pu_ne (by omega), pu_ne (by omega), pu_ne (by omega), pu_ne (by omega), pu_ne (by omega)]
      exact this
    · have := hf.2 r hr
      obtain ⟨q1, _⟩ := rds_lt _ _ hr
      unfold fact4 at this ⊢
      have gg : ∀ k, k < 9 → M.1 32 (9 * r + k) = m.1 32 (9 * r + k) := fun k hk => by
        rw [f32, pu_ne (by omega), pu_ne (by omega), pu_ne (by omega), pu_ne (by omega), pu_ne (by omega)]
      rw [gg 5 (by omega), gg 6 (by omega), gg 7 (by omega), gg 8 (by omega)]
      exact this
  · rw [f19] at hz; exact absurd hz (by decide)
  · have e2 : l2 = l := by rw [j1] at hl2; exact (Option.some.inj hl2).symm
    rw [e18] at hi
    rw [e2, el, f17]
    have b := jl l j1 i hi
    refine ⟨b.1, Int32.lt_of_lt_of_le b.2 ?_⟩
    rw [← hnn]
    exact (of_le (by omega) (by omega)).mpr (by omega)
end PBReadJ
