/-! north and steps: the two calls -/
section PBNorth2
theorem fs_two {A B T : Nat → Int32} {n x y : Nat} {S N R S' N' R' : Int32} (hT : ∀ i, iv 0 12959999 (T i)) (hn : n ≤ 20) (f1 : fsT A B T n (-2) x y S N R) (f2 : fsT A B T n (-1) x y S' N' R') : (S = -2 ∧ S' = -1) ∨ (S = 0 ∧ S' = 0 ∧ N' = N ∧ iv 0 12959999 N ∧ R' = R ∧ (R = Int32.ofNat x ∨ R = Int32.ofNat y)) := by
  by_cases c1 : stC A B (Int32.ofNat x) (Int32.ofNat y) n = 0
  · by_cases c2 : stC A B (Int32.ofNat y) (Int32.ofNat x) n = 0
    · exact Or.inl ⟨f1.1 c1 c2, f2.1 c1 c2⟩
    · obtain ⟨a1, a2, a3⟩ := f1.2.2 c1 c2
      obtain ⟨b1, b2, b3⟩ := f2.2.2 c1 c2
      refine Or.inr ⟨a1, b1, by rw [a2, b2], ?_, by rw [a3, b3], Or.inr a3⟩
      rw [a2]
      rcases own_rng (A := A) (B := B) (T := T) (x := Int32.ofNat y) (y := Int32.ofNat x) hT hn with q | q
      · exact absurd q.1 c2
      · exact hlf_rng q.2
  · obtain ⟨a1, a2, a3⟩ := f1.2.1 c1
    obtain ⟨b1, b2, b3⟩ := f2.2.1 c1
    refine Or.inr ⟨a1, b1, by rw [a2, b2], ?_, by rw [a3, b3], Or.inl a3⟩
    rw [a2]
    rcases own_rng (A := A) (B := B) (T := T) (x := Int32.ofNat x) (y := Int32.ofNat y) hT hn with q | q
    · exact absurd q.1 c1
    · exact q.2
theorem fs_sym {A B T : Nat → Int32} {n x y : Nat} {S N R S' N' R' : Int32} (f1 : fsT A B T n (-2) x y S N R) (f2 : fsT A B T n (-2) y x S' N' R') : S' = S := by
  by_cases c1 : stC A B (Int32.ofNat x) (Int32.ofNat y) n = 0
  · by_cases c2 : stC A B (Int32.ofNat y) (Int32.ofNat x) n = 0
    · rw [f1.1 c1 c2, f2.1 c2 c1]
    · rw [(f1.2.2 c1 c2).1, (f2.2.1 c2).1]
  · by_cases c2 : stC A B (Int32.ofNat y) (Int32.ofNat x) n = 0
    · rw [(f1.2.1 c1).1, (f2.2.2 c2 c1).1]
    · rw [(f1.2.1 c1).1, (f2.2.1 c2).1]
def frN (M0 MR : rf_m) : Prop := (∀ z, z ≠ 206 → z ≠ 226 → z ≠ 227 → z ≠ 228 → z ≠ 235 → z ≠ 248 → (z < 292 ∨ 297 < z) → MR.1 z = M0.1 z) ∧ (∀ k, k < 33 ∨ 38 < k → MR.1 206 k = M0.1 206 k) ∧ MR.2 = M0.2
theorem bs0 {B BR : rf_m} {A_ B_ T : Nat → Int32} {K A n : Nat} (hK : K ≤ 30) (hT : ∀ i, iv 0 12959999 (T i)) (hn : n ≤ 20) (h1 : ∀ x y, x < 30 → y < 30 → fsT A_ B_ T n (-2) x y (B.1 197 (30 * x + y)) (B.1 198 (30 * x + y)) (B.1 199 (30 * x + y))) (h2 : ∀ x y, x < K → y < K → (x ≠ y → fsT A_ B_ T n (-1) x y (BR.1 293 (30 * x + y)) (BR.1 292 (30 * x + y)) (BR.1 294 (30 * x + y)))) : BS B BR K A 0 (fun p => (B.1 199 p).toNatClampNeg) (fun p => (B.1 199 p).toNatClampNeg) := by
  have two : ∀ p, vs K p → (B.1 197 p = -2 ∧ BR.1 293 p = -1) ∨ (B.1 197 p = 0 ∧ BR.1 293 p = 0 ∧ BR.1 292 p = B.1 198 p ∧ iv 0 12959999 (B.1 198 p) ∧ BR.1 294 p = B.1 199 p ∧ (B.1 199 p = Int32.ofNat (p / 30) ∨ B.1 199 p = Int32.ofNat (p % 30))) := by
    intro p hp
    have e : 30 * (p / 30) + p % 30 = p := by omega
    obtain ⟨v1, v2, v3⟩ := hp
    have a := fs_two hT hn (h1 (p / 30) (p % 30) (by omega) (by omega)) (h2 (p / 30) (p % 30) v1 v2 v3)
    rw [e] at a
    exact a
  refine ⟨fun p hp => ?_, fun p hp => ?_, fun p hp hs => ?_, fun p q hp hq a b => Iff.rfl⟩
  · rcases two p hp with q | ⟨q1, q2, q3, q4, _⟩
    · exact Or.inl q
    · exact Or.inr ⟨0, Nat.le_refl _, q1, q2, q3, q4⟩
  · obtain ⟨v1, v2, v3⟩ := hp
    have e : 30 * (p / 30) + p % 30 = p := by omega
    have a := fs_sym (h1 (p / 30) (p % 30) (by omega) (by omega)) (h1 (p % 30) (p / 30) (by omega) (by omega))
    rw [e] at a
    exact a
  · rcases two p hp with q | ⟨q1, q2, q3, q4, q5, q6⟩
    · rw [q.1] at hs; exact absurd hs (by decide)
    · obtain ⟨v1, v2, v3⟩ := hp
      show B.1 199 p = Int32.ofNat (B.1 199 p).toNatClampNeg ∧ BR.1 294 p = Int32.ofNat (B.1 199 p).toNatClampNeg ∧ (B.1 199 p).toNatClampNeg ≤ 200 ∧ (B.1 199 p).toNatClampNeg ≤ 1000
      rw [q5]
      rcases q6 with q6 | q6
      · rw [q6, tn_of (by omega)]; exact ⟨rfl, rfl, by omega, by omega⟩
      · rw [q6, tn_of (by omega)]; exact ⟨rfl, rfl, by omega, by omega⟩
theorem bv_sm {α : Type} {a : rf_m} {f : rf_m → Option α} : rf_bv (some a) f = f a := rfl
theorem b_sm {α β : Type} {a : α} {m : rf_m} {f : α → rf_m → Option β} : rf_b (some (a, m)) f = f a m := rfl
theorem cn_start {w : rf_w} {m m1 B MC : rf_m} {a b : Int32} (h1 : g_J7_fill_53178__197_5 w rf_fuel (-2) (Int32.ofNat 0) 900 m = some m1) (h2 : g_X10_takeStars w m1 = some B) (h3 : g_X10_carryNorth_18 w rf_fuel a b 1 1 B = some MC) : g_X10_carryNorth w m a b = some MC := by
  rw [show Int32.ofNat 0 = (0 : Int32) from rfl] at h1
  unfold g_X10_carryNorth g_J7_fill_53178__197
  rw [h1]
  show rf_bv (g_X10_takeStars w m1) _ = _
  rw [h2]
  exact h3
theorem north_c {w : rf_w} {m m2 : rf_m} (jm : JMark m) (js : JSight m) (cc : ∀ z, z ≠ 18 → z ≠ 25 → z ≠ 26 → z ≠ 31 → z ≠ 32 → z ≠ 34 → z ≠ 35 → z ≠ 40 → m2.1 z = m.1 z) : ∃ B, (∀ a b MC, g_X10_carryNorth_18 w rf_fuel a b 1 1 B = some MC → g_X10_carryNorth w m2 a b = some MC) ∧ (∀ z, z ≠ 197 → z ≠ 198 → z ≠ 199 → B.1 z = m2.1 z) ∧ B.2 = m2.2 ∧ ∀ x y, x < 30 → y < 30 → fsT (m.1 289) (m.1 290) (m.1 291) (m.1 206 126).toNatClampNeg (-2) x y (B.1 197 (30 * x + y)) (B.1 198 (30 * x + y)) (B.1 199 (30 * x + y)) := by
  have hN := of_tn js.2.1.1
  have hN20 : (m.1 206 126).toNatClampNeg ≤ 20 := tn_le js.2.1.1 js.2.1.2 (by decide)
  have fl := fill197 (w := w) (v := -2) 900 rf_fuel 0 m2 (by omega) (by unfold rf_fuel; omega)
  generalize hm1 : stc m2 197 (fun k => if 0 ≤ k ∧ k < 900 then -2 else m2.1 197 k) = m1 at fl
  have c1 : ∀ z, z ≠ 197 → m1.1 z = m2.1 z := fun z hz => by rw [← hm1, stc_c, if_neg hz]
  have c2 : ∀ p, p < 900 → m1.1 197 p = -2 := fun p hp => by
    rw [← hm1, stc_c, if_pos rfl]
    exact if_pos ⟨Nat.zero_le _, hp⟩
  have c3 : m1.2 = m2.2 := by rw [← hm1, stc_l]
  have g193 : m1.1 193 = m.1 193 := by rw [c1 193 (by decide), cc 193 (by decide) (by decide) (by decide) (by decide) (by decide) (by decide) (by decide) (by decide)]
  have g194 : m1.1 194 = m.1 289 := by rw [c1 194 (by decide), cc 194 (by decide) (by decide) (by decide) (by decide) (by decide) (by decide) (by decide) (by decide), js.2.2.1]
  have g195 : m1.1 195 = m.1 290 := by rw [c1 195 (by decide), cc 195 (by decide) (by decide) (by decide) (by decide) (by decide) (by decide) (by decide) (by decide), js.2.2.2.1]
  have g196 : m1.1 196 = m.1 291 := by rw [c1 196 (by decide), cc 196 (by decide) (by decide) (by decide) (by decide) (by decide) (by decide) (by decide) (by decide), js.2.2.2.2.1]
  obtain ⟨B, b1, b2, b3, b4⟩ := stars_c (w := w) (m := m1) (n := (m.1 206 126).toNatClampNeg)
    (by rw [g193, hN]; exact js.1) hN20
    (fun i => by rw [g196]; exact js.2.2.2.2.2.1 i)
    (fun i hi => by
      rw [g194, g195]
      obtain ⟨⟨z1, z2⟩, ⟨z3, z4⟩, _⟩ := js.2.2.2.2.2.2 i hi
      exact ⟨⟨z1, Int32.lt_of_lt_of_le z2 jm.2.1.2⟩, ⟨z3, Int32.lt_of_lt_of_le z4 jm.2.1.2⟩⟩)
    c2
  rw [g194, g195, g196] at b4
  exact ⟨B, fun a b MC h3 => cn_start fl b1 h3, fun z z1 z2 z3 => by rw [b2 z z1 z2 z3, c1 z z1], by rw [b3, c3], b4⟩
theorem north_r {c : Nat} {w : rf_w} {m M0 : rf_m} (J : JCnt c w m) (js : JSight m) (hA0 : mA m M0) (e4 : M0.1 206 4 = m.1 206 4) (e126 : M0.1 206 126 = m.1 206 126) (e289 : M0.1 289 = m.1 289) (e290 : M0.1 290 = m.1 290) (e291 : M0.1 291 = m.1 291) : ∃ R2, (∀ MR, g_X14_norths_159 w rf_fuel 1 0 R2 = some MR → g_X14_norths w M0 = some MR) ∧ mA m R2 ∧ R2.1 206 4 = m.1 206 4 ∧ (∀ z, z ≠ 206 → z ≠ 226 → z ≠ 227 → z ≠ 228 → z ≠ 235 → z ≠ 248 → z ≠ 292 → z ≠ 293 → z ≠ 294 → R2.1 z = M0.1 z) ∧ (∀ k, k < 33 ∨ 38 < k → R2.1 206 k = M0.1 206 k) ∧ R2.2 = M0.2 ∧ (∀ a, a < (m.1 206 16).toNatClampNeg → R2.1 248 a = meanV w m 9999 a) ∧ ∀ x y, x < (m.1 206 4).toNatClampNeg → y < (m.1 206 4).toNatClampNeg → x ≠ y → fsT (m.1 289) (m.1 290) (m.1 291) (m.1 206 126).toNatClampNeg (-1) x y (R2.1 293 (30 * x + y)) (R2.1 292 (30 * x + y)) (R2.1 294 (30 * x + y)) := by
  have jm := J.2.2.2.2.2.1
  have hK := of_tn jm.2.1.1
  have hK30 : (m.1 206 4).toNatClampNeg ≤ 30 := tn_le jm.2.1.1 jm.2.1.2 (by decide)
  have hN := of_tn js.2.1.1
  have hN20 : (m.1 206 126).toNatClampNeg ≤ 20 := tn_le js.2.1.1 js.2.1.2 (by decide)
  obtain ⟨R1, r1, r2, r3, r4⟩ := stars_r (w := w) (m := M0) (n := (m.1 206 126).toNatClampNeg) (K := (m.1 206 4).toNatClampNeg) (by rw [e126, hN]) hN20 (by rw [e4, hK]) hK30 (fun i => by rw [e291]; exact js.2.2.2.2.2.1 i)
  rw [e289, e290, e291] at r4
  have hA1 : mA m R1 := mA_x hA0 (fun z hz => r2 z (by omega) (by omega) (by omega)) (fun k hk => by rw [r2 206 (by decide) (by decide) (by decide)])
  obtain ⟨R2, s1, s2, s3⟩ := allMeans_r J hA1
  refine ⟨R2, fun MR h => ?_, meF_mA hA1 s2, ?_, fun z z1 z2 z3 z4 z5 z6 z7 z8 z9 => ?_, fun k hk => ?_, ?_, s3, fun x y hx hy hxy => ?_⟩
  · rw [r1, s1, bv_sm, h]
  · rw [s2.2.1 4 (by omega), r2 206 (by decide) (by decide) (by decide), e4]
  · rw [s2.1 z z1 z2 z3 z4 z5 z6, r2 z z7 z8 z9]
  · rw [s2.2.1 k hk, r2 206 (by decide) (by decide) (by decide)]
  · rw [s2.2.2, r3]
  · rw [s2.1 293 (by decide) (by decide) (by decide) (by decide) (by decide) (by decide), s2.1 292 (by decide) (by decide) (by decide) (by decide) (by decide) (by decide), s2.1 294 (by decide) (by decide) (by decide) (by decide) (by decide) (by decide)]
    exact (r4 x y hx hy).1 hxy
theorem north_as {c : Nat} {w : rf_w} {m m2 B R2 : rf_m} (J : JCnt c w m) (h : allF w m m2) (b2' : ∀ z, z ≠ 197 → z ≠ 198 → z ≠ 199 → B.1 z = m2.1 z) (hA2 : mA m R2) (s3 : ∀ a, a < (m.1 206 16).toNatClampNeg → R2.1 248 a = meanV w m 9999 a) : AS B R2 (m.1 206 4).toNatClampNeg (m.1 206 16).toNatClampNeg (fun a => (m.1 217 a).toNatClampNeg) (fun a => (m.1 218 a).toNatClampNeg) (fun a => (m.1 219 a).toNatClampNeg) (fun a => meanV w m 9999 a) := by
  have ja := J.2.2.2.2.1
  have h80 := ang80 ja
  have hA := of_tn ja.2.1.1
  have cc : ∀ z, z ≠ 18 → z ≠ 25 → z ≠ 26 → z ≠ 31 → z ≠ 32 → z ≠ 34 → z ≠ 35 → z ≠ 40 → m2.1 z = m.1 z := h.1
  refine ⟨?_, ?_, fun a ha => ?_⟩
  · rw [b2' 26 (by decide) (by decide) (by decide), h.2.1 6 (by decide), hA]; exact ja.1
  · rw [hA2.2.2.1, hA]
  · obtain ⟨⟨z1, z2⟩, ⟨z3, z4⟩, ⟨z5, z6⟩, z7, z8, z9⟩ := ja.2.2.2.2.2 a ha
    have o1 := of_tn z1
    have o2 := of_tn z3
    have o3 := of_tn z5
    refine ⟨?_, ?_, ?_, ?_, ?_, ?_, ?_, s3 a ha, tn_lt2 z1 z2, tn_lt2 z3 z4, tn_lt2 z5 z6, fun q => z7 ?_, fun q => z8 ?_, mean_up J (by omega)⟩
    · rw [b2' 28 (by decide) (by decide) (by decide), cc 28 (by decide) (by decide) (by decide) (by decide) (by decide) (by decide) (by decide) (by decide), ja.2.2.1, o1]
    · rw [b2' 29 (by decide) (by decide) (by decide), cc 29 (by decide) (by decide) (by decide) (by decide) (by decide) (by decide) (by decide) (by decide), ja.2.2.2.1, o2]
    · rw [b2' 30 (by decide) (by decide) (by decide), cc 30 (by decide) (by decide) (by decide) (by decide) (by decide) (by decide) (by decide) (by decide), ja.2.2.2.2.1, o3]
    · rw [b2' 31 (by decide) (by decide) (by decide)]; exact (h.2.2.2.2.2 a ha).2.1.1
    · rw [hA2.1 217 (by omega), o1]
    · rw [hA2.1 218 (by omega), o2]
    · rw [hA2.1 219 (by omega), o3]
    · rw [← o1, ← o2]; exact congrArg Int32.ofNat q
    · rw [← o1, ← o3]; exact congrArg Int32.ofNat q
theorem north_pre {c : Nat} {w : rf_w} {m m2 M0 : rf_m} {x y : Nat} (J : JCnt c w m) (js : JSight m) (h : allF w m m2) (hA0 : mA m M0) (e4 : M0.1 206 4 = m.1 206 4) (e126 : M0.1 206 126 = m.1 206 126) (e289 : M0.1 289 = m.1 289) (e290 : M0.1 290 = m.1 290) (e291 : M0.1 291 = m.1 291) (hx : x < (m.1 206 4).toNatClampNeg) (hy : y < (m.1 206 4).toNatClampNeg) (hxy : x ≠ y) : ∃ MR MC, g_X14_norths w M0 = some MR ∧ g_X10_carryNorth w m2 (Int32.ofNat x) (Int32.ofNat y) = some MC ∧ frC2 m2 MC ∧ frN M0 MR ∧ agr MC MR (30 * x + y) := by
  have jm := J.2.2.2.2.2.1
  have hK := of_tn jm.2.1.1
  have hK30 : (m.1 206 4).toNatClampNeg ≤ 30 := tn_le jm.2.1.1 jm.2.1.2 (by decide)
  have hN20 : (m.1 206 126).toNatClampNeg ≤ 20 := tn_le js.2.1.1 js.2.1.2 (by decide)
  have h80 := ang80 J.2.2.2.2.1
  obtain ⟨B, b1, b2, b3, b4⟩ := north_c (w := w) jm js h.1
  obtain ⟨R2, r1, r2, r3, r4, r5, r6, r7, r8⟩ := north_r J js hA0 e4 e126 e289 e290 e291
  have hAS := north_as J h b2 r2 r7
  have hBS := bs0 (A := (m.1 206 16).toNatClampNeg) hK30 js.2.2.2.2.2.1 hN20 b4 r8
  have hF : 1000 < rf_fuel := by unfold rf_fuel; omega
  generalize hf : rf_fuel = F at hF b1 r1
  generalize (m.1 206 16).toNatClampNeg = A at h80 hAS hBS
  generalize (fun a => (m.1 217 a).toNatClampNeg) = f1 at hAS
  generalize (fun a => (m.1 218 a).toNatClampNeg) = f2 at hAS
  generalize (fun a => (m.1 219 a).toNatClampNeg) = f3 at hAS
  generalize (fun p => (B.1 199 p).toNatClampNeg) = ρ at hBS
  have hU : Us (B.1 197) A f1 f2 f3 ≤ A := cnt_le (P := fun a => B.1 197 (30 * f1 a + f2 a) ≠ -2 ∧ B.1 197 (30 * f1 a + f3 a) ≠ -2) A
  obtain ⟨MR, w1, w2, _, MC, w3, w4, w5⟩ := walk (w := w) hK30 h80 hx hy hxy (A - Us (B.1 197) A f1 f2 f3) 0 F F B R2 ρ ρ (by omega) (Nat.zero_le _) (by omega) (by omega) (by rw [r3, hK]) hBS hAS
  refine ⟨MR, MC, r1 MR w1, b1 _ _ MC w3, ?_, ?_, w5⟩
  · exact frC2_t ⟨fun z z1 z2 z3 z4 z5 z6 => b2 z z2 z3 z4, fun k hk => by rw [b2 193 (by decide) (by decide) (by decide)], b3⟩ w4
  · refine ⟨fun z z1 z2 z3 z4 z5 z6 z7 => ?_, fun k hk => ?_, ?_⟩
    · rw [w2.1 z z7, r4 z z1 z2 z3 z4 z5 z6 (by omega) (by omega) (by omega)]
    · rw [w2.1 206 (by decide), r5 k hk]
    · rw [w2.2, r6]
theorem north_both {c : Nat} {w : rf_w} {m m2 : rf_m} {x y : Nat} (J : JCnt c w m) (js : JSight m) (h : allF w m m2) (hx : x < (m.1 206 4).toNatClampNeg) (hy : y < (m.1 206 4).toNatClampNeg) (hxy : x ≠ y) : ∃ MC MR, g_X10_carryNorth w m2 (Int32.ofNat x) (Int32.ofNat y) = some MC ∧ (rf_i MC 206 0 0).1 206 4 = m.1 206 4 ∧ g_X14_norths w (rf_i MC 206 0 0) = some MR ∧ agr MC MR (30 * x + y) ∧ JCnt c w MR ∧ JCache w MR := by
  have cc : ∀ z, z ≠ 18 → z ≠ 25 → z ≠ 26 → z ≠ 31 → z ≠ 32 → z ≠ 34 → z ≠ 35 → z ≠ 40 → m2.1 z = m.1 z := h.1
  have c206 := cc 206 (by decide) (by decide) (by decide) (by decide) (by decide) (by decide) (by decide) (by decide)
  have c289 := cc 289 (by decide) (by decide) (by decide) (by decide) (by decide) (by decide) (by decide) (by decide)
  have c290 := cc 290 (by decide) (by decide) (by decide) (by decide) (by decide) (by decide) (by decide) (by decide)
  have c291 := cc 291 (by decide) (by decide) (by decide) (by decide) (by decide) (by decide) (by decide) (by decide)
  obtain ⟨_, MC, _, a2, a3, _, _⟩ := north_pre J js h (mA_all h) (by rw [rf_i_c, if_pos rfl, pu_ne (by decide), c206]) (by rw [rf_i_c, if_pos rfl, pu_ne (by decide), c206]) (by rw [rf_i_c, if_neg (by decide), c289]) (by rw [rf_i_c, if_neg (by decide), c290]) (by rw [rf_i_c, if_neg (by decide), c291]) hx hy hxy
  have d206 := a3.1 206 (by decide) (by decide) (by decide) (by decide) (by decide) (by decide)
  have d289 := a3.1 289 (by decide) (by decide) (by decide) (by decide) (by decide) (by decide)
  have d290 := a3.1 290 (by decide) (by decide) (by decide) (by decide) (by decide) (by decide)
  have d291 := a3.1 291 (by decide) (by decide) (by decide) (by decide) (by decide) (by decide)
  have k4 : (rf_i MC 206 0 0).1 206 4 = m.1 206 4 := by rw [rf_i_c, if_pos rfl, pu_ne (by decide), d206, c206]
  have hA : mA m (rf_i MC 206 0 0) := mA_x (mA_all h) (fun z hz => by rw [rf_i_c, if_neg (by omega), rf_i_c, if_neg (by omega), a3.1 z (by omega) (by omega) (by omega) (by omega) (by omega) (by omega)]) (fun k hk => by rw [rf_i_c, if_pos rfl, rf_i_c, if_pos rfl, d206])
  obtain ⟨MR, MC', b1, b2, _, b4, b5⟩ := north_pre J js h hA k4 (by rw [rf_i_c, if_pos rfl, pu_ne (by decide), d206, c206]) (by rw [rf_i_c, if_neg (by decide), d289, c289]) (by rw [rf_i_c, if_neg (by decide), d290, c290]) (by rw [rf_i_c, if_neg (by decide), d291, c291]) hx hy hxy
  rw [a2] at b2
  have eM : MC = MC' := Option.some.inj b2
  rw [← eM] at b5
  refine ⟨MC, MR, a2, k4, b1, b5, ?_⟩
  refine fin_x J h (fun z z1 z2 z3 z4 => ?_) (fun k hk => ?_)
  · rw [b4.1 z (by omega) (by omega) (by omega) (by omega) (by omega) (by omega) (by omega), rf_i_c, if_neg (by omega), a3.1 z (by omega) (by omega) (by omega) (by omega) (by omega) (by omega)]
  · rw [b4.2.1 k (by omega), rf_i_c, if_pos rfl, pu_ne (by omega), d206]
theorem pair_c {w : rf_w} {m : rf_m} {a b : Int32} (jm : JMark m) : g_X5_isPair w m a b = some (bi (ib a (m.1 206 4) ∧ ib b (m.1 206 4) ∧ a ≠ b), m) := by
  unfold g_X5_isPair
  rw [X5_isMark, jm.1]
  simp only [rf_b]
  by_cases h1 : ib a (m.1 206 4)
  · rw [bi_t h1, if_neg (by decide), X5_isMark, jm.1]
    simp only [rf_b]
    by_cases h2 : ib b (m.1 206 4)
    · rw [bi_t h2, if_neg (by decide)]
      by_cases h3 : a = b
      · rw [if_pos h3, bi_f (fun q => q.2.2 h3)]
      · rw [if_neg h3, bi_t ⟨h1, h2, h3⟩]
    · rw [bi_f h2, if_pos rfl, bi_f (fun q => h2 q.2.1)]
  · rw [bi_f h1, if_pos rfl, bi_f (fun q => h1 q.1)]
theorem north_no {w : rf_w} {m : rf_m} {a b K : Int32} (h4 : (rf_i m 206 0 0).1 206 4 = K) (hp : ¬ (ib a K ∧ ib b K ∧ a ≠ b)) : g_X14_north w m a b = some (-1, rf_i m 206 0 0) := by
  unfold g_X14_north
  rw [X14_isMark, h4]
  simp only [rf_b]
  by_cases h1 : ib a K
  · rw [bi_t h1, if_neg (by decide), X14_isMark, h4]
    simp only [rf_b]
    by_cases h2 : ib b K
    · rw [bi_t h2, if_neg (by decide)]
      by_cases h3 : a = b
      · rw [if_pos h3]
      · exact absurd ⟨h1, h2, h3⟩ hp
    · rw [bi_f h2, if_pos rfl]
  · rw [bi_f h1, if_pos rfl]
theorem north_yes {w : rf_w} {m MR : rf_m} {x y : Nat} {K : Int32} (h4 : (rf_i m 206 0 0).1 206 4 = K) (hx : x < 30) (hy : y < 30) (h1 : ib (Int32.ofNat x) K) (h2 : ib (Int32.ofNat y) K) (h3 : Int32.ofNat x ≠ Int32.ofNat y) (hn : g_X14_norths w (rf_i m 206 0 0) = some MR) : g_X14_north w m (Int32.ofNat x) (Int32.ofNat y) = some (if MR.1 293 (30 * x + y) = -1 then -2 else MR.1 292 (30 * x + y), MR) := by
  unfold g_X14_north
  rw [X14_isMark, h4]
  simp only [rf_b]
  rw [bi_t h1, if_neg (by decide), X14_isMark, h4]
  simp only [rf_b]
  rw [bi_t h2, if_neg (by decide), if_neg h3, hn, bv_sm, o30' hx hy, gof (by omega) (by decide), g_t, g_t, tn_of (by omega)]
  by_cases q : MR.1 293 (30 * x + y) = -1
  · rw [if_pos q, if_pos q]
  · rw [if_neg q, if_neg q]
theorem steps_no {w : rf_w} {m : rf_m} {a b K : Int32} (h4 : (rf_i m 206 0 0).1 206 4 = K) (hp : ¬ (ib a K ∧ ib b K ∧ a ≠ b)) : g_X14_steps w m a b = some (-1, rf_i m 206 0 0) := by
  unfold g_X14_steps
  rw [X14_isMark, h4]
  simp only [rf_b]
  by_cases h1 : ib a K
  · rw [bi_t h1, if_neg (by decide), X14_isMark, h4]
    simp only [rf_b]
    by_cases h2 : ib b K
    · rw [bi_t h2, if_neg (by decide)]
      by_cases h3 : a = b
      · rw [if_pos h3]
      · exact absurd ⟨h1, h2, h3⟩ hp
    · rw [bi_f h2, if_pos rfl]
  · rw [bi_f h1, if_pos rfl]
theorem steps_yes {w : rf_w} {m MR : rf_m} {x y : Nat} {K : Int32} (h4 : (rf_i m 206 0 0).1 206 4 = K) (hx : x < 30) (hy : y < 30) (h1 : ib (Int32.ofNat x) K) (h2 : ib (Int32.ofNat y) K) (h3 : Int32.ofNat x ≠ Int32.ofNat y) (hn : g_X14_norths w (rf_i m 206 0 0) = some MR) : g_X14_steps w m (Int32.ofNat x) (Int32.ofNat y) = some (if MR.1 293 (30 * x + y) = -1 then -2 else MR.1 293 (30 * x + y), MR) := by
  unfold g_X14_steps
  rw [X14_isMark, h4]
  simp only [rf_b]
  rw [bi_t h1, if_neg (by decide), X14_isMark, h4]
  simp only [rf_b]
  rw [bi_t h2, if_neg (by decide), if_neg h3, hn, bv_sm, o30' hx hy, gof (by omega) (by decide), g_t, g_t, tn_of (by omega)]
  by_cases q : MR.1 293 (30 * x + y) = -1
  · rw [if_pos q, if_pos q]
  · rw [if_neg q, if_neg q]
theorem k45 {c : Nat} {w : rf_w} {m : rf_m} {y : Nat → Int32} (J : JCnt c w m) (jc : JCache w m) (js : JSight m) : wp (g_lc_45 w m y) (fun r => r.1 = w ∧ JCnt c w r.2 ∧ JCache w r.2) := by
  have jm := J.2.2.2.2.2.1
  unfold g_lc_45 g_X11_north
  rw [pair_c jm]
  by_cases hp : ib (y 1) (m.1 206 4) ∧ ib (y 2) (m.1 206 4) ∧ y 1 ≠ y 2
  · rw [bi_t hp]
    obtain ⟨m2, e1, e2⟩ := freshenAll_c J jc
    have ex := of_tn hp.1.1
    have ey := of_tn hp.2.1.1
    have lx := tn_lt2 hp.1.1 hp.1.2
    have ly := tn_lt2 hp.2.1.1 hp.2.1.2
    have l30 : (m.1 206 4).toNatClampNeg ≤ 30 := tn_le jm.2.1.1 jm.2.1.2 (by decide)
    generalize (y 1).toNatClampNeg = x at ex lx
    generalize (y 2).toNatClampNeg = z at ey ly
    rw [← ex, ← ey] at hp ⊢
    obtain ⟨MC, MR, a1, a2, a3, a4, a5, a6⟩ := north_both J js e2 lx ly (fun q => hp.2.2 (congrArg Int32.ofNat q))
    have r := north_yes a2 (by omega) (by omega) hp.1 hp.2.1 hp.2.2 a3
    have cl : g_X10_northOf w MC (Int32.ofNat x) (Int32.ofNat z) = some (if MR.1 293 (30 * x + z) = -1 then -2 else MR.1 292 (30 * x + z), MC) := by
      unfold g_X10_northOf g_X10_sight
      simp only [rf_b]
      rw [o30 (by omega) (by omega), gof (by omega) (by decide), g_t, tn_of (by omega)]
      rcases a4 with ⟨q1, q2⟩ | ⟨e, he, q1, q2, q3⟩
      · rw [q1, q2, if_neg (by decide), if_pos rfl]
      · rw [q1, if_pos (of_nn (by omega)), g_t, q2, if_neg (of_ne_m1 (by omega)), q3]
    rw [b_sm, if_neg (by decide), e1, bv_sm, a1, bv_sm, cl, b_sm, b_sm, r, b_sm, decide_eq_true rfl, g_t, wp_some]
    exact ⟨rfl, a5, a6⟩
  · rw [bi_f hp]
    have k4 : (rf_i m 206 0 0).1 206 4 = m.1 206 4 := by rw [rf_i_c, if_pos rfl, pu_ne (by decide)]
    rw [b_sm, if_pos rfl, b_sm, north_no k4 hp, b_sm, decide_eq_true rfl, g_t, wp_some]
    exact ⟨rfl, cache_i0 J jc⟩
theorem k46 {c : Nat} {w : rf_w} {m : rf_m} {y : Nat → Int32} (J : JCnt c w m) (jc : JCache w m) (js : JSight m) : wp (g_lc_46 w m y) (fun r => r.1 = w ∧ JCnt c w r.2 ∧ JCache w r.2) := by
  have jm := J.2.2.2.2.2.1
  unfold g_lc_46 g_X11_steps
  rw [pair_c jm]
  by_cases hp : ib (y 1) (m.1 206 4) ∧ ib (y 2) (m.1 206 4) ∧ y 1 ≠ y 2
  · rw [bi_t hp]
    obtain ⟨m2, e1, e2⟩ := freshenAll_c J jc
    have ex := of_tn hp.1.1
    have ey := of_tn hp.2.1.1
    have lx := tn_lt2 hp.1.1 hp.1.2
    have ly := tn_lt2 hp.2.1.1 hp.2.1.2
    have l30 : (m.1 206 4).toNatClampNeg ≤ 30 := tn_le jm.2.1.1 jm.2.1.2 (by decide)
    generalize (y 1).toNatClampNeg = x at ex lx
    generalize (y 2).toNatClampNeg = z at ey ly
    rw [← ex, ← ey] at hp ⊢
    obtain ⟨MC, MR, a1, a2, a3, a4, a5, a6⟩ := north_both J js e2 lx ly (fun q => hp.2.2 (congrArg Int32.ofNat q))
    have r := steps_yes a2 (by omega) (by omega) hp.1 hp.2.1 hp.2.2 a3
    have cl : g_X10_stepsOf w MC (Int32.ofNat x) (Int32.ofNat z) = some (if MR.1 293 (30 * x + z) = -1 then -2 else MR.1 293 (30 * x + z), MC) := by
      unfold g_X10_stepsOf g_X10_sight
      simp only [rf_b]
      rw [o30 (by omega) (by omega), gof (by omega) (by decide), g_t, tn_of (by omega)]
      rcases a4 with ⟨q1, q2⟩ | ⟨e, he, q1, q2, q3⟩
      · rw [q1, q2, if_pos rfl]
      · rw [q1, q2, if_neg (of_ne_m1 (by omega))]
    rw [b_sm, if_neg (by decide), e1, bv_sm, a1, bv_sm, cl, b_sm, b_sm, r, b_sm, decide_eq_true rfl, g_t, wp_some]
    exact ⟨rfl, a5, a6⟩
  · rw [bi_f hp]
    have k4 : (rf_i m 206 0 0).1 206 4 = m.1 206 4 := by rw [rf_i_c, if_pos rfl, pu_ne (by decide)]
    rw [b_sm, if_pos rfl, b_sm, steps_no k4 hp, b_sm, decide_eq_true rfl, g_t, wp_some]
    exact ⟨rfl, cache_i0 J jc⟩
end PBNorth2
