/-! adjust: what stands at the end -/
section PBFinA
def JWt (m : rf_m) : Prop := ∀ a, a < 80 → 0 ≤ (m.1 57 a).toInt ∧ (m.1 57 a).toInt ≤ 2520
def biF (X Y : rf_m) : Prop := (∀ z, z ≠ 0 → z ≠ 18 → ¬ (55 ≤ z ∧ z ≤ 174) → z ≠ 206 → ¬ (226 ≤ z ∧ z ≤ 228) → z ≠ 235 → ¬ (248 ≤ z ∧ z ≤ 265) → Y.1 z = X.1 z) ∧ (∀ k, k ≠ 11 → Y.1 0 k = X.1 0 k) ∧ (∀ k, 2 < k → ¬ (33 ≤ k ∧ k ≤ 38) → k ≠ 88 → Y.1 206 k = X.1 206 k)
theorem biF_trans {a b c : rf_m} (h : biF a b) (k : biF b c) : biF a c := ⟨fun z h1 h2 h3 h4 h5 h6 h7 => (k.1 z h1 h2 h3 h4 h5 h6 h7).trans (h.1 z h1 h2 h3 h4 h5 h6 h7), fun z h1 => (k.2.1 z h1).trans (h.2.1 z h1), fun z h1 h2 h3 => (k.2.2 z h1 h2 h3).trans (h.2.2 z h1 h2 h3)⟩
def cF (X Y : rf_m) : Prop := (∀ z, z ≠ 0 → z ≠ 18 → ¬ (55 ≤ z ∧ z ≤ 174) → Y.1 z = X.1 z) ∧ ∀ k, k ≠ 11 → Y.1 0 k = X.1 0 k
theorem cF_trans {a b c : rf_m} (h : cF a b) (k : cF b c) : cF a c := ⟨fun z h1 h2 h3 => (k.1 z h1 h2 h3).trans (h.1 z h1 h2 h3), fun z h1 => (k.2 z h1).trans (h.2 z h1)⟩
theorem cF_bi {a b : rf_m} (h : cF a b) : biF a b := ⟨fun z h1 h2 h3 _ _ _ _ => h.1 z h1 h2 h3, h.2, fun k _ _ _ => by rw [h.1 206 (by decide) (by decide) (by decide)]⟩
theorem cF_ga {a b : rf_m} (h : gaF a b) : cF a b := ⟨fun z _ _ h3 => h.1 z (by omega) (by omega) (by omega), fun k _ => by rw [h.1 0 (by decide) (by decide) (by decide)]⟩
theorem cF_we {a b : rf_m} (h : weF a b) : cF a b := ⟨fun z _ h2 h3 => h.1 z h2 (by omega), fun k _ => by rw [h.1 0 (by decide) (by decide)]⟩
theorem cF_sl {a b : rf_m} (h : slF a b) : cF a b := ⟨fun z _ _ h3 => h.1 z (by omega), fun k _ => by rw [h.1 0 (by omega)]⟩
theorem cF_0 {a : rf_m} {x : Int32} : cF a (rf_i a 0 11 x) := ⟨fun z h1 _ _ => by rw [rf_i_c, if_neg h1], fun k h => by rw [rf_i_c, if_pos rfl, pu_ne h]⟩
theorem biF_206 {a : rf_m} {k : Nat} {x : Int32} (h : k ≤ 2) : biF a (rf_i a 206 k x) := ⟨fun z _ _ _ h4 _ _ _ => by rw [rf_i_c, if_neg h4], fun z _ => by rw [rf_i_c, if_neg (by decide)], fun z h1 _ _ => by rw [rf_i_c, if_pos rfl, pu_ne (by omega)]⟩
theorem biF_me {a b : rf_m} (h : meF a b) : biF a b := ⟨fun z h1 h2 h3 h4 h5 h6 h7 => h.1 z h4 (by omega) (by omega) (by omega) h6 (by omega), fun k _ => by rw [h.1 0 (by decide) (by decide) (by decide) (by decide) (by decide) (by decide)], fun k h1 h2 _ => h.2.1 k (by omega)⟩
theorem biF_8 {a b : rf_m} (h : r8F a b) : biF a b := ⟨fun z h1 h2 h3 h4 h5 h6 h7 => h.1 z (by omega) (by omega) (by omega), fun k _ => by rw [h.1 0 (by decide) (by decide) (by decide)], fun k _ _ _ => by rw [h.1 206 (by decide) (by decide) (by decide)]⟩
theorem biF_R {a b : rf_m} (h : adR a b) : biF a b := ⟨fun z h1 h2 h3 h4 h5 h6 h7 => h.1 z (by omega), fun k _ => by rw [h.1 0 (by omega)], fun k h1 h2 _ => h.2.1 k (by omega)⟩
theorem biF_tl {a b : rf_m} (h : tlF a b) : biF a b := ⟨fun z h1 h2 h3 h4 h5 h6 h7 => h.1 z h4 (by omega) (by omega) (by omega), fun k _ => by rw [h.1 0 (by decide) (by decide) (by decide) (by decide)], fun k h1 h2 h3 => h.2.1 k (by omega) (by omega) h3⟩
theorem biF_l {a : rf_m} {z k : Nat} {x : Int64} : biF a (rf_l a z k x) := ⟨fun _ _ _ _ _ _ _ _ => rfl, fun _ _ => rfl, fun _ _ _ _ => rfl⟩
theorem fin_bi {c : Nat} {w : rf_w} {m m2 Y : rf_m} (J : JCnt c w m) (h : allF w m m2) (hM : biF m2 Y) : JCnt c w Y ∧ JCache w Y := by
  have e : ∀ z, z ≠ 0 → z ≠ 18 → ¬ (55 ≤ z ∧ z ≤ 174) → z ≠ 206 → ¬ (226 ≤ z ∧ z ≤ 228) → z ≠ 235 → ¬ (248 ≤ z ∧ z ≤ 265) → Y.1 z = m2.1 z := hM.1
  have hk2 := all_keep h
  have hk : keep m Y := by
    refine ⟨fun c hc => ?_, fun k hk => ?_, fun k hk => ?_, fun r hr k hk => ?_, fun a ha => ?_⟩
    · rw [e c (by omega) (by omega) (by omega) (by omega) (by omega) (by omega) (by omega)]; exact hk2.1 c hc
    · rw [e 26 (by omega) (by omega) (by omega) (by omega) (by omega) (by omega) (by omega)]; exact hk2.2.1 k hk
    · rw [hM.2.2 k (by omega) (by omega) (by omega)]; exact hk2.2.2.1 k hk
    · rw [e 32 (by omega) (by omega) (by omega) (by omega) (by omega) (by omega) (by omega)]; exact hk2.2.2.2.1 r hr k hk
    · rw [e 34 (by omega) (by omega) (by omega) (by omega) (by omega) (by omega) (by omega)]; exact hk2.2.2.2.2 a ha
  refine ⟨keep_cnt hk J, keep_cache hk J (fun a ha _ => ?_) (fun _ a ha => ?_)⟩
  · exact fre_of (h.2.2.2.2.2 a ha).2 (e 31 (by omega) (by omega) (by omega) (by omega) (by omega) (by omega) (by omega)) (e 32 (by omega) (by omega) (by omega) (by omega) (by omega) (by omega) (by omega)) (e 34 (by omega) (by omega) (by omega) (by omega) (by omega) (by omega) (by omega))
  · rw [e 40 (by omega) (by omega) (by omega) (by omega) (by omega) (by omega) (by omega)]
    exact (h.2.2.2.2.2 a ha).1
theorem fin_no {c : Nat} {w : rf_w} {m Y : rf_m} (J : JCnt c w m) (jc : JCache w m) (hM : biF m Y) : JCnt c w Y ∧ JCache w Y := by
  have e : ∀ z, z ≠ 0 → z ≠ 18 → ¬ (55 ≤ z ∧ z ≤ 174) → z ≠ 206 → ¬ (226 ≤ z ∧ z ≤ 228) → z ≠ 235 → ¬ (248 ≤ z ∧ z ≤ 265) → Y.1 z = m.1 z := hM.1
  have hk : keep m Y := by
    refine ⟨fun c hc => ?_, fun k hk => ?_, fun k hk => ?_, fun r hr k hk => ?_, fun a ha => ?_⟩
    · rw [e c (by omega) (by omega) (by omega) (by omega) (by omega) (by omega) (by omega)]
    · rw [e 26 (by omega) (by omega) (by omega) (by omega) (by omega) (by omega) (by omega)]
    · rw [hM.2.2 k (by omega) (by omega) (by omega)]
    · rw [e 32 (by omega) (by omega) (by omega) (by omega) (by omega) (by omega) (by omega)]
    · rw [e 34 (by omega) (by omega) (by omega) (by omega) (by omega) (by omega) (by omega)]
  have e40 := e 40 (by omega) (by omega) (by omega) (by omega) (by omega) (by omega) (by omega)
  refine ⟨keep_cnt hk J, keep_cache hk J (fun a ha h => ?_) (fun h a ha => ?_)⟩
  · exact fre_of (jc.1 a ha (by rw [← e40]; exact h)) (e 31 (by omega) (by omega) (by omega) (by omega) (by omega) (by omega) (by omega)) (e 32 (by omega) (by omega) (by omega) (by omega) (by omega) (by omega) (by omega)) (e 34 (by omega) (by omega) (by omega) (by omega) (by omega) (by omega) (by omega))
  · rw [e40]
    exact jc.2 (by rw [← e 26 (by omega) (by omega) (by omega) (by omega) (by omega) (by omega) (by omega)]; exact h) a ha
theorem jt_fin {m Y : rf_m} {v : Int32} (jt : JT m) (hv : v ≠ 4) (h : biF m Y) (e0 : Y.1 0 11 = v) (e1 : Y.1 206 1 = v) (e2 : Y.1 206 2 = -1) : JT Y := by
  unfold JT
  rw [e0, e1, e2, h.2.1 12 (by decide), h.2.2 3 (by decide) (by decide) (by decide), if_neg hv]
  exact ⟨rfl, jt.2.1, rfl⟩
theorem biF_all {w : rf_w} {m m2 : rf_m} (h : allF w m m2) : (∀ z, z = 0 ∨ 41 ≤ z → m2.1 z = m.1 z) := fun z hz => all_c h z (by omega)
theorem jt_all {w : rf_w} {m m2 Y : rf_m} {v : Int32} (jt : JT m) (hv : v ≠ 4) (ha : allF w m m2) (h : biF m2 Y) (e0 : Y.1 0 11 = v) (e1 : Y.1 206 1 = v) (e2 : Y.1 206 2 = -1) : JT Y := by
  refine jt_fin (m := m2) ?_ hv h e0 e1 e2
  unfold JT
  rw [all_c ha 0 (by omega), all_c ha 206 (by omega)]
  exact jt
theorem fa_2 {w : rf_w} {m m2 : rf_m} (h : g_X3_freshenAll w m = some m2) : ∀ z, 41 ≤ z → m2.2 z = m.2 z := fun z hz => funext fun k => by
  have e : ∀ (a b : Nat) (o : Option Nat), b < 41 → 0 < b → fr_e (a, b, o) z k = false := fun a b o h1 h2 => by
    have x1 : Nat.ble z b = false := by
      cases e : Nat.ble z b with
      | false => rfl
      | true => have := Nat.le_of_ble_eq_true e; omega
    have x2 : Nat.beq b 0 = false := by
      cases e : Nat.beq b 0 with
      | false => rfl
      | true => have := Nat.eq_of_beq_eq_true e; omega
    show (Nat.ble a z && ((Nat.beq b 0 && Nat.ble 1 a) || Nat.ble z b) && _) = false
    rw [x1, x2, Bool.false_and, Bool.or_false, Bool.and_false, Bool.false_and]
  refine (fg_X3_freshenAll h z k ?_).2
  unfold fr_in S_X3_freshenAll
  simp only [List.any_cons, List.any_nil, e 18 18 none (by decide) (by decide), e 25 25 none (by decide) (by decide), e 26 26 (some 19) (by decide) (by decide), e 31 31 none (by decide) (by decide), e 32 32 none (by decide) (by decide), e 34 34 none (by decide) (by decide), e 35 35 none (by decide) (by decide), e 40 40 none (by decide) (by decide), Bool.or_false]
/-- the reference's surroundings -/
theorem ref_env {c : Nat} {w : rf_w} {m m2 X : rf_m} (J : JCnt c w m) (e2 : allF w m m2) (hX : cF m2 X) : ∃ M', g_X14_allMeans w (rf_i X 206 0 0) = some M' ∧ meF (rf_i X 206 0 0) M' ∧ mA m M' ∧ nA w m M' := by
  have x206 : X.1 206 = m2.1 206 := hX.1 206 (by decide) (by decide) (by decide)
  have hA : mA m (rf_i X 206 0 0) := mA_x (mA_all e2) (fun z hz => by rw [rf_i_c, if_neg (by omega), rf_i_c, if_neg (by omega)]; exact hX.1 z (by omega) (by omega) (by omega)) (fun k hk => by rw [rf_i_c, if_pos rfl, rf_i_c, if_pos rfl, x206])
  obtain ⟨M', g1, g2, g3⟩ := allMeans_r J hA
  refine ⟨M', g1, g2, meF_mA hA g2, fun z hz => ?_, ?_, ?_, g3⟩
  · rw [g2.1 z (by omega) (by omega) (by omega) (by omega) (by omega) (by omega), rf_i_c, if_neg (by omega), hX.1 z (by omega) (by omega) (by omega)]
    exact all_c e2 z (by omega)
  · rw [g2.2.1 64 (by omega), rf_i_c, if_pos rfl, pu_ne (by decide), x206, all_c e2 206 (by omega)]
  · rw [g2.2.1 65 (by omega), rf_i_c, if_pos rfl, pu_ne (by decide), x206, all_c e2 206 (by omega)]
end PBFinA
