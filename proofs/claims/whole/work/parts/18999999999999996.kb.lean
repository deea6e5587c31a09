/-! rule, done -/
section PBK15b
theorem claX_11 {m X0 : rf_m} {v v' fl pl : Int32} (h : claX m X0 v fl pl) : claX m (rf_i X0 0 11 v') v' fl pl := by
  obtain ⟨h1, h2, h3, h4, h5, h6⟩ := h
  refine ⟨?_, fun z a1 a2 a3 a4 a5 a6 a7 a8 => ?_, fun k k2 k3 => ?_, ?_, fun k hk => ?_, fun z a1 a2 a3 => ?_⟩
  · rw [rf_i_c, if_pos rfl, h1]
    funext k
    by_cases e : k = 11
    · rw [e, pu_at, pu_at]
    · rw [pu_ne e, pu_ne e, pu_ne e]
  · rw [rf_i_c, if_neg a1]; exact h2 z a1 a2 a3 a4 a5 a6 a7 a8
  · rw [rf_i_c, if_neg (by decide)]; exact h3 k k2 k3
  · rw [rf_i_c, if_neg (by decide)]; exact h4
  · rw [rf_i_c, if_neg (by decide)]; exact h5 k hk
  · exact h6 z a1 a2 a3
theorem ruF_of {w w' : rf_w} {m X M : rf_m} {cc c : Nat} {v fl pl : Int32} (J : JCnt cc w m) (jw : JW cc w m) (hc : w.2.2 0 = some c) (hr : rob w c) (hX : claX m X v fl pl) (hM : ∀ z, z < w.1 → z ≠ 206 → z ≠ 233 → z ≠ c → z ≠ c + 1 → z ≠ c + 2 → M.1 z = X.1 z) (h6 : ∀ k, (3 < k ∧ k ≠ 39 ∧ k < 44) ∨ 52 < k → M.1 206 k = m.1 206 k) (hl : ∀ z k, z < 306 → ¬ (z = 206 ∧ k = 53) → M.2 z k = X.2 z k) (w1 : w'.2.2 1 = w.2.2 1) (wal : ∀ l, w.2.2 1 = some l → rf_al w' l = rf_al w l) : ruF w w' m M := by
  obtain ⟨x1, x2, x3, x4, x5, x6⟩ := hX
  have hw := jw.1
  have hc6 := hr.2.2.2.2.2
  obtain ⟨l, len, j1, j2, j3, _⟩ := J.2.2.1
  obtain ⟨c', q1, q2, q3, q4⟩ := jw.2.2.2.1 0 (Or.inl rfl)
  have : c' = c := by rw [hc] at q1; exact (Option.some.inj q1).symm
  subst this
  refine ⟨fun z a0 a1 a2 a3 a4 a5 a6 a7 a8 a9 a10 => ?_, fun k k1 k2 k3 => ?_, fun k k2 k3 => ?_, fun k hk => ?_, h6, fun z k a0 a1 a2 a3 a4 => ?_, fun l' hl' => ?_, w1, wal⟩
  · rw [hM z (by omega) a9 (by omega) (by omega) (by omega) (by omega)]
    exact x2 z a1 a2 a3 a4 a5 a6 a7 a8
  · rw [hM 0 (by omega) (by decide) (by decide) (by omega) (by omega) (by omega), x1, pu_ne k1, pu_ne k3, pu_ne k2]
  · rw [hM 13 (by omega) (by decide) (by decide) (by omega) (by omega) (by omega)]
    exact x3 k k2 k3
  · rw [hM 26 (by omega) (by decide) (by decide) (by omega) (by omega) (by omega)]
    exact x5 k hk
  · rw [hl z k a0 a4, x6 z a1 a2 a3]
  · have e : l' = l := by rw [j1] at hl'; exact (Option.some.inj hl').symm
    subst e
    have b1 := (jw.2.2.1 l' j1).1
    have b2 := q4 l' j1
    rw [hM l' b1 (by omega) (by omega) (by omega) (by omega) (by omega)]
    exact x2 l' (by omega) (by omega) (by omega) (by omega) (by omega) (by omega) (by omega) (by omega)
/-- the reference's part, from the class's memory -/
theorem rule_mid {w : rf_w} {m X : rf_m} {n c ac0 : Nat} {v fl pl y1 y2 y3 : Int32} {r : Option (Int32 × rf_m)} (H : HC w n (m.1 15) c) (hX : claX m X v fl pl) (f3 : ∀ i, m.1 15 i = m.1 234 i &&& 255) (hy : y1 = Int32.ofNat n) (h0 : ¬ y1 < 0) (h1 : ¬ m.1 206 44 < y1) (h2 : ib y2 10000 ∧ ib y3 10000 ∧ ¬ y3 < y2) (hg : cgo w n (m.1 15) r 0 [] [] 0 0 0 0 0 ac0 0) : ∃ B, g_X14_rule_0 w y1 y2 y3 X = h_X14_rule_56 w y2 y3 B ∧ (rNo c B r (g_X14_reads w B) ∨ rYes n (m.1 15) c B r (g_X14_reads w B)) ∧ ∀ M, frT c B M → (∀ z, z ≠ 206 → z ≠ 233 → z ≠ c → z ≠ c + 1 → z ≠ c + 2 → M.1 z = X.1 z) ∧ (∀ k, (3 < k ∧ k < 44) ∨ 52 < k → M.1 206 k = m.1 206 k) ∧ M.1 206 3 = 0 ∧ M.1 206 44 = 0 ∧ (∀ z k, ¬ (z = 206 ∧ k = 53) → M.2 z k = X.2 z k) := by
  have x206 : X.1 206 = m.1 206 := hX.2.1 206 (by decide) (by decide) (by decide) (by decide) (by decide) (by decide) (by decide) (by decide)
  have x234 : X.1 234 = m.1 234 := hX.2.1 234 (by decide) (by decide) (by decide) (by decide) (by decide) (by decide) (by decide) (by decide)
  refine ⟨rf_i (rf_i (rf_i (rf_i X 206 0 0) 206 45 y1) 206 44 0) 206 3 0, rule_r h0 (by rw [x206]; exact h1) h2, ?_, fun M hM => ?_⟩
  · refine reads_K H ?_ (fun k => ?_) hg
    · rw [rf_i_c, if_pos rfl, pu_ne (by decide), rf_i_c, if_pos rfl, pu_ne (by decide), rf_i_c, if_pos rfl, pu_at]; exact hy
    · rw [rf_i_c, if_neg (by decide), rf_i_c, if_neg (by decide), rf_i_c, if_neg (by decide), rf_i_c, if_neg (by decide), x234]
      exact (f3 k).symm
  · obtain ⟨a1, a2, a3⟩ := hM
    have e6 : ∀ k, (rf_i (rf_i (rf_i (rf_i X 206 0 0) 206 45 y1) 206 44 0) 206 3 0).1 206 k = pu (pu (pu (pu (m.1 206) 0 0) 45 y1) 44 0) 3 0 k := fun k => by rw [rf_i_c, if_pos rfl, rf_i_c, if_pos rfl, rf_i_c, if_pos rfl, rf_i_c, if_pos rfl, x206]
    refine ⟨fun z b1 b2 b3 b4 b5 => ?_, fun k hk => ?_, ?_, ?_, a3⟩
    · rw [a1 z b1 b2 b3 b4 b5, rf_i_c, if_neg b1, rf_i_c, if_neg b1, rf_i_c, if_neg b1, rf_i_c, if_neg b1]
    · rw [a2 k (by omega), e6, pu_ne (by omega), pu_ne (by omega), pu_ne (by omega), pu_ne (by omega)]
    · rw [a2 3 (by omega), e6, pu_at]
    · rw [a2 44 (by omega), e6, pu_ne (by decide), pu_at]
/-- no rule is made: the text is refused, or there are as many as may be -/
theorem rule_end {w : rf_w} {m X M M' : rf_m} {cc c : Nat} {v fl pl : Int32} (J : JCnt cc w m) (jc : JCache w m) (jw : JW cc w m) (jl : JLg w m) (f3 : ∀ i, m.1 15 i = m.1 234 i &&& 255) (hc : w.2.2 0 = some c) (hr : rob w c) (hX : claX m X v fl pl) (x13 : X.1 13 3 = m.1 13 3) (xz : ∀ z, 19 ≤ z → z ≤ 24 → X.1 z = m.1 z) (x26 : X.1 26 = m.1 26) (x40 : X.1 40 = m.1 40) (b1 : ∀ z, z ≠ 206 → z ≠ 233 → z ≠ c → z ≠ c + 1 → z ≠ c + 2 → M'.1 z = X.1 z) (b2 : ∀ k, (3 < k ∧ k < 44) ∨ 52 < k → M'.1 206 k = m.1 206 k) (b4 : M'.1 206 44 = 0) (b5 : ∀ z k, ¬ (z = 206 ∧ k = 53) → M'.2 z k = X.2 z k) (hM : ∀ z, z ≠ 206 → M.1 z = M'.1 z) (hM6 : ∀ k, 3 < k → M.1 206 k = M'.1 206 k) (hMl : M.2 = M'.2) : JCnt cc w M ∧ JCache w M ∧ JW cc w M ∧ JLg w M ∧ JFeed M ∧ ruF w w m M ∧ M.1 0 = X.1 0 := by
  have hw := jw.1
  have hc6 := hr.2.2.2.2.2
  have g : ∀ z, z ≠ 206 → z ≠ 233 → z ≠ c → z ≠ c + 1 → z ≠ c + 2 → M.1 z = X.1 z := fun z a1 a2 a3 a4 a5 => (hM z a1).trans (b1 z a1 a2 a3 a4 a5)
  have F : ruF w w m M := ruF_of J jw hc hr hX (fun z _ a1 a2 a3 a4 a5 => g z a1 a2 a3 a4 a5) (fun k hk => by rw [hM6 k (by omega)]; exact b2 k (by omega)) (fun z k _ hk => by rw [hMl]; exact b5 z k hk) rfl (fun _ _ => rfl)
  have s := ru_same J jc jw jl hc F (by rw [g 13 (by decide) (by decide) (by omega) (by omega) (by omega)]; exact x13) (by rw [hM6 39 (by decide)]; exact b2 39 (by decide)) (fun z z1 z2 => by rw [g z (by omega) (by omega) (by omega) (by omega) (by omega)]; exact xz z z1 z2) (fun z hz a3 a4 a5 => by rw [g z (by omega) (by omega) a3 a4 a5]; exact hX.2.1 z (by omega) (by omega) (by omega) (by omega) (by omega) (by omega) (by omega) (by omega)) (by rw [g 40 (by decide) (by decide) (by omega) (by omega) (by omega)]; exact x40) (by rw [g 26 (by decide) (by decide) (by omega) (by omega) (by omega), x26])
  refine ⟨s.1, s.2.1, s.2.2.1, s.2.2.2, ⟨?_, ?_, fun i => ?_⟩, F, g 0 (by decide) (by decide) (by omega) (by omega) (by omega)⟩
  · rw [g 13 (by decide) (by decide) (by omega) (by omega) (by omega), hX.2.2.2.1, hM6 44 (by decide), b4]
  · rw [hM6 44 (by decide), b4]; exact ⟨by decide, by decide⟩
  · rw [g 15 (by decide) (by decide) (by omega) (by omega) (by omega), g 234 (by decide) (by decide) (by omega) (by omega) (by omega), hX.2.1 15 (by decide) (by decide) (by decide) (by decide) (by decide) (by decide) (by decide) (by decide), hX.2.1 234 (by decide) (by decide) (by decide) (by decide) (by decide) (by decide) (by decide) (by decide)]
    exact f3 i
end PBK15b
