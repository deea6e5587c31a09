/-! the reference's counting -/
section PBGoesR
/-- M has what m's counting needs -/
def mA (m M : rf_m) : Prop := (∀ c, (216 ≤ c ∧ c ≤ 225) ∨ (230 ≤ c ∧ c ≤ 232) ∨ 306 ≤ c → M.1 c = m.1 c) ∧ M.1 206 5 = m.1 206 5 ∧ M.1 206 16 = m.1 206 16 ∧ M.1 206 17 = m.1 206 17 ∧ M.1 206 18 = m.1 206 18 ∧ M.1 206 39 = m.1 206 39
theorem mA_rd {m M : rf_m} (h : mA m M) : rdM m M := ⟨h.2.2.2.1, h.1 220 (by omega), h.1 221 (by omega), h.1 222 (by omega), h.1 223 (by omega), h.1 224 (by omega)⟩
theorem mA_ag {w : rf_w} {m M : rf_m} (j : JRule w m) (h : mA m M) : rAg w m M := rAg_of j h.2.2.2.2.2 (fun a ha => h.1 a (by omega))
/-- as the counting leaves it: all but the numbers 33 .. 38, and four rows -/
def goF (M M' : rf_m) : Prop := (∀ c, c ≠ 206 → c ≠ 226 → c ≠ 227 → c ≠ 228 → c ≠ 235 → M'.1 c = M.1 c) ∧ (∀ k, k < 33 ∨ 38 < k → M'.1 206 k = M.1 206 k) ∧ M'.2 = M.2
theorem goF_mA {m M M' : rf_m} (h : mA m M) (g : goF M M') : mA m M' := by
  obtain ⟨h0, h1, h2, h3, h4, h5⟩ := h
  obtain ⟨g0, g1, g2⟩ := g
  exact ⟨fun c hc => by rw [g0 c (by omega) (by omega) (by omega) (by omega) (by omega)]; exact h0 c hc, by rw [g1 5 (by omega)]; exact h1, by rw [g1 16 (by omega)]; exact h2, by rw [g1 17 (by omega)]; exact h3, by rw [g1 18 (by omega)]; exact h4, by rw [g1 39 (by omega)]; exact h5⟩
theorem goF_trans {a b c : rf_m} (h : goF a b) (k : goF b c) : goF a c := ⟨fun x h1 h2 h3 h4 h5 => by rw [k.1 x h1 h2 h3 h4 h5, h.1 x h1 h2 h3 h4 h5], fun x hx => by rw [k.2.1 x hx, h.2.1 x hx], by rw [k.2.2, h.2.2]⟩
theorem goF_i {a b : rf_m} {k : Nat} {x : Int32} (h : goF a b) (hk : 33 ≤ k ∧ k ≤ 38) : goF a (rf_i b 206 k x) := ⟨fun c h1 h2 h3 h4 h5 => by rw [rf_i_c, if_neg h1]; exact h.1 c h1 h2 h3 h4 h5, fun i hi => by rw [rf_i_c, if_pos rfl, pu_ne (by omega)]; exact h.2.1 i hi, h.2.2⟩
theorem goF_c {a b : rf_m} {c : Nat} {f : Nat → Int32} (h : goF a b) (hc : c = 226 ∨ c = 227 ∨ c = 228 ∨ c = 235) : goF a (stc b c f) := ⟨fun x h1 h2 h3 h4 h5 => by rw [stc_c, if_neg (by omega)]; exact h.1 x h1 h2 h3 h4 h5, fun i hi => by rw [stc_c, if_neg (by omega)]; exact h.2.1 i hi, h.2.2⟩
theorem goF_refl (a : rf_m) : goF a a := ⟨fun _ _ _ _ _ _ => rfl, fun _ _ => rfl, rfl⟩
theorem kpl_ok {w : rf_w} {m : rf_m} {d : Int32} {a : Nat} (l : List Nat) : ∀ i, i ≤ l.length → ∀ r, r ∈ kpl w m d a (l.take i) → r ∈ l ∧ keptP w m d a r := by
  intro i
  induction i with
  | zero => intro _ r hr; simp [kpl] at hr
  | succ i ih =>
    intro h r hr
    rw [take_snoc (by omega), kpl_snoc] at hr
    by_cases q : keptP w m d a (l[i]'(by omega))
    · rw [kpS_t q] at hr
      rcases List.mem_append.mp hr with e | e
      · exact ih (by omega) r e
      · rw [List.mem_singleton.mp e]; exact ⟨List.getElem_mem _, q⟩
    · rw [kpS_f q] at hr
      exact ih (by omega) r hr
theorem smL_rng {m : rf_m} : ∀ l : List Nat, (∀ r, r ∈ l → iv 0 12959999 (m.1 221 r)) → l.length ≤ 20 → ∀ i, i ≤ l.length → 0 ≤ (smL m (l.take i)).toInt ∧ (smL m (l.take i)).toInt ≤ 12959999 * i := by
  intro l hl h20 i
  induction i with
  | zero => intro _; simp [smL, i_0]
  | succ i ih =>
    intro h
    have ⟨h1, h2⟩ := ih (by omega)
    obtain ⟨q1, q2⟩ := ivI (hl _ (List.getElem_mem (l := l) (n := i) (by omega)))
    have q1' : 0 ≤ (m.1 221 (l[i]'(by omega))).toInt := q1
    have q2' : (m.1 221 (l[i]'(by omega))).toInt ≤ 12959999 := q2
    rw [take_snoc (by omega), smL_snoc, addI (by omega) (by omega)]
    omega
theorem smL_rng' {m : rf_m} {l : List Nat} (hl : ∀ r, r ∈ l → iv 0 12959999 (m.1 221 r)) (h20 : l.length ≤ 20) : 0 ≤ (smL m l).toInt ∧ (smL m l).toInt ≤ 12959999 * l.length := by
  have := smL_rng l hl h20 l.length (Nat.le_refl _)
  rwa [List.take_of_length_le (Nat.le_refl _)] at this
/-- what the reference's counting tells -/
def goP (w : rf_w) (m M' : rf_m) (d : Int32) (a : Nat) : Prop := M'.1 206 33 = Int32.ofNat (srt m d (rdl m a)).length ∧ M'.1 206 34 = Int32.ofNat (kpt w m d a).length ∧ M'.1 206 35 = midV m d a ∧ M'.1 206 36 = meanV w m d a ∧ M'.1 206 37 = loV w m d a ∧ M'.1 206 38 = hiV w m d a ∧ ∀ i (h : i < (kpt w m d a).length), M'.1 227 i = Int32.ofNat ((kpt w m d a)[i])
theorem goes_r {w : rf_w} {m M : rf_m} {c a : Nat} {d : Int32} (hc : c ≤ 512) (j : JRead m) (js : JStr c w m) (ju : JRule w m) (ja : JAng m) (jm : JMark m) (ha : a < (m.1 206 16).toNatClampNeg) (hA : mA m M) : ∃ M', g_X14_goes w M (Int32.ofNat a) d = some M' ∧ goF M M' ∧ goP w m M' d a := by
  have j' := j
  obtain ⟨c1, c2, c3, c4⟩ := j
  have ha80 : a < 80 := by have h := ja.2.1; have := tn_le h.1 h.2 (N := 80) (by decide); omega
  have b2 := (c4 a ha80).2.1
  have hn : (m.1 206 17).toNatClampNeg ≤ 1200 := tn_le c2.1 c2.2 (by decide)
  have hR := of_tn c2.1
  obtain ⟨F, hF1, hF2⟩ := sort_r (w := w) (d := d) ha80 j' (mA_rd hA)
  have whl : ∀ r, r ∈ rdl m a → keptP w m d a r → iv 0 12959999 (m.1 221 r) := fun r hr hk => (mid_rng j' hr hk.1).2
  have kprefix : ∀ n r, r + n = (m.1 206 17).toNatClampNeg → ∃ t, rdl m a = rds (m.1 220) (Int32.ofNat a) r ++ t := by
    intro n
    induction n with
    | zero => intro r h; exact ⟨[], by unfold rdl; rw [show r = (m.1 206 17).toNatClampNeg by omega, List.append_nil]⟩
    | succ n ih =>
      intro r h
      obtain ⟨t, ht⟩ := ih (r + 1) (by omega)
      have er : rds (m.1 220) (Int32.ofNat a) (r + 1) = if m.1 220 r = Int32.ofNat a then rds (m.1 220) (Int32.ofNat a) r ++ [r] else rds (m.1 220) (Int32.ofNat a) r := rfl
      rw [er] at ht
      split at ht
      · exact ⟨r :: t, by rw [ht, List.append_assoc]; rfl⟩
      · exact ⟨t, ht⟩
  have kfull : ∀ l : List Nat, kpl w m d a l = kpl w m d a (l.take l.length) := fun l => by rw [List.take_of_length_le (Nat.le_refl _)]
  have kin : ∀ r, r ≤ (m.1 206 17).toNatClampNeg → (∀ q, q ∈ kpl w m d a (rds (m.1 220) (Int32.ofNat a) r) → q ∈ rdl m a ∧ keptP w m d a q) ∧ (kpl w m d a (rds (m.1 220) (Int32.ofNat a) r)).length ≤ (rds (m.1 220) (Int32.ofNat a) r).length ∧ (rds (m.1 220) (Int32.ofNat a) r).length ≤ 20 := by
    intro r hr
    obtain ⟨t, ht⟩ := kprefix ((m.1 206 17).toNatClampNeg - r) r (by omega)
    refine ⟨fun q hq => ?_, ?_, ?_⟩
    · rw [kfull] at hq
      have := kpl_ok (w := w) (m := m) (d := d) (a := a) _ _ (Nat.le_refl _) q hq
      exact ⟨by rw [ht]; exact List.mem_append.mpr (Or.inl this.1), this.2⟩
    · have := kpl_len (w := w) (m := m) (d := d) (a := a) (l := rds (m.1 220) (Int32.ofNat a) r) _ (Nat.le_refl _)
      rwa [← kfull] at this
    · have : (rdl m a).length = (rds (m.1 220) (Int32.ofNat a) r).length + t.length := by rw [ht, List.length_append]
      omega
  have key : ∀ n f r (Mi : rf_m), r + n = (m.1 206 17).toNatClampNeg → n < f → goF M Mi → Mi.1 206 33 = Int32.ofNat (srt m d (rdl m a)).length → Mi.1 206 35 = midV m d a → Mi.1 206 34 = Int32.ofNat (kpl w m d a (rds (m.1 220) (Int32.ofNat a) r)).length → ((kpl w m d a (rds (m.1 220) (Int32.ofNat a) r)).length ≠ 0 → Mi.1 206 37 = loL m (kpl w m d a (rds (m.1 220) (Int32.ofNat a) r)) ∧ Mi.1 206 38 = hiL m (kpl w m d a (rds (m.1 220) (Int32.ofNat a) r))) → (∀ i (h : i < (kpl w m d a (rds (m.1 220) (Int32.ofNat a) r)).length), Mi.1 227 i = Int32.ofNat ((kpl w m d a (rds (m.1 220) (Int32.ofNat a) r))[i])) → ∃ M', g_X14_goes_168 w f (Int32.ofNat a) d (Int32.toInt64 (smL m (kpl w m d a (rds (m.1 220) (Int32.ofNat a) r)))) (Int32.ofNat r) Mi = some M' ∧ goF M M' ∧ goP w m M' d a := by
    intro n
    induction n with
    | zero =>
      intro f r Mi hr hf hG h33 h35 h34 hlh hkr
      obtain ⟨f, rfl⟩ : ∃ g, f = g + 1 := ⟨f - 1, by omega⟩
      have eK : kpl w m d a (rds (m.1 220) (Int32.ofNat a) r) = kpt w m d a := by unfold kpt rdl; rw [show r = (m.1 206 17).toNatClampNeg by omega]
      obtain ⟨ki, kl, kl2⟩ := kin r (by omega)
      rw [eK] at h34 hlh hkr ki kl ⊢
      have sr := smL_rng' (m := m) (l := kpt w m d a) (fun q hq => whl q (ki q hq).1 (ki q hq).2) (by omega)
      have e17 : Mi.1 206 17 = m.1 206 17 := by rw [hG.2.1 17 (by omega)]; exact hA.2.2.2.1
      show ∃ M', g_X14_goes_168_b w _ _ d _ _ Mi = _ ∧ _
      unfold g_X14_goes_168_b
      rw [e17, show r = (m.1 206 17).toNatClampNeg by omega, hR, if_pos (Int32.le_refl _), h34]
      by_cases z : (kpt w m d a).length = 0
      · have z0 : Int32.ofNat (kpt w m d a).length = 0 := by rw [z]; rfl
        have z1 : (rf_i Mi 206 36 (-2)).1 206 34 ≤ 0 := by rw [rf_i_c, if_pos rfl, pu_ne (by decide), h34, z0]; decide
        rw [if_pos z0, if_pos z1]
        refine ⟨_, rfl, goF_i (goF_i (goF_i hG (by omega)) (by omega)) (by omega), ?_⟩
        unfold goP meanV loV hiV
        rw [if_pos z, if_pos z, if_pos z]
        refine ⟨?_, ?_, ?_, ?_, ?_, ?_, fun i h => by omega⟩ <;> simp only [rf_i_c, if_true, pu, Nat.reduceEqDiff, if_false]
        · exact h33
        · exact h34
        · exact h35
      · have z0 : ¬ Int32.ofNat (kpt w m d a).length = 0 := fun q => z ((of_inj (b := 0) (by omega) (by omega)).mp q)
        have zI : (Int32.ofNat (kpt w m d a).length).toInt = (kpt w m d a).length := ofI (by omega)
        have nz : rf_nzl (Int32.toInt64 (Int32.ofNat (kpt w m d a).length)) = true := nzl_of (by rw [i2l, zI]; omega)
        have pz : 0 < Int32.ofNat (kpt w m d a).length := by rw [i_lt, i_0, zI]; omega
        have z1 : ∀ x, ¬ (rf_i Mi 206 36 x).1 206 34 ≤ 0 := fun x => by rw [rf_i_c, if_pos rfl, pu_ne (by decide), h34, i_le, i_0, zI]; omega
        rw [if_neg z0, nz, g_t, if_neg (z1 _)]
        have em : Int64.toInt32 (Int32.toInt64 (smL m (kpt w m d a)) / Int32.toInt64 (Int32.ofNat (kpt w m d a).length)) = smL m (kpt w m d a) / Int32.ofNat (kpt w m d a).length := by
          have q : (Int32.toInt64 (smL m (kpt w m d a)) / Int32.toInt64 (Int32.ofNat (kpt w m d a).length)).toInt = (smL m (kpt w m d a)).toInt.tdiv ((kpt w m d a).length : Int) := by
            rw [divL (by rw [i2l, zI]; omega), i2l, i2l, zI]
          have q2 : (smL m (kpt w m d a) / Int32.ofNat (kpt w m d a).length).toInt = (smL m (kpt w m d a)).toInt.tdiv ((kpt w m d a).length : Int) := by rw [divI pz, zI]
          have rg := rngI (smL m (kpt w m d a) / Int32.ofNat (kpt w m d a).length)
          rw [i_eq, l2i (by rw [q, ← q2]; exact rg.1) (by rw [q, ← q2]; exact rg.2), q, q2]
        refine ⟨_, rfl, goF_i hG (by omega), ?_⟩
        unfold goP meanV loV hiV
        rw [if_neg z, if_neg z, if_neg z, em]
        refine ⟨?_, ?_, ?_, ?_, ?_, ?_, fun i h => ?_⟩
        · rw [rf_i_c, if_pos rfl, pu_ne (by decide)]; exact h33
        · rw [rf_i_c, if_pos rfl, pu_ne (by decide)]; exact h34
        · rw [rf_i_c, if_pos rfl, pu_ne (by decide)]; exact h35
        · rw [rf_i_c, if_pos rfl, pu_at]
        · rw [rf_i_c, if_pos rfl, pu_ne (by decide)]; exact (hlh z).1
        · rw [rf_i_c, if_pos rfl, pu_ne (by decide)]; exact (hlh z).2
        · rw [rf_i_c, if_neg (by decide)]; exact hkr i h
    | succ n ih =>
      intro f r Mi hr hf hG h33 h35 h34 hlh hkr
      obtain ⟨f, rfl⟩ : ∃ g, f = g + 1 := ⟨f - 1, by omega⟩
      have hrn : r < (m.1 206 17).toNatClampNeg := by omega
      have hr1 : r < 1200 := by omega
      have hAi : mA m Mi := goF_mA hA hG
      have e17 : Mi.1 206 17 = m.1 206 17 := hAi.2.2.2.1
      have nl : ¬ m.1 206 17 ≤ Int32.ofNat r := by rw [← hR]; exact nle hrn (by omega)
      have er : rds (m.1 220) (Int32.ofNat a) (r + 1) = if m.1 220 r = Int32.ofNat a then rds (m.1 220) (Int32.ofNat a) r ++ [r] else rds (m.1 220) (Int32.ofNat a) r := rfl
      have e0 : Mi.1 220 = m.1 220 := hAi.1 220 (by omega)
      have e1 : Mi.1 221 = m.1 221 := hAi.1 221 (by omega)
      have e4 : Mi.1 224 = m.1 224 := hAi.1 224 (by omega)
      obtain ⟨ki, kl, kl2⟩ := kin r (by omega)
      -- nothing is kept here: on it goes
      have skip : ∀ M2, goF Mi M2 → (∀ k, 33 ≤ k → k ≤ 38 → M2.1 206 k = Mi.1 206 k) → M2.1 227 = Mi.1 227 → kpl w m d a (rds (m.1 220) (Int32.ofNat a) (r + 1)) = kpl w m d a (rds (m.1 220) (Int32.ofNat a) r) → ∃ M', g_X14_goes_337 w (g_X14_goes_168 w f) (Int32.ofNat a) d (Int32.toInt64 (smL m (kpl w m d a (rds (m.1 220) (Int32.ofNat a) r)))) (Int32.ofNat r) M2 = some M' ∧ goF M M' ∧ goP w m M' d a := by
        intro M2 g2 g3 g4 hK
        unfold g_X14_goes_337
        rw [of_succ]
        have := ih f (r + 1) M2 (by omega) (by omega) (goF_trans hG g2) (by rw [g3 33 (by omega) (by omega)]; exact h33) (by rw [g3 35 (by omega) (by omega)]; exact h35) (by rw [g3 34 (by omega) (by omega), hK]; exact h34) (by rw [g3 37 (by omega) (by omega), g3 38 (by omega) (by omega), hK]; exact hlh) (by rw [g4]; simp only [hK]; exact hkr)
        rw [hK] at this
        exact this
      show ∃ M', g_X14_goes_168_b w (g_X14_goes_168 w f) _ d _ _ Mi = _ ∧ _
      unfold g_X14_goes_168_b
      rw [e17, if_neg nl, gof hr1 (by decide), g_t, tn_of (by omega), e0]
      by_cases p0 : m.1 220 r = Int32.ofNat a
      · have er' : rds (m.1 220) (Int32.ofNat a) (r + 1) = rds (m.1 220) (Int32.ofNat a) r ++ [r] := by rw [er, if_pos p0]
        have hrL : r ∈ rdl m a := by
          obtain ⟨t, ht⟩ := kprefix ((m.1 206 17).toNatClampNeg - (r + 1)) (r + 1) (by omega)
          rw [ht, er']
          exact List.mem_append.mpr (Or.inl (List.mem_append.mpr (Or.inr (List.mem_singleton.mpr rfl))))
        have hkS : kpl w m d a (rds (m.1 220) (Int32.ofNat a) (r + 1)) = kpS w m d a (kpl w m d a (rds (m.1 220) (Int32.ofNat a) r)) r := by rw [er', kpl_snoc]
        have hl20 : (rds (m.1 220) (Int32.ofNat a) r).length < 20 := by
          have := (kin (r + 1) (by omega)).2.2
          rw [er', List.length_append] at this
          simp at this
          omega
        rw [if_pos p0, g_t, e1]
        by_cases p1 : m.1 221 r = -2
        · rw [if_pos p1]
          exact skip Mi (goF_refl _) (fun _ _ _ => rfl) rfl (by rw [hkS, kpS_f (fun q => q.1.1 p1)])
        · rw [if_neg p1, g_t, e4]
          by_cases p2 : d < m.1 224 r
          · rw [if_pos p2]
            exact skip Mi (goF_refl _) (fun _ _ _ => rfl) rfl (by rw [hkS, kpS_f (fun q => by have := q.1.2; clear c3 c4; grind)])
          · rw [if_neg p2]
            have hok : okP m d r := ⟨p1, by clear c3 c4; grind⟩
            obtain ⟨_, st2, st3⟩ := struck_r (w := w) (m := m) (M := Mi) (d := d) hc js hrn hr1 hAi.2.2.2.2.1 hAi.2.1 (hAi.1 216 (by omega)) (hAi.1 225 (by omega)) (fun x hx => hAi.1 x (by omega))
            rw [st2]
            simp only [rf_b]
            by_cases p3 : svV w m r d = 0
            · rw [if_pos p3]
              obtain ⟨g, G, hsk⟩ := strikerOf_r (w := w) (M := Mi) (d := d) j' ju ja jm ha hrL hok (mA_ag ju hAi) (mA_rd hAi) (hAi.1 217 (by omega)) h33 h35
              rw [hsk]
              simp only
              have gF5 : goF Mi (stc (stc Mi 228 g) 235 G) := goF_c (goF_c (goF_refl _) (by omega)) (by omega)
              by_cases p4 : skV m d a r = -2
              · rw [if_pos p4]
                have hkp : keptP w m d a r := ⟨hok, p3, p4⟩
                have hK : kpl w m d a (rds (m.1 220) (Int32.ofNat a) (r + 1)) = kpl w m d a (rds (m.1 220) (Int32.ofNat a) r) ++ [r] := by rw [hkS, kpS_t hkp]
                have wr := whl r hrL hkp
                have c206 : ∀ k, (stc (stc Mi 228 g) 235 G).1 206 k = Mi.1 206 k := fun k => rfl
                have c221 : (stc (stc Mi 228 g) 235 G).1 221 = m.1 221 := by rw [stc_c, if_neg (by decide), stc_c, if_neg (by decide)]; exact e1
                generalize hM5 : stc (stc Mi 228 g) 235 G = M5 at *
                -- the end of it: s the least, t the most
                have fin : ∀ s t : Int32, s = loL m (kpl w m d a (rds (m.1 220) (Int32.ofNat a) (r + 1))) → t = hiL m (kpl w m d a (rds (m.1 220) (Int32.ofNat a) (r + 1))) → ∃ M', g_X14_goes_302 w (g_X14_goes_168 w f) (Int32.ofNat a) d (Int32.toInt64 (smL m (kpl w m d a (rds (m.1 220) (Int32.ofNat a) r)))) (Int32.ofNat r) t (rf_i M5 206 37 s) = some M' ∧ goF M M' ∧ goP w m M' d a := by
                  intro s t hs ht
                  unfold g_X14_goes_302 g_X14_goes_337
                  have i34 : (rf_i (rf_i M5 206 37 s) 206 38 t).1 206 34 = Int32.ofNat (kpl w m d a (rds (m.1 220) (Int32.ofNat a) r)).length := by
                    rw [rf_i_c, if_pos rfl, pu_ne (by decide), rf_i_c, if_pos rfl, pu_ne (by decide), c206]; exact h34
                  rw [i34, gof (by omega) (by decide), g_t, gof hr1 (by decide), g_t, tn_of (by omega), tn_of (by omega)]
                  simp only [rf_vl]
                  have i221 : (rf_i (rf_i (rf_i M5 206 37 s) 206 38 t) 227 (kpl w m d a (rds (m.1 220) (Int32.ofNat a) r)).length (Int32.ofNat r)).1 221 = m.1 221 := by
                    rw [rf_i_c, if_neg (by decide), rf_i_c, if_neg (by decide), rf_i_c, if_neg (by decide)]; exact c221
                  have i34' : (rf_i (rf_i (rf_i M5 206 37 s) 206 38 t) 227 (kpl w m d a (rds (m.1 220) (Int32.ofNat a) r)).length (Int32.ofNat r)).1 206 34 = Int32.ofNat (kpl w m d a (rds (m.1 220) (Int32.ofNat a) r)).length := by
                    rw [rf_i_c, if_neg (by decide)]; exact i34
                  rw [i221, i34', of_succ, of_succ]
                  have sr := smL_rng' (m := m) (l := kpl w m d a (rds (m.1 220) (Int32.ofNat a) r)) (fun q hq => whl q (ki q hq).1 (ki q hq).2) (by omega)
                  obtain ⟨w1, w2⟩ := ivI wr
                  have w1' : 0 ≤ (m.1 221 r).toInt := w1
                  have w2' : (m.1 221 r).toInt ≤ 12959999 := w2
                  have es : Int32.toInt64 (smL m (kpl w m d a (rds (m.1 220) (Int32.ofNat a) r))) + Int32.toInt64 (m.1 221 r) = Int32.toInt64 (smL m (kpl w m d a (rds (m.1 220) (Int32.ofNat a) (r + 1)))) := by
                    rw [hK, smL_snoc, l_eq, i2l, addI (by omega) (by omega), addL (by rw [i2l, i2l]; omega) (by rw [i2l, i2l]; omega), i2l, i2l]
                  rw [es]
                  refine ih f (r + 1) _ (by omega) (by omega) ?_ ?_ ?_ ?_ (fun _ => ⟨?_, ?_⟩) (fun i hi => ?_)
                  · refine goF_trans hG (goF_trans gF5 ?_)
                    refine goF_i ?_ (by omega)
                    have : rf_i (rf_i (rf_i M5 206 37 s) 206 38 t) 227 (kpl w m d a (rds (m.1 220) (Int32.ofNat a) r)).length (Int32.ofNat r) = stc (rf_i (rf_i M5 206 37 s) 206 38 t) 227 (pu ((rf_i (rf_i M5 206 37 s) 206 38 t).1 227) (kpl w m d a (rds (m.1 220) (Int32.ofNat a) r)).length (Int32.ofNat r)) := stc_i
                    rw [this]
                    exact goF_c (goF_i (goF_i (goF_refl _) (by omega)) (by omega)) (by omega)
                  · rw [rf_i_c, if_pos rfl, pu_ne (by decide), rf_i_c, if_neg (by decide), rf_i_c, if_pos rfl, pu_ne (by decide), rf_i_c, if_pos rfl, pu_ne (by decide), c206]; exact h33
                  · rw [rf_i_c, if_pos rfl, pu_ne (by decide), rf_i_c, if_neg (by decide), rf_i_c, if_pos rfl, pu_ne (by decide), rf_i_c, if_pos rfl, pu_ne (by decide), c206]; exact h35
                  · rw [rf_i_c, if_pos rfl, pu_at, hK, List.length_append]; rfl
                  · rw [rf_i_c, if_pos rfl, pu_ne (by decide), rf_i_c, if_neg (by decide), rf_i_c, if_pos rfl, pu_ne (by decide), rf_i_c, if_pos rfl, pu_at]; exact hs
                  · rw [rf_i_c, if_pos rfl, pu_ne (by decide), rf_i_c, if_neg (by decide), rf_i_c, if_pos rfl, pu_at]; exact ht
                  · have c227 : M5.1 227 = Mi.1 227 := by rw [← hM5, stc_c, if_neg (by decide), stc_c, if_neg (by decide)]
                    rw [rf_i_c, if_neg (by decide), rf_i_c, if_pos rfl, rf_i_c, if_neg (by decide), rf_i_c, if_neg (by decide), c227]
                    have hi2 : i < (kpl w m d a (rds (m.1 220) (Int32.ofNat a) r) ++ [r]).length := by rw [← hK]; exact hi
                    have eg : (kpl w m d a (rds (m.1 220) (Int32.ofNat a) (r + 1)))[i] = (kpl w m d a (rds (m.1 220) (Int32.ofNat a) r) ++ [r])[i] := by simp only [hK]
                    rw [eg]
                    by_cases q : i = (kpl w m d a (rds (m.1 220) (Int32.ofNat a) r)).length
                    · subst q
                      rw [pu_at]
                      simp
                    · have q2 : i < (kpl w m d a (rds (m.1 220) (Int32.ofNat a) r)).length := by rw [List.length_append] at hi2; simp at hi2; omega
                      rw [pu_ne q, hkr i q2, List.getElem_append_left q2]
                have lo0 : (12960000 : Int32).toInt = 12960000 := rfl
                obtain ⟨w1, w2⟩ := ivI wr
                have w1' : 0 ≤ (m.1 221 r).toInt := w1
                have w2' : (m.1 221 r).toInt ≤ 12959999 := w2
                rw [c206, h34, c221]
                by_cases z : (kpl w m d a (rds (m.1 220) (Int32.ofNat a) r)).length = 0
                · have z0 : Int32.ofNat (kpl w m d a (rds (m.1 220) (Int32.ofNat a) r)).length = 0 := by rw [z]; rfl
                  have zl := List.length_eq_zero_iff.mp z
                  rw [if_pos z0, g_t]
                  unfold g_X14_goes_267
                  have z1 : (rf_i M5 206 37 (m.1 221 r)).1 206 34 = 0 := by rw [rf_i_c, if_pos rfl, pu_ne (by decide), c206, h34, z0]
                  have z2 : (rf_i M5 206 37 (m.1 221 r)).1 221 = m.1 221 := by rw [rf_i_c, if_neg (by decide)]; exact c221
                  rw [if_pos z1, gof hr1 (by decide), g_t, tn_of (by omega), z2]
                  refine fin _ _ ?_ ?_
                  · rw [hK, zl]
                    show m.1 221 r = if m.1 221 r < 12960000 then m.1 221 r else 12960000
                    rw [if_pos (by rw [i_lt, lo0]; omega)]
                  · rw [hK, zl]
                    show m.1 221 r = if -1 < m.1 221 r then m.1 221 r else -1
                    rw [if_pos (by rw [i_lt]; show (-1 : Int) < _; omega)]
                · have z0 : ¬ Int32.ofNat (kpl w m d a (rds (m.1 220) (Int32.ofNat a) r)).length = 0 := fun q => z ((of_inj (b := 0) (by omega) (by omega)).mp q)
                  rw [if_neg z0, g_t, c206, (hlh z).1, min_eq]
                  simp only
                  unfold g_X14_goes_267
                  have z1 : ∀ x, (rf_i M5 206 37 x).1 206 34 = Int32.ofNat (kpl w m d a (rds (m.1 220) (Int32.ofNat a) r)).length := fun x => by rw [rf_i_c, if_pos rfl, pu_ne (by decide), c206, h34]
                  have z2 : ∀ x, (rf_i M5 206 37 x).1 221 = m.1 221 := fun x => by rw [rf_i_c, if_neg (by decide)]; exact c221
                  have z3 : ∀ x, (rf_i M5 206 37 x).1 206 38 = hiL m (kpl w m d a (rds (m.1 220) (Int32.ofNat a) r)) := fun x => by rw [rf_i_c, if_pos rfl, pu_ne (by decide), c206]; exact (hlh z).2
                  rw [z1, if_neg z0, gof hr1 (by decide), g_t, tn_of (by omega), z2, z3, max_eq]
                  simp only [rf_b]
                  refine fin _ _ ?_ ?_
                  · rw [hK, loL_snoc]
                  · rw [hK, hiL_snoc]
              · rw [if_neg p4]
                exact skip _ gF5 (fun _ _ _ => rfl) (by rw [stc_c, if_neg (by decide), stc_c, if_neg (by decide)]) (by rw [hkS, kpS_f (fun q => p4 q.2.2)])
            · rw [if_neg p3]
              exact skip Mi (goF_refl _) (fun _ _ _ => rfl) rfl (by rw [hkS, kpS_f (fun q => p3 q.2.1)])
      · rw [if_neg p0]
        exact skip Mi (goF_refl _) (fun _ _ _ => rfl) rfl (by rw [er, if_neg p0])
  rw [hF1]
  unfold g_X14_goes_155
  have h := key (m.1 206 17).toNatClampNeg rf_fuel 0 (rf_i (rf_i (lpA M F (srt m d (rdl m a)).length) 206 35 (midV m d a)) 206 34 0) (by omega) (by unfold rf_fuel; omega) ?_ ?_ ?_ ?_ (fun q => absurd rfl q) (fun i hi => by simp [rds, kpl] at hi)
  · exact h
  · unfold lpA
    exact goF_i (goF_i (goF_i (goF_c (goF_refl _) (by omega)) (by omega)) (by omega)) (by omega)
  · unfold lpA
    rw [rf_i_c, if_pos rfl, pu_ne (by decide), rf_i_c, if_pos rfl, pu_ne (by decide), rf_i_c, if_pos rfl, pu_at]
  · rw [rf_i_c, if_pos rfl, pu_ne (by decide), rf_i_c, if_pos rfl, pu_at]
  · rw [rf_i_c, if_pos rfl, pu_at]; rfl
end PBGoesR
