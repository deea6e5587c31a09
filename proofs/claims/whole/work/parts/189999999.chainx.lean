/-! chains: the reference's search finds the best -/
section PBChainX
theorem env_id {w : rf_w} {m : rf_m} {L go s : Int32} {lo hi : Int} : eSid (envE w m L go s lo hi) = sidV m := rfl
theorem env_go {w : rf_w} {m : rf_m} {L go s : Int32} {lo hi : Int} : eGo (envE w m L go s lo hi) = go := rfl
theorem fuel_ex : ∃ F, rf_fuel = F ∧ 1000 < F := ⟨rf_fuel, rfl, by unfold rf_fuel; decide⟩
theorem on_le {m : rf_m} {t i : Nat} : onV m t i ≤ otV m t i := by
  unfold onV otV
  split <;> split <;> grind
theorem sd_ord {x y : Int32} (h : x ≤ y) : sd x y = x * 32 + y := by rw [sd_le, if_pos h]
theorem goal_iff {x y g1 g2 : Int32} (hx : ib x 30) (hy : ib y 30) (h1 : ib g1 30) (h2 : ib g2 30) (hxy : x ≤ y) (hg : g1 ≤ g2) : (x = g1 ∧ y = g2) ↔ sd x y = sd g1 g2 := by
  rw [sd_iff h1 h2 hx hy]
  constructor
  · exact Or.inl
  · rintro (q | ⟨q1, q2⟩)
    · exact q
    · rw [q1, q2] at hxy ⊢
      have := Int32.le_antisymm hxy hg
      exact ⟨this, this.symm⟩
/-- the bits of the triangles in a path -/
def usP (U : List Nat) (used : Int32) (p : List (Nat × Nat)) : Prop := ∀ u (h : u < U.length), bt used u = true ↔ U[u] ∈ p.map (fun x => x.1)
theorem us_snoc {U : List Nat} {used : Int32} {p : List (Nat × Nat)} {u i : Nat} (hU8 : U.length ≤ 8) (hUn : U.Nodup) (h : usP U used p) (hu : u < U.length) : usP U (used ||| ((1 : Int32) <<< (Int32.ofNat u &&& 31))) (p ++ [(U[u], i)]) := fun v hv => by
  rw [bt_set (by omega) (by omega), Bool.or_eq_true, h v hv, decide_eq_true_eq, List.map_append, List.mem_append]
  refine or_congr Iff.rfl ⟨fun e => ?_, fun e => ?_⟩
  · subst e; simp
  · have e' : U[v] = U[u] := by simpa using e
    exact (List.getElem_inj hUn).mp e'
theorem no_st {E : chE} {p : List (Nat × Nat)} {st : Int32 × Int × Int} (h : rnE E p = some st) {x : Nat × Nat} (hs : stp E st x = none) : ∀ r, ¬ GC E (p ++ x :: r) := fun r hg => by
  obtain ⟨_, _, st1, st2, e1, e2⟩ := GC_st hg
  rw [h] at e1
  injection e1 with e1
  rw [← e1, hs] at e2
  cases e2
theorem node_k {w : rf_w} {m M : rf_m} {E : chE} {p : List (Nat × Nat)} {rc : rf_m → Int32 → Int32 → Int32 → Int32 → Int32 → Int32 → Option rf_m} {used x y lo hi : Int32} (hp : pOK m p) (hr : rnE E p = some (eGo E, lo.toInt, hi.toInt)) (hO : stO (eGo E, lo.toInt, hi.toInt)) (hrw : rwR m (M.1 272) (M.1 273) (M.1 274) p) : ∃ M2, g_X14_chains_49 w rc rf_fuel (Int32.ofNat p.length) used x y lo hi 0 (rf_i (rf_i (rf_i M 206 105 (Int32.ofNat p.length)) 206 106 lo) 206 107 hi) = g_X14_chains_103 w rc (Int32.ofNat p.length) used x y lo hi M2 ∧ rdF M M2 ∧ rsE p.length M M2 ∧ bsR E m M2 (some p) := by
  generalize hM1 : rf_i (rf_i (rf_i M 206 105 (Int32.ofNat p.length)) 206 106 lo) 206 107 hi = M1
  obtain ⟨M2, k1, k2⟩ := keep49 (w := w) (M := M1) (N := p.length) (rc := rc) (a2 := used) (a3 := x) (a4 := y) (a5 := lo) (a6 := hi) hp.1
  have m1z : ∀ z, z ≠ 206 → M1.1 z = M.1 z := fun z hz => by rw [← hM1, rf_i_c, if_neg hz, rf_i_c, if_neg hz, rf_i_c, if_neg hz]
  have m16 : M1.1 206 = pu (pu (pu (M.1 206) 105 (Int32.ofNat p.length)) 106 lo) 107 hi := by rw [← hM1, rf_i_c, if_pos rfl, rf_i_c, if_pos rfl, rf_i_c, if_pos rfl]
  have m12 : M1.2 = M.2 := by rw [← hM1, rf_i_l, rf_i_l, rf_i_l]
  have k6 : M2.1 206 = M1.1 206 := k1.1 206 (by decide) (by decide) (by decide)
  have q5 : M2.1 206 105 = Int32.ofNat p.length := by rw [k6, m16, pu_ne (by decide), pu_ne (by decide), pu_at]
  have q6 : M2.1 206 106 = lo := by rw [k6, m16, pu_ne (by decide), pu_at]
  have q7 : M2.1 206 107 = hi := by rw [k6, m16, pu_at]
  have s2 : M2.1 272 = M.1 272 := by rw [k1.1 272 (by decide) (by decide) (by decide), m1z 272 (by decide)]
  have s3 : M2.1 273 = M.1 273 := by rw [k1.1 273 (by decide) (by decide) (by decide), m1z 273 (by decide)]
  have s4 : M2.1 274 = M.1 274 := by rw [k1.1 274 (by decide) (by decide) (by decide), m1z 274 (by decide)]
  refine ⟨M2, k2, ⟨fun z z1 z2 => by rw [k1.1 z (by omega) (by omega) (by omega), m1z z z1], fun k hk => by rw [k6, m16, pu_ne (by omega), pu_ne (by omega), pu_ne (by omega)], by rw [k1.2.1, m12]⟩, fun j _ => by rw [s2, s3, s4]; exact ⟨rfl, rfl, rfl⟩, ?_⟩
  refine ⟨q5, by rw [q6, q7]; exact hr, hp, fun j hj => ?_, by rw [q6, q7]; exact hO⟩
  obtain ⟨w1, w2, w3⟩ := k1.2.2 j hj
  rw [w1, w2, w3, m1z 272 (by decide), m1z 273 (by decide), m1z 274 (by decide)]
  exact hrw j hj
theorem dfs_r {c : Nat} {w : rf_w} {m : rf_m} {L g1 g2 s0 : Int32} {lo0 hi0 : Int} {U : List Nat} (J : JCnt c w m) (jn : JNet m) (hU : ∀ t, t ∈ U ↔ (t < (m.1 206 64).toNatClampNeg ∧ wlI (tmF w m t) L 3 0 ≠ 0)) (hU8 : U.length ≤ 8) (hUn : U.Nodup) (hg1 : ib g1 30) (hg2 : ib g2 30) (hg : g1 ≤ g2) : ∀ n (p : List (Nat × Nat)) (M : rf_m) (B : Option (List (Nat × Nat))) (used x y lo hi : Int32), 7 ≤ p.length + n → pOK m p → (p.map (fun z => z.1)).Nodup → (∀ z, z ∈ p → eAb (envE w m L (sd g1 g2) s0 lo0 hi0) z.1) → ib x 30 → ib y 30 → x ≤ y → rnE (envE w m L (sd g1 g2) s0 lo0 hi0) p = some (sd x y, lo.toInt, hi.toInt) → stO (sd x y, lo.toInt, hi.toInt) → stR w m M U g1 g2 → usP U used p → rwR m (M.1 272) (M.1 273) (M.1 274) p → bsR (envE w m L (sd g1 g2) s0 lo0 hi0) m M B → okB (envE w m L (sd g1 g2) s0 lo0 hi0) B → ∃ M' B', g_X14_chains w n M (Int32.ofNat p.length) used x y lo hi = some M' ∧ rdF M M' ∧ rsE p.length M M' ∧ bsR (envE w m L (sd g1 g2) s0 lo0 hi0) m M' B' ∧ srP (envE w m L (sd g1 g2) s0 lo0 hi0) p B B' := by
  have ja := J.2.2.2.2.1
  have jm := J.2.2.2.2.2.1
  have o1 : ¬ (1 : Int32) = 0 := by decide
  have o2 : ¬ (0 : Int32) = 1 := by decide
  have n30 := (net30 jn).1
  have h80 := ang80 ja
  have hER := env_rng (L := L) (go := sd g1 g2) (s := s0) (lo := lo0) (hi := hi0) J
  have eid : ∀ t i, eSid (envE w m L (sd g1 g2) s0 lo0 hi0) t i = sidV m t i := fun _ _ => by rw [env_id]
  obtain ⟨SL, hSL⟩ : ∃ S, S = sLv w m := ⟨_, rfl⟩
  obtain ⟨SM, hSM⟩ : ∃ S, S = sMv w m := ⟨_, rfl⟩
  have esl : ∀ t i, eSl (envE w m L (sd g1 g2) s0 lo0 hi0) t i = (SL (cnr m t i)).toInt := fun _ _ => by rw [env_sl, hSL]
  have esm : ∀ t i, eSm (envE w m L (sd g1 g2) s0 lo0 hi0) t i = (SM (cnr m t i)).toInt := fun _ _ => by rw [env_sm, hSM]
  have ego : eGo (envE w m L (sd g1 g2) s0 lo0 hi0) = sd g1 g2 := env_go
  have eab : ∀ t, eAb (envE w m L (sd g1 g2) s0 lo0 hi0) t ↔ (t ∈ U ∧ abP w m t) := fun t => by rw [hU t, env_ab, and_assoc]
  obtain ⟨F, hF, hFb⟩ := fuel_ex
  generalize hE : envE w m L (sd g1 g2) s0 lo0 hi0 = E at *
  intro n
  induction n with
  | zero => intro p M B used x y lo hi h7 hp; have := hp.1; omega
  | succ n ih =>
    intro p M B used x y lo hi h7 hp hpn hpa hx hy hxy hr hO hS hus hrw hB hokB
    have lp : p.length ≤ 6 := hp.1
    show ∃ M' B', g_X14_chains_f w (g_X14_chains w n) M _ _ _ _ _ _ = _ ∧ _
    -- behind the node itself
    have rest : ∀ (M1 : rf_m) (B1 : Option (List (Nat × Nat))), rdF M M1 → rsE p.length M M1 → bsR E m M1 B1 → okB E B1 → leB E B1 B → (GC E p → leB E B1 (some p)) → ∃ M' B', g_X14_chains_103 w (g_X14_chains w n) (Int32.ofNat p.length) used x y lo hi M1 = some M' ∧ rdF M M' ∧ rsE p.length M M' ∧ bsR E m M' B' ∧ srP E p B B' := by
      intro M1 B1 f1 r1 b1 k1 l1 l2
      unfold g_X14_chains_103
      by_cases c6 : p.length = 6
      · rw [if_pos (by rw [c6]; rfl)]
        refine ⟨M1, B1, rfl, f1, r1, b1, cov_end l1 l2 (cov_refl k1) (fun z r hgc => ?_)⟩
        have := hgc.1
        rw [List.length_append, List.length_cons] at this
        omega
      · have n6 : ¬ Int32.ofNat p.length = 6 := fun z => c6 ((of_inj (b := 6) (by omega) (by omega)).mp z)
        rw [if_neg n6, hF]
        -- the loop over the triangles
        have key : ∀ k f u Mu Bu, u + k = U.length → k < f → rdF M Mu → rsE p.length M Mu → bsR E m Mu Bu → cov E p B1 Bu (fun z => ∃ v, ∃ h : v < U.length, v < u ∧ U[v] = z.1) → ∃ M' B', g_X14_chains_113 w (g_X14_chains w n) f (Int32.ofNat p.length) used x y lo hi (Int32.ofNat u) Mu = some M' ∧ rdF M M' ∧ rsE p.length M M' ∧ bsR E m M' B' ∧ cov E p B1 B' (fun z => z.1 ∈ U) := by
          intro k
          induction k with
          | zero =>
            intro f u Mu Bu hu hf fu ru bu cu
            obtain ⟨f, rfl⟩ : ∃ g, f = g + 1 := ⟨f - 1, by omega⟩
            have e : u = U.length := by omega
            refine ⟨Mu, Bu, ?_, fu, ru, bu, cov_c cu (fun z hz => ?_)⟩
            · show g_X14_chains_113_b w _ _ _ _ _ _ _ _ _ Mu = _
              unfold g_X14_chains_113_b
              rw [(stR_e hS fu).2.2.2.2.1, e, if_pos (Int32.le_refl _)]
            · obtain ⟨v, hv, e2⟩ := List.getElem_of_mem hz
              exact ⟨v, hv, by omega, e2⟩
          | succ k ihk =>
            intro f u Mu Bu hu hf fu ru bu cu
            obtain ⟨f, rfl⟩ : ∃ g, f = g + 1 := ⟨f - 1, by omega⟩
            have hul : u < U.length := by omega
            have hSu := stR_e hS fu
            obtain ⟨z1, z2, z3, z4, z5, z6, z7, z8⟩ := hSu
            have ht := (hU U[u]).mp (List.getElem_mem hul)
            generalize htt : U[u] = t at *
            have nl : ¬ Int32.ofNat U.length ≤ Int32.ofNat u := nle hul (by omega)
            have g30 := gof (n := u) (N := 30) (by omega) (by decide)
            -- going on with the next triangle
            have nxt' : ∀ (M2 : rf_m) (B2 : Option (List (Nat × Nat))), rdF M M2 → rsE p.length M M2 → bsR E m M2 B2 → cov E p B1 B2 (fun z => (∃ v, ∃ h : v < U.length, v < u ∧ U[v] = z.1) ∨ z.1 = t) → ∃ M' B', g_X14_chains_113 w (g_X14_chains w n) f (Int32.ofNat p.length) used x y lo hi (Int32.ofNat u + 1) M2 = some M' ∧ rdF M M' ∧ rsE p.length M M' ∧ bsR E m M' B' ∧ cov E p B1 B' (fun z => z.1 ∈ U) := by
              intro M2 B2 f2 r2 b2 c2
              rw [of_succ]
              refine ihk f (u + 1) M2 B2 (by omega) (by omega) f2 r2 b2 (cov_c c2 (fun z hz => ?_))
              obtain ⟨v, hv, q1, q2⟩ := hz
              by_cases e : v = u
              · subst e; exact Or.inr (q2.symm.trans htt)
              · exact Or.inl ⟨v, hv, by omega, q2⟩
            show ∃ M' B', g_X14_chains_113_b w _ _ _ _ _ _ _ _ _ Mu = _ ∧ _
            unfold g_X14_chains_113_b g_X14_chains_150
            simp only [rf_vi]
            have z6u := z6 u hul
            rw [htt] at z6u
            rw [z5, if_neg nl, g30, g_t, tn_of (by omega), z6u, bt_sar (by omega)]
            have husu := hus u hul
            rw [htt] at husu
            have m1 : ∀ X : rf_m, g_X14_chains_163 w (g_X14_chains w n) (g_X14_chains_113 w (g_X14_chains w n) f) (Int32.ofNat p.length) used x y lo hi (Int32.ofNat u) (Int32.ofNat t) (-1) X = g_X14_chains_113 w (g_X14_chains w n) f (Int32.ofNat p.length) used x y lo hi (Int32.ofNat u + 1) X := fun X => by
              unfold g_X14_chains_163 g_X14_chains_381
              rw [if_pos rfl]
            by_cases c1 : bt used u = true
            · rw [if_pos c1, if_pos rfl, m1]
              exact nxt' Mu Bu fu ru bu (cov_skip cu (fun z r hz hgc => (GC_st hgc).1 (by rw [hz]; exact husu.mp c1)))
            · rw [if_neg c1, if_neg o2, carries_r ja jn z1 z4 ht.1, b_sm]
              by_cases c2 : abP w m t
              · have hab : eAb E t := (eab t).mpr ⟨by rw [← htt]; exact List.getElem_mem hul, c2⟩
                have hop := opp_r (w := w) (L := L) (go := sd g1 g2) (s := s0) (lo := lo0) (hi := hi0) jn ja jm ht.1 hx hy z1 z2 z3
                rw [hE] at hop
                rw [bi_t c2, if_neg o1, hop, b_sm]
                cases hpl : plc E t (sd x y) with
                | none =>
                  show ∃ M' B', g_X14_chains_163 w _ _ _ _ _ _ _ _ _ _ (-1) Mu = _ ∧ _
                  rw [m1]
                  refine nxt' Mu Bu fu ru bu (cov_skip cu (fun z r hz => no_st hr ?_ r))
                  unfold stp
                  rw [hz, hpl]
                | some o =>
                  obtain ⟨o3, ho⟩ := plc_some hpl
                  show ∃ M' B', g_X14_chains_163 w _ _ _ _ _ _ _ _ _ _ (Int32.ofNat o) Mu = _ ∧ _
                  unfold g_X14_chains_163
                  have nm : ¬ Int32.ofNat o = -1 := fun z => by
                    have := i_eq.mp z
                    rw [ofI (by omega)] at this
                    have k : (-1 : Int32).toInt = -1 := by decide
                    omega
                  simp only [rf_vi]
                  rw [if_neg nm, t3', gof (by omega) (by decide), g_t, tn_of (by omega), z1, hF]
                  -- the loop over its places
                  have key2 : ∀ k2 f2 i M2 B2, i + k2 = 3 → k2 < f2 → rdF M M2 → rsE p.length M M2 → bsR E m M2 B2 → cov E p B1 B2 (fun z => (∃ v, ∃ h : v < U.length, v < u ∧ U[v] = z.1) ∨ (z.1 = t ∧ z.2 < i)) → ∃ M' B', g_X14_chains_191 w (g_X14_chains w n) (g_X14_chains_113 w (g_X14_chains w n) f) f2 (Int32.ofNat p.length) used x y lo hi (Int32.ofNat u) (Int32.ofNat t) (Int32.ofNat o) (m.1 243 (3 * t + o)) (Int32.ofNat i) M2 = some M' ∧ rdF M M' ∧ rsE p.length M M' ∧ bsR E m M' B' ∧ cov E p B1 B' (fun z => z.1 ∈ U) := by
                    intro k2
                    induction k2 with
                    | zero =>
                      intro f2 i M2 B2 hi2 hf2 fu2 ru2 bu2 cu2
                      obtain ⟨f2, rfl⟩ : ∃ g, f2 = g + 1 := ⟨f2 - 1, by omega⟩
                      have e : i = 3 := by omega
                      subst e
                      show ∃ M' B', g_X14_chains_191_b w _ _ _ _ _ _ _ _ _ _ _ _ _ _ M2 = _ ∧ _
                      unfold g_X14_chains_191_b g_X14_chains_381
                      have p3 : (3 : Int32) ≤ Int32.ofNat 3 := by decide
                      rw [if_pos p3]
                      refine nxt' M2 B2 fu2 ru2 bu2 (cov_c (cov_skip (D := fun z => z.1 = t ∧ 3 ≤ z.2) cu2 (fun z r hz => no_st hr ?_ r)) (fun z hz => ?_))
                      · unfold stp
                        rw [hz.1, hpl]
                        show (if z.2 = o ∨ 3 ≤ z.2 ∨ _ then none else _) = none
                        rw [if_pos (Or.inr (Or.inl hz.2))]
                      · rcases hz with hz | hz
                        · exact Or.inl (Or.inl hz)
                        · by_cases q : z.2 < 3
                          · exact Or.inl (Or.inr ⟨hz, q⟩)
                          · exact Or.inr ⟨hz, by omega⟩
                    | succ k2 ihk2 =>
                      intro f2 i M2 B2 hi2 hf2 fu2 ru2 bu2 cu2
                      obtain ⟨f2, rfl⟩ : ∃ g, f2 = g + 1 := ⟨f2 - 1, by omega⟩
                      have i3 : i < 3 := by omega
                      have g1' : ¬ (3 : Int32) ≤ Int32.ofNat i := nle (R := 3) i3 (by decide)
                      have onx : ∀ (M3 : rf_m) (B3 : Option (List (Nat × Nat))), rdF M M3 → rsE p.length M M3 → bsR E m M3 B3 → cov E p B1 B3 (fun z => ((∃ v, ∃ h : v < U.length, v < u ∧ U[v] = z.1) ∨ (z.1 = t ∧ z.2 < i)) ∨ z = (t, i)) → ∃ M' B', g_X14_chains_191 w (g_X14_chains w n) (g_X14_chains_113 w (g_X14_chains w n) f) f2 (Int32.ofNat p.length) used x y lo hi (Int32.ofNat u) (Int32.ofNat t) (Int32.ofNat o) (m.1 243 (3 * t + o)) (Int32.ofNat i + 1) M3 = some M' ∧ rdF M M' ∧ rsE p.length M M' ∧ bsR E m M' B' ∧ cov E p B1 B' (fun z => z.1 ∈ U) := by
                        intro M3 B3 f3 r3 b3 c3
                        rw [of_succ]
                        refine ihk2 f2 (i + 1) M3 B3 (by omega) (by omega) f3 r3 b3 (cov_c c3 (fun z hz => ?_))
                        rcases hz with hz | ⟨hz1, hz2⟩
                        · exact Or.inl (Or.inl hz)
                        · by_cases q : z.2 = i
                          · exact Or.inr (Prod.ext hz1 q)
                          · exact Or.inl (Or.inr ⟨hz1, by omega⟩)
                      show ∃ M' B', g_X14_chains_191_b w _ _ _ _ _ _ _ _ _ _ _ _ _ _ M2 = _ ∧ _
                      unfold g_X14_chains_191_b g_X14_chains_375
                      simp only [rf_vi, rf_vl]
                      rw [if_neg g1']
                      by_cases ei : i = o
                      · rw [if_pos (by rw [ei])]
                        refine onx M2 B2 fu2 ru2 bu2 (cov_skip cu2 (fun z r hz => no_st hr ?_ r))
                        rw [hz]
                        unfold stp
                        show (match plc E t (sd x y) with | none => none | some o => if i = o ∨ _ then none else _) = none
                        rw [hpl]
                        show (if i = o ∨ _ then none else _) = none
                        rw [if_pos (Or.inl ei)]
                      · have ei' : ¬ Int32.ofNat i = Int32.ofNat o := fun z => ei ((of_inj (by omega) (by omega)).mp z)
                        obtain ⟨y1, y2, y3, y4, y5, y6, y7, y8⟩ := stR_e hS fu2
                        obtain ⟨qi1, qi2⟩ := net_t jn ja ht.1 i3
                        obtain ⟨qo1, qo2⟩ := net_t jn ja ht.1 o3
                        have so := (y4 _ qo2).2 (c2 o o3)
                        have si := (y4 _ qi2).2 (c2 i i3)
                        rw [← hSL, ← hSM] at so si
                        obtain ⟨ro1, ro2, ro3⟩ := hER t hab o o3
                        obtain ⟨ri1, ri2, ri3⟩ := hER t hab i i3
                        rw [esl] at ro1 ro2 ri1 ri2
                        rw [esm] at ro2 ro3 ri2 ri3
                        have hO1 : 0 ≤ lo.toInt := hO.1
                        have hO2 : lo.toInt ≤ hi.toInt := hO.2.1
                        have hO3 : hi.toInt ≤ 1000000000 := hO.2.2
                        have cv := carLo (a := Int32.toInt64 lo) (b := Int32.toInt64 (SL (cnr m t i))) (c := Int32.toInt64 (SM (cnr m t o))) (by rw [i2l]; omega) (by rw [i2l]; omega) (by rw [i2l]; omega) (by rw [i2l]; omega) (by rw [i2l]; omega)
                        have cw := carHi (a := Int32.toInt64 hi) (b := Int32.toInt64 (SM (cnr m t i))) (c := Int32.toInt64 (SL (cnr m t o))) (by rw [i2l]; omega) (by rw [i2l]; omega) (by rw [i2l]; omega) (by rw [i2l]; omega) (by rw [i2l]; omega) (by rw [i2l]; omega)
                        rw [i2l, i2l, i2l] at cv cw
                        have eL : loN E t o i lo.toInt = lo.toInt * (SL (cnr m t i)).toInt / (SM (cnr m t o)).toInt := by unfold loN; rw [esl, esm]
                        have eH : hiN E t o i hi.toInt = (hi.toInt * (SM (cnr m t i)).toInt + (SL (cnr m t o)).toInt - 1) / (SL (cnr m t o)).toInt := by unfold hiN; rw [esl, esm]
                        rw [← eL] at cv
                        rw [← eH] at cw
                        obtain ⟨sp1, sp2, _⟩ := span_ok hER hab o3 i3 hO1 hO2
                        have nz1 : rf_nzl (Int32.toInt64 (SM (cnr m t o))) = true := nzl_of (by rw [i2l]; omega)
                        have nz2 : rf_nzl (Int32.toInt64 (SL (cnr m t o))) = true := nzl_of (by rw [i2l]; omega)
                        have eo : M2.1 269 (m.1 243 (3 * t + o)).toNatClampNeg = SM (cnr m t o) := so.2
                        have eo' : M2.1 268 (m.1 243 (3 * t + o)).toNatClampNeg = SL (cnr m t o) := so.1
                        have ei1 : M2.1 269 (m.1 243 (3 * t + i)).toNatClampNeg = SM (cnr m t i) := si.2
                        have ei2 : M2.1 268 (m.1 243 (3 * t + i)).toNatClampNeg = SL (cnr m t i) := si.1
                        rw [if_neg ei', t3', gof (by omega) (by decide), g_t, tn_of (by omega), y1, in_ib qi1, g_t, in_ib qo1, g_t, eo, nz1, g_t, g_t, g_t, g_t, eo', nz2, g_t, ei1, ei2]
                        by_cases cM : hiN E t o i hi.toInt ≤ 1000000000
                        · have k9 : (1000000000 : Int64).toInt = 1000000000 := by decide
                          have cM' : lg_cmp ((Int32.toInt64 hi * Int32.toInt64 (SM (cnr m t i)) + Int32.toInt64 (SL (cnr m t o)) - 1) / Int32.toInt64 (SL (cnr m t o))) 1000000000 ≤ 0 := by
                            refine Int32.not_lt.mp (fun z => ?_)
                            rw [cmp_pos, cw, k9] at z
                            omega
                          rw [if_pos cM']
                          simp only [g_t]
                          have g6 := gof (n := p.length) (N := 6) (by omega) (by decide)
                          have gm : ∀ (Y : rf_m) (u v : Int32), g_min w Y u v = some (if v < u then v else u, Y) := fun Y u v => by unfold g_min; split <;> rfl
                          have gx : ∀ (Y : rf_m) (u v : Int32), g_max w Y u v = some (if u < v then v else u, Y) := fun Y u v => by unfold g_max; split <;> rfl
                          rw [g6, tn_of (by omega)]
                          simp only [g_t]
                          have e8 : (rf_i M2 272 p.length (Int32.ofNat t)).1 218 = m.1 218 := by rw [rf_i_c, if_neg (by decide)]; exact y2
                          have e9 : (rf_i M2 272 p.length (Int32.ofNat t)).1 219 = m.1 219 := by rw [rf_i_c, if_neg (by decide)]; exact y3
                          rw [e8, e9, gm, b_sm]
                          have on1 : (if m.1 219 (m.1 243 (3 * t + i)).toNatClampNeg < m.1 218 (m.1 243 (3 * t + i)).toNatClampNeg then m.1 219 (m.1 243 (3 * t + i)).toNatClampNeg else m.1 218 (m.1 243 (3 * t + i)).toNatClampNeg) = onV m t i := rfl
                          have ot1 : (if m.1 218 (m.1 243 (3 * t + i)).toNatClampNeg < m.1 219 (m.1 243 (3 * t + i)).toNatClampNeg then m.1 219 (m.1 243 (3 * t + i)).toNatClampNeg else m.1 218 (m.1 243 (3 * t + i)).toNatClampNeg) = otV m t i := rfl
                          rw [on1]
                          have e8' : (rf_i (rf_i M2 272 p.length (Int32.ofNat t)) 273 p.length (onV m t i)).1 218 = m.1 218 := by rw [rf_i_c, if_neg (by decide)]; exact e8
                          have e9' : (rf_i (rf_i M2 272 p.length (Int32.ofNat t)) 273 p.length (onV m t i)).1 219 = m.1 219 := by rw [rf_i_c, if_neg (by decide)]; exact e9
                          rw [e8', e9', gx, b_sm, ot1]
                          generalize hM3 : rf_i (rf_i (rf_i M2 272 p.length (Int32.ofNat t)) 273 p.length (onV m t i)) 274 p.length (otV m t i) = M3
                          have c272 : M3.1 272 = pu (M2.1 272) p.length (Int32.ofNat t) := by rw [← hM3, rf_i_c, if_neg (by decide), rf_i_c, if_neg (by decide), rf_i_c, if_pos rfl]
                          have c273 : M3.1 273 = pu (M2.1 273) p.length (onV m t i) := by rw [← hM3, rf_i_c, if_neg (by decide), rf_i_c, if_pos rfl, rf_i_c, if_neg (by decide)]
                          have c274 : M3.1 274 = pu (M2.1 274) p.length (otV m t i) := by rw [← hM3, rf_i_c, if_pos rfl, rf_i_c, if_neg (by decide), rf_i_c, if_neg (by decide)]
                          have cz : ∀ z, z ≠ 272 → z ≠ 273 → z ≠ 274 → M3.1 z = M2.1 z := fun z q1 q2 q3 => by rw [← hM3, rf_i_c, if_neg q3, rf_i_c, if_neg q2, rf_i_c, if_neg q1]
                          have c2l : M3.2 = M2.2 := by rw [← hM3]; rfl
                          have f23 : rdF M2 M3 := ⟨fun z q1 q2 => cz z (by omega) (by omega) (by omega), fun k _ => by rw [cz 206 (by decide) (by decide) (by decide)], c2l⟩
                          have a273 : M3.1 273 p.length = onV m t i := by rw [c273, pu_at]
                          have a274 : M3.1 274 p.length = otV m t i := by rw [c274, pu_at]
                          have stE : stp E (sd x y, lo.toInt, hi.toInt) (t, i) = some (sidV m t i, loN E t o i lo.toInt, hiN E t o i hi.toInt) := by
                            unfold stp
                            show (match plc E t (sd x y) with | none => none | some o => if i = o ∨ 3 ≤ i ∨ 1000000000 < hiN E t o i hi.toInt then none else some (eSid E t i, loN E t o i lo.toInt, hiN E t o i hi.toInt)) = _
                            rw [hpl]
                            show (if i = o ∨ 3 ≤ i ∨ 1000000000 < hiN E t o i hi.toInt then none else some (eSid E t i, loN E t o i lo.toInt, hiN E t o i hi.toInt)) = _
                            rw [if_neg (fun q => by rcases q with q | q | q; exact ei q; omega; omega), eid]
                          have vI : (Int64.toInt32 (Int32.toInt64 lo * Int32.toInt64 (SL (cnr m t i)) / Int32.toInt64 (SM (cnr m t o)))).toInt = loN E t o i lo.toInt := by rw [l2i (by rw [cv]; omega) (by rw [cv]; omega), cv]
                          have wI : (Int64.toInt32 ((Int32.toInt64 hi * Int32.toInt64 (SM (cnr m t i)) + Int32.toInt64 (SL (cnr m t o)) - 1) / Int32.toInt64 (SL (cnr m t o)))).toInt = hiN E t o i hi.toInt := by rw [l2i (by rw [cw]; omega) (by rw [cw]; omega), cw]
                          have sdo : sd (onV m t i) (otV m t i) = sidV m t i := by rw [sd_ord on_le, sid_on]
                          obtain ⟨ibo, ibt⟩ := on_ib jn ja jm ht.1 i3
                          have ntp : t ∉ p.map (fun z => z.1) := fun q => c1 (husu.mpr q)
                          have hus' := us_snoc (i := i) hU8 hUn hus hul
                          rw [htt] at hus'
                          obtain ⟨M4, B4, h1, h2, h3, h4, h5⟩ := ih (p ++ [(t, i)]) M3 B2 (used ||| ((1 : Int32) <<< (Int32.ofNat u &&& 31))) (onV m t i) (otV m t i) (Int64.toInt32 (Int32.toInt64 lo * Int32.toInt64 (SL (cnr m t i)) / Int32.toInt64 (SM (cnr m t o)))) (Int64.toInt32 ((Int32.toInt64 hi * Int32.toInt64 (SM (cnr m t i)) + Int32.toInt64 (SL (cnr m t o)) - 1) / Int32.toInt64 (SL (cnr m t o)))) (by rw [List.length_append]; show 7 ≤ p.length + 1 + n; omega) (by
                              refine ⟨by rw [List.length_append]; show p.length + 1 ≤ 6; omega, fun z hz => ?_⟩
                              rcases List.mem_append.mp hz with q | q
                              · exact hp.2 z q
                              · rw [List.mem_singleton.mp q]; exact ⟨ht.1, i3⟩) (by
                              rw [List.map_append]
                              refine List.nodup_append.mpr ⟨hpn, by simp, fun a ha b hb => ?_⟩
                              have : b = t := by simpa using hb
                              rw [this]
                              exact fun q => ntp (q ▸ ha)) (by
                              intro z hz
                              rcases List.mem_append.mp hz with q | q
                              · exact hpa z q
                              · rw [List.mem_singleton.mp q]; exact hab) ibo ibt on_le (by
                              rw [rnE_snoc, hr, vI, wI, sdo]
                              exact stE) (by
                              rw [vI, wI]
                              exact ⟨sp1, sp2, cM⟩) (stR_e hS (rdF_trans fu2 f23)) hus' (by
                              rw [c272, c273, c274]
                              exact rw_snoc (rw_e hrw ru2)) (bsR_e bu2 (fun k _ => by rw [cz 206 (by decide) (by decide) (by decide)]) (fun z hz => cz z (by omega) (by omega) (by omega))) cu2.1
                          rw [List.length_append] at h1 h3
                          have h1 : g_X14_chains w n M3 (Int32.ofNat (p.length + 1)) _ _ _ _ _ = some M4 := h1
                          have h3 : rsE (p.length + 1) M3 M4 := h3
                          rw [← of_succ] at h1
                          rw [a273, a274, h1, bv_sm]
                          refine onx M4 B4 (rdF_trans fu2 (rdF_trans f23 h2)) (fun j hj => ?_) h4 (cov_step cu2 h5)
                          obtain ⟨w1, w2, w3⟩ := h3 j (by omega)
                          rw [w1, w2, w3, c272, c273, c274, pu_ne (by omega), pu_ne (by omega), pu_ne (by omega)]
                          exact ru2 j hj
                        · have k9 : (1000000000 : Int64).toInt = 1000000000 := by decide
                          have cM' : ¬ lg_cmp ((Int32.toInt64 hi * Int32.toInt64 (SM (cnr m t i)) + Int32.toInt64 (SL (cnr m t o)) - 1) / Int32.toInt64 (SL (cnr m t o))) 1000000000 ≤ 0 := fun z => by
                            have z' := Int32.not_lt.mpr z
                            rw [cmp_pos, cw, k9] at z'
                            omega
                          rw [if_neg cM']
                          refine onx M2 B2 fu2 ru2 bu2 (cov_skip cu2 (fun z r hz => no_st hr ?_ r))
                          rw [hz]
                          unfold stp
                          show (match plc E t (sd x y) with | none => none | some o => if i = o ∨ 3 ≤ i ∨ 1000000000 < hiN E t o i hi.toInt then none else some (eSid E t i, loN E t o i lo.toInt, hiN E t o i hi.toInt)) = _
                          rw [hpl]
                          show (if i = o ∨ 3 ≤ i ∨ 1000000000 < hiN E t o i hi.toInt then none else some (eSid E t i, loN E t o i lo.toInt, hiN E t o i hi.toInt)) = _
                          rw [if_pos (Or.inr (Or.inr (by omega)))]
                  exact key2 3 F 0 Mu Bu (by omega) (by omega) fu ru bu (cov_c cu (fun z hz => hz.elim id (fun q => by omega)))
              · rw [bi_f c2, if_pos rfl, m1]
                exact nxt' Mu Bu fu ru bu (cov_skip cu (fun z r hz hgc => c2 (((eab t).mp (hz ▸ (GC_st hgc).2.1)).2)))
        obtain ⟨M', B', h1, h2, h3, h4, h5⟩ := key U.length F 0 M1 B1 (by omega) (by omega) f1 r1 b1 (cov_c (cov_refl k1) (fun z ⟨v, _, q, _⟩ => by omega))
        exact ⟨M', B', h1, h2, h3, h4, cov_end l1 l2 h5 (fun z r hgc => ((eab z.1).mp (GC_st hgc).2.1).1)⟩
    unfold g_X14_chains_f
    rw [hS.2.2.2.2.2.2.1, hS.2.2.2.2.2.2.2]
    have gi := goal_iff hx hy hg1 hg2 hxy hg
    have notG : ¬ (x = g1 ∧ y = g2) → ∃ M' B', g_X14_chains_103 w (g_X14_chains w n) (Int32.ofNat p.length) used x y lo hi M = some M' ∧ rdF M M' ∧ rsE p.length M M' ∧ bsR E m M' B' ∧ srP E p B B' := fun hn => by
      refine rest M B (rdF_refl M) (fun _ _ => ⟨rfl, rfl, rfl⟩) hB hokB (leB_refl B) (fun hgc => ?_)
      obtain ⟨_, _, _, a, b, e⟩ := hgc
      rw [hr, ego] at e
      injection e with e
      injection e with e _
      exact absurd (gi.mpr e) hn
    by_cases d1 : x = g1
    · rw [if_pos d1]
      by_cases d2 : y = g2
      · rw [if_pos d2]
        have sg := gi.mp ⟨d1, d2⟩
        have gcp : GC E p := ⟨lp, hpn, hpa, lo.toInt, hi.toInt, by rw [hr, ego, sg]⟩
        have bb := better_r (w := w) (L := L) (go := sd g1 g2) (s := s0) (lo0 := lo0) (hi0 := hi0) (B := B) jn ja jm hp hrw (by rw [hE]; exact hr) hO (by rw [hE]; exact hB)
        rw [hE] at bb
        rw [bb, b_sm]
        by_cases d3 : ∀ q, B = some q → lx (kpE E p) (kpE E q)
        · rw [bi_t d3, if_neg o1]
          have sg' : sd x y = eGo E := by rw [ego]; exact sg
          rw [sg'] at hr hO
          obtain ⟨M2, k1, k2, k3, k4⟩ := node_k (w := w) (rc := g_X14_chains w n) (used := used) (x := x) (y := y) hp hr hO hrw
          rw [k1]
          exact rest M2 (some p) k2 k3 k4 (fun q hq => by injection hq with hq; rw [← hq]; exact gcp) (fun b hb => ⟨p, rfl, lek_of (d3 b hb)⟩) (fun _ => leB_refl _)
        · rw [bi_f d3, if_pos rfl]
          refine rest M B (rdF_refl M) (fun _ _ => ⟨rfl, rfl, rfl⟩) hB hokB (leB_refl B) (fun _ b hb => ?_)
          injection hb with hb
          rw [← hb]
          obtain ⟨q, hq⟩ := Classical.not_forall.mp d3
          have hq1 : B = some q := Classical.byContradiction fun z => hq (fun y => absurd y z)
          exact ⟨q, hq1, fun z => hq (fun _ => z)⟩
      · rw [if_neg d2]
        exact notG (fun q => d2 q.2)
    · rw [if_neg d1]
      exact notG (fun q => d1 q.1)
end PBChainX
