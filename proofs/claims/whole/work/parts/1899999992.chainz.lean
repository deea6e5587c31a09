/-! chains: the class's search -/
section PBChainZ
theorem dfs_c {c : Nat} {w : rf_w} {m : rf_m} {L go s0 : Int32} {lo0 hi0 sh : Int} {A : List Nat} (J : JCnt c w m) (jn : JNet m) (hA : ∀ t, t ∈ A ↔ (t < (m.1 206 64).toNatClampNeg ∧ wlI (tmF w m t) L 3 0 ≠ 0 ∧ abP w m t)) (hA8 : A.length ≤ 8) (hAn : A.Nodup) (hSh : eShr (envE w m L go s0 lo0 hi0) sh) : ∀ n (p : List (Nat × Nat)) (X : rf_m) (B : Option (List (Nat × Nat))) (used s : Int32) (lo hi : Int64), 7 ≤ p.length + n → pOK m p → (p.map (fun z => z.1)).Nodup → (∀ z, z ∈ p → eAb (envE w m L go s0 lo0 hi0) z.1) → rnE (envE w m L go s0 lo0 hi0) p = some (s, lo.toInt, hi.toInt) → stO (s, lo.toInt, hi.toInt) → chS w m X A go sh → usP A used p → rwC m (X.1 181) p → bsC (envE w m L go s0 lo0 hi0) m X B → okB (envE w m L go s0 lo0 hi0) B → ∃ X' B', g_X4_extend w n X (Int32.ofNat p.length) used s lo hi = some X' ∧ cdF X X' ∧ rcE p.length X X' ∧ bsC (envE w m L go s0 lo0 hi0) m X' B' ∧ srP (envE w m L go s0 lo0 hi0) p B B' := by
  have ja := J.2.2.2.2.1
  have jm := J.2.2.2.2.2.1
  have o1 : ¬ (1 : Int32) = 0 := by decide
  have n30 := (net30 jn).1
  have hER := env_rng (L := L) (go := go) (s := s0) (lo := lo0) (hi := hi0) J
  have eidf : eSid (envE w m L go s0 lo0 hi0) = sidV m := env_id
  obtain ⟨SL, hSL⟩ : ∃ S, S = sLv w m := ⟨_, rfl⟩
  obtain ⟨SM, hSM⟩ : ∃ S, S = sMv w m := ⟨_, rfl⟩
  have esl : ∀ t i, eSl (envE w m L go s0 lo0 hi0) t i = (SL (cnr m t i)).toInt := fun _ _ => by rw [env_sl, hSL]
  have esm : ∀ t i, eSm (envE w m L go s0 lo0 hi0) t i = (SM (cnr m t i)).toInt := fun _ _ => by rw [env_sm, hSM]
  have ego : eGo (envE w m L go s0 lo0 hi0) = go := env_go
  have eab : ∀ t, eAb (envE w m L go s0 lo0 hi0) t ↔ t ∈ A := fun t => by rw [hA t, env_ab]
  obtain ⟨F, hF, hFb⟩ := fuel_ex
  generalize hE : envE w m L go s0 lo0 hi0 = E at *
  have eid : ∀ t i, eSid E t i = sidV m t i := fun t i => by rw [eidf]
  intro n
  induction n with
  | zero => intro p X B used s lo hi h7 hp; have := hp.1; omega
  | succ n ih =>
    intro p X B used s lo hi h7 hp hpn hpa hr hO hS hus hrw hB hokB
    have lp : p.length ≤ 6 := hp.1
    show ∃ X' B', g_X4_extend_f w (g_X4_extend w n) X _ _ _ _ _ = _ ∧ _
    -- behind the node itself
    have rest : ∀ (X1 : rf_m) (B1 : Option (List (Nat × Nat))), cdF X X1 → rcE p.length X X1 → bsC E m X1 B1 → okB E B1 → leB E B1 B → (GC E p → leB E B1 (some p)) → ∃ X' B', g_X4_extend_53 w (g_X4_extend w n) (Int32.ofNat p.length) used s lo hi X1 = some X' ∧ cdF X X' ∧ rcE p.length X X' ∧ bsC E m X' B' ∧ srP E p B B' := by
      intro X1 B1 f1 r1 b1 k1 l1 l2
      unfold g_X4_extend_53
      by_cases c6 : p.length = 6
      · have q6 : (6 : Int32) ≤ Int32.ofNat p.length := by rw [c6]; decide
        rw [if_pos q6]
        refine ⟨X1, B1, rfl, f1, r1, b1, cov_end l1 l2 (cov_refl k1) (fun z r hgc => ?_)⟩
        have := hgc.1
        rw [List.length_append, List.length_cons] at this
        omega
      · have n6 : ¬ (6 : Int32) ≤ Int32.ofNat p.length := nle (R := 6) (by omega) (by decide)
        obtain ⟨y1, y2, y3, y4⟩ := chS_e hS f1
        have hp1 := hope_c (w := w) (X := X1) (p := p) (B := B1) lp (by rw [y3]; exact hSh.1) (by rw [y3]; exact hSh.2.1) hO b1
        rw [if_neg n6, hp1, b_sm]
        by_cases ch : ∃ q, B1 = some q ∧ ((X1.2 175 17).toInt - (X1.2 175 16).toInt < itr (X1.2 175 12).toInt (6 - p.length) (hi.toInt - lo.toInt) ∨ (itr (X1.2 175 12).toInt (6 - p.length) (hi.toInt - lo.toInt) = (X1.2 175 17).toInt - (X1.2 175 16).toInt ∧ q.length ≤ p.length))
        · rw [bi_t ch, if_neg o1]
          obtain ⟨q, hq, hh⟩ := ch
          refine ⟨X1, B1, rfl, f1, r1, b1, cov_end (C := fun _ => True) l1 l2 ⟨k1, leB_refl _, fun x r _ hgc => ?_⟩ (fun _ _ _ => trivial)⟩
          rw [hq] at b1
          rw [y3] at hh
          intro b hb
          injection hb with hb
          rw [← hb]
          exact ⟨q, hq, hope_no hER hSh hr hO b1.2.1 hh x r hgc⟩
        · rw [bi_f ch, if_pos rfl, hF]
          clear ch hp1 y1 y2 y3 y4
          -- the loop over the triangles
          have key : ∀ k f u Xu Bu, u + k = A.length → k < f → cdF X Xu → rcE p.length X Xu → bsC E m Xu Bu → cov E p B1 Bu (fun z => ∃ v, ∃ h : v < A.length, v < u ∧ A[v] = z.1) → ∃ X' B', g_X4_extend_76 w (g_X4_extend w n) f (Int32.ofNat p.length) used s lo hi (Int32.ofNat u) Xu = some X' ∧ cdF X X' ∧ rcE p.length X X' ∧ bsC E m X' B' ∧ cov E p B1 B' (fun z => z.1 ∈ A) := by
            intro k
            induction k with
            | zero =>
              intro f u Xu Bu hu hf fu ru bu cu
              obtain ⟨f, rfl⟩ : ∃ g, f = g + 1 := ⟨f - 1, by omega⟩
              have e : u = A.length := by omega
              refine ⟨Xu, Bu, ?_, fu, ru, bu, cov_c cu (fun z hz => ?_)⟩
              · show g_X4_extend_76_b w _ _ _ _ _ _ _ _ Xu = _
                unfold g_X4_extend_76_b
                rw [(chS_e hS fu).1, e, if_pos (Int32.le_refl _)]
              · obtain ⟨v, hv, e2⟩ := List.getElem_of_mem hz
                exact ⟨v, hv, by omega, e2⟩
            | succ k ihk =>
              intro f u Xu Bu hu hf fu ru bu cu
              obtain ⟨f, rfl⟩ : ∃ g, f = g + 1 := ⟨f - 1, by omega⟩
              have hul : u < A.length := by omega
              obtain ⟨z1, z2, z3, z4⟩ := chS_e hS fu
              have hAt : A[u] ∈ A := List.getElem_mem hul
              have z4u := z4 u hul
              have husu := hus u hul
              have hus' := fun i => us_snoc (i := i) hA8 hAn hus hul
              have cuE : ∀ z : Nat × Nat, (∃ v, ∃ h : v < A.length, v < u + 1 ∧ A[v] = z.1) → (∃ v, ∃ h : v < A.length, v < u ∧ A[v] = z.1) ∨ z.1 = A[u] := fun z ⟨v, hv, q1, q2⟩ => by
                by_cases e : v = u
                · subst e; exact Or.inr q2.symm
                · exact Or.inl ⟨v, hv, by omega, q2⟩
              generalize htt : A[u] = t at *
              have ht := (hA t).mp hAt
              have hab : eAb E t := (eab t).mpr hAt
              have nl : ¬ Int32.ofNat A.length ≤ Int32.ofNat u := nle hul (by omega)
              -- going on with the next triangle
              have nxt' : ∀ (X2 : rf_m) (B2 : Option (List (Nat × Nat))), cdF X X2 → rcE p.length X X2 → bsC E m X2 B2 → cov E p B1 B2 (fun z => (∃ v, ∃ h : v < A.length, v < u ∧ A[v] = z.1) ∨ z.1 = t) → ∃ X' B', g_X4_extend_76 w (g_X4_extend w n) f (Int32.ofNat p.length) used s lo hi (Int32.ofNat u + 1) X2 = some X' ∧ cdF X X' ∧ rcE p.length X X' ∧ bsC E m X' B' ∧ cov E p B1 B' (fun z => z.1 ∈ A) := by
                intro X2 B2 f2 r2 b2 c2
                rw [of_succ]
                exact ihk f (u + 1) X2 B2 (by omega) (by omega) f2 r2 b2 (cov_c c2 cuE)
              show ∃ X' B', g_X4_extend_76_b w _ _ _ _ _ _ _ _ Xu = _ ∧ _
              unfold g_X4_extend_76_b g_X4_extend_105
              rw [z1, if_neg nl, bt_shr (by omega), hF]
              obtain ⟨F', rfl⟩ : ∃ g, F = g + 3 := ⟨F - 3, by omega⟩
              have m1 : ∀ Y : rf_m, g_X4_extend_110 w (g_X4_extend w n) (g_X4_extend_76 w (g_X4_extend w n) f) (F' + 3) (Int32.ofNat p.length) used s lo hi (Int32.ofNat u) (-1) 1 Y = g_X4_extend_76 w (g_X4_extend w n) f (Int32.ofNat p.length) used s lo hi (Int32.ofNat u + 1) Y := fun Y => by
                show g_X4_extend_110_b w _ _ _ _ _ _ _ _ _ _ _ Y = _
                unfold g_X4_extend_110_b g_X4_extend_260
                have p2 : ¬ (2 : Int32) < 1 := by decide
                rw [if_neg p2, if_pos rfl]
              by_cases c1 : bt used u = true
              · rw [if_pos c1, if_neg o1, m1]
                exact nxt' Xu Bu fu ru bu (cov_skip cu (fun z r hz hgc => (GC_st hgc).1 (by rw [hz]; exact husu.mp c1)))
              · have hpl0 := place_c (w := w) (X := Xu) (E := E) (a := u) (t := t) (s := s) (by omega) eidf (fun i hi => (z4u.2 i hi).1)
                rw [if_neg c1, if_pos rfl, hpl0, b_sm]
                cases hpl : plc E t s with
                | none =>
                  show ∃ X' B', g_X4_extend_110 w _ _ _ _ _ _ _ _ _ (-1) 1 Xu = _ ∧ _
                  rw [m1]
                  refine nxt' Xu Bu fu ru bu (cov_skip cu (fun z r hz => no_st hr ?_ r))
                  unfold stp
                  rw [hz, hpl]
                | some o =>
                  obtain ⟨o3, ho⟩ := plc_some hpl
                  show ∃ X' B', g_X4_extend_110 w _ _ _ _ _ _ _ _ _ (Int32.ofNat o) 1 Xu = _ ∧ _
                  have nm : ¬ Int32.ofNat o = -1 := fun z => by
                    have := i_eq.mp z
                    rw [ofI (by omega)] at this
                    have k : (-1 : Int32).toInt = -1 := by decide
                    omega
                  have ntp : t ∉ p.map (fun z => z.1) := fun q => c1 (husu.mpr q)
                  have hO1 : 0 ≤ lo.toInt := hO.1
                  have hO2 : lo.toInt ≤ hi.toInt := hO.2.1
                  have hO3 : hi.toInt ≤ 1000000000 := hO.2.2
                  -- one turn
                  have turn : ∀ (k f2 : Nat) (X2 : rf_m) (B2 : Option (List (Nat × Nat))) (C : Nat × Nat → Prop), k < 2 → cdF X X2 → rcE p.length X X2 → bsC E m X2 B2 → cov E p B1 B2 C → ∃ X3 B3, g_X4_extend_110 w (g_X4_extend w n) (g_X4_extend_76 w (g_X4_extend w n) f) (f2 + 1) (Int32.ofNat p.length) used s lo hi (Int32.ofNat u) (Int32.ofNat o) (Int32.ofNat (k + 1)) X2 = g_X4_extend_110 w (g_X4_extend w n) (g_X4_extend_76 w (g_X4_extend w n) f) f2 (Int32.ofNat p.length) used s lo hi (Int32.ofNat u) (Int32.ofNat o) (Int32.ofNat (k + 2)) X3 ∧ cdF X X3 ∧ rcE p.length X X3 ∧ bsC E m X3 B3 ∧ cov E p B1 B3 (fun z => C z ∨ z = (t, (o + (k + 1)) % 3)) := by
                    intro k f2 X2 B2 C k2 fu2 ru2 bu2 cu2
                    have i3 : (o + (k + 1)) % 3 < 3 := Nat.mod_lt _ (by decide)
                    have ine : (o + (k + 1)) % 3 ≠ o := by omega
                    have md := mod3 o o3 k k2
                    generalize (o + (k + 1)) % 3 = i at *
                    obtain ⟨y1, y2, y3, y4⟩ := chS_e hS fu2
                    have y4u := y4 u hul
                    rw [htt] at y4u
                    have y4o := y4u.2 o o3
                    have y4i := y4u.2 i i3
                    rw [← hSL, ← hSM] at y4o y4i
                    obtain ⟨ro1, ro2, ro3⟩ := hER t hab o o3
                    obtain ⟨ri1, ri2, ri3⟩ := hER t hab i i3
                    rw [esl] at ro1 ro2 ri1 ri2
                    rw [esm] at ro2 ro3 ri2 ri3
                    have eL : loN E t o i lo.toInt = lo.toInt * (SL (cnr m t i)).toInt / (SM (cnr m t o)).toInt := by unfold loN; rw [esl, esm]
                    have eH : hiN E t o i hi.toInt = (hi.toInt * (SM (cnr m t i)).toInt + (SL (cnr m t o)).toInt - 1) / (SL (cnr m t o)).toInt := by unfold hiN; rw [esl, esm]
                    obtain ⟨uv, vv, cv1, cv2, cv3, cv4⟩ := carr_c (w := w) (X := X2) (a := u) (o := o) (i := i) (lo := lo) (hi := hi) (by omega) o3 i3 y4o.2 y4i.2 ⟨ro1, ro2, ro3⟩ ⟨ri1, ri2, ri3⟩ hO1 hO2 hO3
                    rw [← eL] at cv3
                    rw [← eH] at cv4
                    obtain ⟨sp1, sp2, _⟩ := span_ok hER hab o3 i3 hO1 hO2
                    have q2 : ¬ (2 : Int32) < Int32.ofNat (k + 1) := by
                      have : k = 0 ∨ k = 1 := by omega
                      rcases this with rfl | rfl <;> decide
                    have skip : (∀ r, ¬ GC E (p ++ (t, i) :: r)) → cov E p B1 B2 (fun z => C z ∨ z = (t, i)) := fun hn => cov_skip cu2 (fun z r hz => by rw [hz]; exact hn r)
                    have nx : ∀ Y : rf_m, g_X4_extend_254 w (g_X4_extend w n) (g_X4_extend_76 w (g_X4_extend w n) f) (g_X4_extend_110 w (g_X4_extend w n) (g_X4_extend_76 w (g_X4_extend w n) f) f2) (Int32.ofNat p.length) used s lo hi (Int32.ofNat u) (Int32.ofNat o) (Int32.ofNat (k + 1)) Y = g_X4_extend_110 w (g_X4_extend w n) (g_X4_extend_76 w (g_X4_extend w n) f) f2 (Int32.ofNat p.length) used s lo hi (Int32.ofNat u) (Int32.ofNat o) (Int32.ofNat (k + 2)) Y := fun Y => by unfold g_X4_extend_254; rw [of_succ]
                    have k9 : (1000000000 : Int64).toInt = 1000000000 := by decide
                    show ∃ X3 B3, g_X4_extend_110_b w _ _ _ _ _ _ _ _ _ _ _ X2 = _ ∧ _
                    unfold g_X4_extend_110_b
                    simp only [rf_vi]
                    rw [if_neg q2, if_neg nm, md, t3, t3, cv1, b_sm, cv2, b_sm, nx, tn_of (by omega), y4i.1, y2]
                    have stE : hiN E t o i hi.toInt ≤ 1000000000 → stp E (s, lo.toInt, hi.toInt) (t, i) = some (sidV m t i, loN E t o i lo.toInt, hiN E t o i hi.toInt) := fun cM => by
                      unfold stp
                      show (match plc E t s with | none => none | some o => if i = o ∨ 3 ≤ i ∨ 1000000000 < hiN E t o i hi.toInt then none else some (eSid E t i, loN E t o i lo.toInt, hiN E t o i hi.toInt)) = _
                      rw [hpl]
                      show (if i = o ∨ 3 ≤ i ∨ 1000000000 < hiN E t o i hi.toInt then none else some (eSid E t i, loN E t o i lo.toInt, hiN E t o i hi.toInt)) = _
                      rw [if_neg (fun q => by rcases q with q | q | q; exact ine q; omega; omega), eid]
                    by_cases cM : hiN E t o i hi.toInt ≤ 1000000000
                    · have cM' : ¬ (0 : Int32) < lg_cmp vv 1000000000 := fun z => by
                        rw [cmp_pos, cv4, k9] at z
                        omega
                      rw [if_neg cM']
                      -- the deeper search
                      have deep : p.length < 6 → ∃ X3 B3, g_X4_extend_201 w (g_X4_extend w n) (g_X4_extend_76 w (g_X4_extend w n) f) (g_X4_extend_110 w (g_X4_extend w n) (g_X4_extend_76 w (g_X4_extend w n) f) f2) (Int32.ofNat p.length) used s lo hi (Int32.ofNat u) (Int32.ofNat o) (Int32.ofNat (k + 1)) (Int32.ofNat (3 * u + i)) uv vv X2 = g_X4_extend_110 w (g_X4_extend w n) (g_X4_extend_76 w (g_X4_extend w n) f) f2 (Int32.ofNat p.length) used s lo hi (Int32.ofNat u) (Int32.ofNat o) (Int32.ofNat (k + 2)) X3 ∧ cdF X X3 ∧ rcE p.length X X3 ∧ bsC E m X3 B3 ∧ cov E p B1 B3 (fun z => C z ∨ z = (t, i)) := fun l6 => by
                        unfold g_X4_extend_201
                        have e6 : 6 + Int32.ofNat p.length = Int32.ofNat (6 + p.length) := by rw [Int32.ofNat_add]; rfl
                        have a178 : (rf_i X2 181 p.length (X2.1 177 u)).1 178 = X2.1 178 := by rw [rf_i_c, if_neg (by decide)]
                        rw [e6, gof (n := u) (by omega) (by decide), gof (n := p.length) (by omega) (by decide), gof (n := 3 * u + i) (by omega) (by decide), gof (n := 6 + p.length) (by omega) (by decide), tn_of (by omega), tn_of (by omega), tn_of (by omega), tn_of (by omega)]
                        simp only [g_t]
                        rw [a178, y4i.1, y4u.1]
                        generalize hX3 : rf_i (rf_i X2 181 p.length (Int32.ofNat t)) 181 (6 + p.length) (sidV m t i) = X3
                        have c181 : X3.1 181 = pu (pu (X2.1 181) p.length (Int32.ofNat t)) (6 + p.length) (sidV m t i) := by rw [← hX3, rf_i_c, if_pos rfl, rf_i_c, if_pos rfl]
                        have cz : ∀ z, z ≠ 181 → X3.1 z = X2.1 z := fun z hz => by rw [← hX3, rf_i_c, if_neg hz, rf_i_c, if_neg hz]
                        have cl : X3.2 = X2.2 := by rw [← hX3, rf_i_l, rf_i_l]
                        have f23 : cdF X2 X3 := ⟨fun z h1 h2 h3 => cz z h2, fun k _ => by rw [cz 175 (by decide)], fun z _ => by rw [cl], fun k _ _ => by rw [cl]⟩
                        rw [cz 178 (by decide), y4i.1]
                        obtain ⟨X4, B4, h1, h2, h3, h4, h5⟩ := ih (p ++ [(t, i)]) X3 B2 (used ||| ((1 : Int32) <<< (Int32.ofNat u &&& 31))) (sidV m t i) uv vv (by rw [List.length_append]; show 7 ≤ p.length + 1 + n; omega) (by
                            refine ⟨by rw [List.length_append]; show p.length + 1 ≤ 6; omega, fun z hz => ?_⟩
                            rcases List.mem_append.mp hz with q | q
                            · exact hp.2 z q
                            · rw [List.mem_singleton.mp q]; exact ⟨ht.1, i3⟩) (by
                            rw [List.map_append]
                            refine List.nodup_append.mpr ⟨hpn, by simp, fun a ha b hb => ?_⟩
                            have : b = t := by simpa using hb
                            rw [this]
                            exact fun q => ntp (q ▸ ha)) (by
                            intro z hz
                            rcases List.mem_append.mp hz with q | q
                            · exact hpa z q
                            · rw [List.mem_singleton.mp q]; exact hab) (by
                            rw [rnE_snoc, hr, cv3, cv4]
                            exact stE cM) (by
                            rw [cv3, cv4]
                            exact ⟨sp1, sp2, cM⟩) (chS_e hS (cdF_trans fu2 f23)) (hus' i) (by
                            rw [c181]
                            exact rc_snoc l6 (rc_e hrw ru2)) (bsC_e bu2 (by rw [cz 175 (by decide)]) (by rw [cl]) (by rw [cl]) (cz 182 (by decide))) cu2.1
                        rw [List.length_append] at h1 h3
                        have h1 : g_X4_extend w n X3 (Int32.ofNat (p.length + 1)) _ _ _ _ = some X4 := h1
                        have h3 : rcE (p.length + 1) X3 X4 := h3
                        rw [← of_succ] at h1
                        rw [h1, bv_sm, nx]
                        refine ⟨X4, B4, rfl, cdF_trans fu2 (cdF_trans f23 h2), fun j hj => ?_, h4, cov_step cu2 h5⟩
                        obtain ⟨w1, w2⟩ := h3 j (by omega)
                        rw [w1, w2, c181, pu_ne (by omega), pu_ne (by omega), pu_ne (by omega), pu_ne (by omega)]
                        exact ru2 j hj
                      have l6 : p.length < 6 := by omega
                      by_cases c5 : p.length + 1 < 6
                      · have c5' : Int32.ofNat p.length + 1 < 6 := by rw [of_succ]; exact (of_lt (b := 6) (by omega) (by omega)).mpr c5
                        rw [if_pos c5']
                        exact deep l6
                      · have c5' : ¬ Int32.ofNat p.length + 1 < 6 := by rw [of_succ]; exact fun z => c5 ((of_lt (b := 6) (by omega) (by omega)).mp z)
                        rw [if_neg c5', gof (by omega) (by decide), g_t]
                        by_cases c7 : sidV m t i = go
                        · rw [if_pos c7]
                          exact deep l6
                        · rw [if_neg c7]
                          refine ⟨X2, B2, rfl, fu2, ru2, bu2, skip (fun r hgc => ?_)⟩
                          obtain ⟨g1, _, _, a, b, g4⟩ := hgc
                          rw [List.length_append, List.length_cons] at g1
                          have r0 : r = [] := List.eq_nil_of_length_eq_zero (by omega)
                          rw [r0, rnE_snoc, hr] at g4
                          have g4 : stp E (s, lo.toInt, hi.toInt) (t, i) = _ := g4
                          rw [stE cM, ego] at g4
                          injection g4 with g4
                          injection g4 with g4 _
                          exact c7 g4
                    · have cM' : (0 : Int32) < lg_cmp vv 1000000000 := by
                        rw [cmp_pos, cv4, k9]
                        omega
                      rw [if_pos cM']
                      refine ⟨X2, B2, rfl, fu2, ru2, bu2, skip (no_st hr ?_)⟩
                      unfold stp
                      show (match plc E t s with | none => none | some o => if i = o ∨ 3 ≤ i ∨ 1000000000 < hiN E t o i hi.toInt then none else some (eSid E t i, loN E t o i lo.toInt, hiN E t o i hi.toInt)) = _
                      rw [hpl]
                      show (if i = o ∨ 3 ≤ i ∨ 1000000000 < hiN E t o i hi.toInt then none else some (eSid E t i, loN E t o i lo.toInt, hiN E t o i hi.toInt)) = _
                      rw [if_pos (Or.inr (Or.inr (by omega)))]
                  obtain ⟨X3, B3, t1, t2, t3a, t4, t5⟩ := turn 0 (F' + 2) Xu Bu _ (by decide) fu ru bu cu
                  obtain ⟨X4, B4, t6, t7, t8, t9, t10⟩ := turn 1 (F' + 1) X3 B3 _ (by decide) t2 t3a t4 t5
                  have t1 : g_X4_extend_110 w (g_X4_extend w n) (g_X4_extend_76 w (g_X4_extend w n) f) (F' + 3) (Int32.ofNat p.length) used s lo hi (Int32.ofNat u) (Int32.ofNat o) 1 Xu = _ := t1
                  have e3 : g_X4_extend_110 w (g_X4_extend w n) (g_X4_extend_76 w (g_X4_extend w n) f) (F' + 1) (Int32.ofNat p.length) used s lo hi (Int32.ofNat u) (Int32.ofNat o) (Int32.ofNat 3) X4 = g_X4_extend_76 w (g_X4_extend w n) f (Int32.ofNat p.length) used s lo hi (Int32.ofNat u + 1) X4 := by
                    show g_X4_extend_110_b w _ _ _ _ _ _ _ _ _ _ _ X4 = _
                    unfold g_X4_extend_110_b g_X4_extend_260
                    have p3 : (2 : Int32) < Int32.ofNat 3 := by decide
                    rw [if_pos p3]
                  have t6 : g_X4_extend_110 w (g_X4_extend w n) (g_X4_extend_76 w (g_X4_extend w n) f) (F' + 2) (Int32.ofNat p.length) used s lo hi (Int32.ofNat u) (Int32.ofNat o) (Int32.ofNat (0 + 2)) X3 = _ := t6
                  rw [t1, t6, e3]
                  refine nxt' X4 B4 t7 t8 t9 (cov_c (cov_skip (D := fun z => z.1 = t ∧ (z.2 = o ∨ 3 ≤ z.2)) t10 (fun z r hz => no_st hr ?_ r)) (fun z hz => ?_))
                  · unfold stp
                    rw [hz.1, hpl]
                    show (if z.2 = o ∨ 3 ≤ z.2 ∨ _ then none else _) = none
                    rw [if_pos (hz.2.elim Or.inl (fun q => Or.inr (Or.inl q)))]
                  · rcases hz with hz | hz
                    · exact Or.inl (Or.inl (Or.inl hz))
                    · by_cases q : z.2 = o ∨ 3 ≤ z.2
                      · exact Or.inr ⟨hz, q⟩
                      · by_cases q1 : z.2 = (o + (0 + 1)) % 3
                        · exact Or.inl (Or.inl (Or.inr (Prod.ext hz q1)))
                        · exact Or.inl (Or.inr (Prod.ext hz (by show z.2 = (o + (1 + 1)) % 3; omega)))
          obtain ⟨X', B', h1, h2, h3, h4, h5⟩ := key A.length F 0 X1 B1 (by omega) (by omega) f1 r1 b1 (cov_c (cov_refl k1) (fun z ⟨v, _, q, _⟩ => by omega))
          exact ⟨X', B', h1, h2, h3, h4, cov_end l1 l2 h5 (fun z r hgc => (eab z.1).mp (GC_st hgc).2.1)⟩
    unfold g_X4_extend_f
    rw [hS.2.1]
    by_cases d1 : s = go
    · rw [if_pos d1]
      have gcp : GC E p := ⟨lp, hpn, hpa, lo.toInt, hi.toInt, by rw [hr, ego, d1]⟩
      have bb := better_c (w := w) (X := X) (E := E) (B := B) jn ja jm eidf hp hrw hr hO hB
      rw [bb, b_sm]
      by_cases d3 : ∀ q, B = some q → lx (kpE E p) (kpE E q)
      · have cg : rf_cg 0 0 12 12 12 = true := by decide
        rw [bi_t d3, if_neg o1, cg, g_t]
        have sg' : s = eGo E := by rw [ego]; exact d1
        have hr' := hr
        have hO' := hO
        rw [sg'] at hr' hO'
        obtain ⟨k2, k3, k4⟩ := node_c hp hr' hO' hrw
        exact rest _ (some p) k2 k3 k4 (fun q hq => by injection hq with hq; rw [← hq]; exact gcp) (fun b hb => ⟨p, rfl, lek_of (d3 b hb)⟩) (fun _ => leB_refl _)
      · rw [bi_f d3, if_pos rfl]
        refine rest X B (cdF_refl X) (fun _ _ => ⟨rfl, rfl⟩) hB hokB (leB_refl B) (fun _ b hb => ?_)
        injection hb with hb
        rw [← hb]
        obtain ⟨q, hq⟩ := Classical.not_forall.mp d3
        have hq1 : B = some q := Classical.byContradiction fun z => hq (fun y => absurd y z)
        exact ⟨q, hq1, fun z => hq (fun _ => z)⟩
    · rw [if_neg d1]
      refine rest X B (cdF_refl X) (fun _ _ => ⟨rfl, rfl⟩) hB hokB (leB_refl B) (fun hgc => ?_)
      obtain ⟨_, _, _, a, b, e⟩ := hgc
      rw [hr, ego] at e
      injection e with e
      injection e with e _
      exact absurd e d1
end PBChainZ
