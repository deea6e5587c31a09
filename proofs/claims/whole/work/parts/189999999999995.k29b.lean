/-! adjust: the call -/
section PBK29B
theorem keep_gaF {m m2 X : rf_m} (h : keep m m2) (f : gaF m2 X) : keep m X := ⟨fun c hc => by rw [f.1 c (by omega) (by omega) (by omega)]; exact h.1 c hc, fun k hk => by rw [f.1 26 (by decide) (by decide) (by decide)]; exact h.2.1 k hk, fun k hk => by rw [f.1 206 (by decide) (by decide) (by decide)]; exact h.2.2.1 k hk, fun r hr k hk => by rw [f.1 32 (by decide) (by decide) (by decide)]; exact h.2.2.2.1 r hr k hk, fun a ha => by rw [f.1 34 (by decide) (by decide) (by decide)]; exact h.2.2.2.2 a ha⟩
theorem tal_gaF {w : rf_w} {m X Y : rf_m} {a : Nat} (h : tal w m X 9999 a) (f : gaF X Y) : tal w m Y 9999 a := by
  unfold tal at *
  rw [f.1 31 (by decide) (by decide) (by decide), f.1 34 (by decide) (by decide) (by decide)]
  exact h
theorem adj_k {c : Nat} {w : rf_w} {m : rf_m} {a1 a2 : Int32} (J : JCnt c w m) (jc : JCache w m) (jn : JNet m) (jD : JD m) (jt : JT m) (jo : JCost m) (jj : JAdj m) (jw : JWt m) : ∃ v X Y, g_X11_adjust w m a1 a2 = some (v, X) ∧ g_X14_adjust w X a1 a2 = some (v, Y) ∧ r29 c w m Y := by
  have o1 : ¬ (1 : Int32) = 0 := by decide
  have ja := J.2.2.2.2.1
  have cl := cls_0 (w := w) (m := m) (a1 := a1) (a2 := a2) jn
  by_cases v : vld m a1 a2
  · by_cases h6 : (ixf (sel a1 a2) 42 0).length ≤ 6
    · obtain ⟨m2, e1, e2⟩ := freshenAll_c J jc
      have cA := (cl.2 v).2 h6
      rw [e1, bv_sm] at cA
      have so := sel_ok (m := m) v.1.1 v.1.2
      have gn := gN_all (w := w) jn e2
      have okL : ∀ q, q ∈ ixf (sel a1 a2) 42 0 → okK m q := fun q hq => by
        have := (ixf_ge 42 0 q).mp hq
        exact so q (by omega) this.2.2
      obtain ⟨X1, f1, gc⟩ := gatherA_c J jn gn so h6
      -- the reference, from X
      have refE : ∀ X : rf_m, cF m2 X → ∃ M1, meF (rf_i X 206 0 0) M1 ∧ mA m M1 ∧ nA w m M1 ∧ g_X14_adjust w X a1 a2 = g_X14_adjust_80 w rf_fuel a1 a2 0 1 0 M1 := fun X hX => by
        have x206 : X.1 206 = m.1 206 := by rw [hX.1 206 (by decide) (by decide) (by decide)]; exact all_c e2 206 (by omega)
        obtain ⟨M1, r1, r2, r3, r4⟩ := ref_env J e2 hX
        refine ⟨M1, r2, r3, r4, ?_⟩
        rw [((ref_0 (w := w) (M := X) (a1 := a1) (a2 := a2) jn (by rw [x206]) (by rw [x206])).2 v).2 h6, r1, bv_sm]
      rcases gc with ⟨hne, gA⟩ | ⟨hno, gA, gS⟩
      · -- a miss is none
        rw [gA, b_sm, if_pos rfl] at cA
        have cA : g_X11_adjust w m a1 a2 = some (-1, rf_i X1 0 11 5) := cA
        have cX : cF m2 (rf_i X1 0 11 5) := cF_trans (cF_ga f1) cF_0
        obtain ⟨M1, r2, r3, r4, r5⟩ := refE _ cX
        obtain ⟨M2, s1, s2⟩ := conds_r (w := w) ja jn r4 so h6
        rcases s2 with ⟨_, s3⟩ | ⟨hno, _⟩
        · have rA : g_X14_adjust w (rf_i X1 0 11 5) a1 a2 = some (-1, rf_i (rf_i M2 206 1 5) 206 2 (-1)) := by rw [r5, s3]; rfl
          refine ⟨-1, _, _, cA, rA, ?_⟩
          have M1z : ∀ z, z ≠ 206 → z ≠ 226 → z ≠ 227 → z ≠ 228 → z ≠ 235 → z ≠ 248 → z ≠ 255 → z ≠ 261 → z ≠ 262 → M2.1 z = (rf_i X1 0 11 5).1 z := fun z h1 h2 h3 h4 h5 h6 h7 h8 h9 => by
            rw [s1.1 z h7 h8 h9, r2.1 z h1 h2 h3 h4 h5 h6, rf_i_c, if_neg h1]
          have aZ0 : ∀ z, aZ z → z ≠ 0 ∧ z ≠ 55 ∧ z ≠ 56 ∧ z ≠ 60 ∧ z < 175 := fun z hz => by unfold aZ at hz; omega
          refine ref_fin J jt jo jj (X := rf_i X1 0 11 5) ?_ e1 e2 (by decide) cX (fun z hz => ?_) (fun z hz => ?_) ?_ (fun z hz => ?_) ?_ ?_ ?_
          · intro a ha
            rw [rf_i_c, if_neg (by decide), f1.1 57 (by decide) (by decide) (by decide), all_c e2 57 (by omega)]
            exact jw a ha
          · obtain ⟨z1, z2, z3, z4, z5⟩ := aZ0 z hz
            rw [rf_i_c, if_neg z1]
            exact f1.1 z z2 z3 z4
          · show X1.2 z = _
            rw [f1.2.2]
          · exact biF_trans (biF_206 (by decide)) (biF_trans (biF_me r2) (biF_8 s1))
          · rcases hz with hz | hz | hz | hz | hz
            · exact M1z z (by omega) (by omega) (by omega) (by omega) (by omega) (by omega) (by omega) (by omega) (by omega)
            · obtain ⟨z1, z2, z3, z4, z5⟩ := aZ0 z hz
              exact M1z z (by omega) (by omega) (by omega) (by omega) (by omega) (by omega) (by omega) (by omega) (by omega)
            · exact M1z z (by omega) (by omega) (by omega) (by omega) (by omega) (by omega) (by omega) (by omega) (by omega)
            · exact M1z z (by omega) (by omega) (by omega) (by omega) (by omega) (by omega) (by omega) (by omega) (by omega)
            · exact M1z z (by omega) (by omega) (by omega) (by omega) (by omega) (by omega) (by omega) (by omega) (by omega)
          · rw [s1.2, r2.2.2]; rfl
          · rw [s1.1 206 (by decide) (by decide) (by decide), r2.2.1 88 (by omega), rf_i_c, if_pos rfl, pu_ne (by decide)]
          · rw [M1z 0 (by decide) (by decide) (by decide) (by decide) (by decide) (by decide) (by decide) (by decide) (by decide), rf_i_c, if_pos rfl, pu_at]
        · obtain ⟨q, q1, q2⟩ := hne
          exact absurd q2 (hno q q1)
      · -- weighed
        rw [gA, b_sm, if_neg o1] at cA
        generalize hLL : ixf (sel a1 a2) 42 0 = L at *
        have ok2 : ∀ q, q ∈ L → okK m q ∧ msK w m q ≠ -2147483648 := fun q hq => ⟨okL q hq, hno q hq⟩
        have nb := nrm_ok (L := L) J jn ok2
        have okI : ∀ i (h : i < L.length), okK m L[i] := fun i h => okL _ (List.getElem_mem h)
        have okB : ∀ i (h : i < L.length), -80000000 ≤ (msK w m L[i]).toInt ∧ (msK w m L[i]).toInt ≤ 80000000 := fun i h => by
          rcases msK_rng J jn (okI i h) with e | e
          · exact absurd e (ok2 _ (List.getElem_mem h)).2
          · exact e
        have x010 : X1.1 0 10 = m.1 206 5 := by rw [f1.1 0 (by decide) (by decide) (by decide), all_c e2 0 (by omega)]; exact jD.1
        obtain ⟨X2, w1, f2, w57, w57'⟩ := weigh_c J (keep_gaF (all_keep e2) f1) (fun a ha => tal_gaF (e2.2.2.2.2.2 a ha).2.1 f1)
        have g2 : gaS w m L X2 := by
          unfold gaS
          rw [f2.1 55 (by decide) (by decide), f2.1 56 (by decide) (by decide), f2.1 60 (by decide) (by decide)]
          exact gS
        have wt2 : wtS w m X2 := fun a ha => by rw [f2.1 56 (by decide) (by decide)]; exact w57 a ha
        have e6 : X2.1 26 6 = m.1 206 16 := by rw [f2.1 26 (by decide) (by decide), f1.1 26 (by decide) (by decide) (by decide), e2.2.1 6 (by decide)]; exact ja.1
        rw [x010, w1, bv_sm] at cA
        obtain ⟨X3, f3, sc⟩ := solveA_c J jn g2 wt2 e6 h6 ok2
        have cX3 : cF m2 X3 := cF_trans (cF_ga f1) (cF_trans (cF_we f2) (cF_sl f3))
        -- the reference up to the pivot
        have refP : ∀ X : rf_m, cF m2 X → ∃ M1 M2 M3 M4, meF (rf_i X 206 0 0) M1 ∧ mA m M1 ∧ nA w m M1 ∧ r8F M1 M2 ∧ rfS w m L M2 ∧ adS M2 M3 ∧ adS M3 M4 ∧ (∀ a, a < (m.1 206 16).toNatClampNeg → (M4.1 265 a).toInt = sI w m a) ∧ rsH w m L M4 ∧ g_X14_adjust w X a1 a2 = g_X14_adjust_264 w 1 (Int32.ofNat L.length) (Int32.ofNat L.length) M4 := fun X hX => by
          obtain ⟨M1, r2, r3, r4, r5⟩ := refE X hX
          obtain ⟨M2, s1, s2⟩ := conds_r (w := w) ja jn r4 so (by rw [hLL]; exact h6)
          rw [hLL] at s2
          rcases s2 with ⟨⟨q, q1, q2⟩, _⟩ | ⟨_, s3, s4⟩
          · exact absurd q2 (hno q q1)
          · have a2' : mA m M2 := mA_x r3 (fun z hz => s1.1 z (by omega) (by omega) (by omega)) (fun k _ => by rw [s1.1 206 (by decide) (by decide) (by decide)])
            obtain ⟨M3, t1, t2, t3⟩ := share_r (w := w) (a3 := Int32.ofNat L.length) J a2'
            obtain ⟨M4, u1, u2, u3, u4⟩ := norm_r (w := w) J jn (mA_R a2' (adS_R t2)) (nA_R (nA_8 r4 s1) (adS_R t2)) (rfS_R s4 (adS_R t2)) h6 okI t3
            refine ⟨M1, M2, M3, M4, r2, r3, r4, s1, s4, t2, u2, fun a ha => by rw [u3]; exact t3 a ha, ⟨u4, fun i hi => ?_⟩, by rw [r5, s3, t1, u1]⟩
            have e255 : M4.1 255 i = -(msK w m L[i]) := by rw [u2.1 255 (by omega), t2.1 255 (by omega)]; exact (s4 i hi).2.2
            have ob := okB i hi
            unfold bN
            rw [dif_pos hi, e255, Int32.toInt_neg, bm32 (by omega) (by omega)]
        rcases sc with ⟨sc1, D0⟩ | ⟨sc1, D0, mS, hD⟩
        · -- they hang on one another
          rw [sc1, b_sm, if_pos rfl] at cA
          have cA : g_X11_adjust w m a1 a2 = some (-1, rf_i X3 0 11 6) := cA
          have cX : cF m2 (rf_i X3 0 11 6) := cF_trans cX3 cF_0
          obtain ⟨M1, M2, M3, M4, r2, r3, r4, s1, s4, t2, u2, u3, u4, u5⟩ := refP _ cX
          rcases pivot_r (w := w) nb h6 u4 (by show 0 ≤ dF L.length (aN w m L); omega) with ⟨_, M5, p1, p2, p3, p4, p5⟩ | ⟨dp, _⟩
          · have rA : g_X14_adjust w (rf_i X3 0 11 6) a1 a2 = some (-1, rf_i (rf_i M5 206 1 6) 206 2 (-1)) := by rw [u5, p5]; rfl
            refine ⟨-1, _, _, cA, rA, ?_⟩
            have M4z : ∀ z, z ≠ 206 → z ≠ 226 → z ≠ 227 → z ≠ 228 → z ≠ 235 → z ≠ 248 → z ≠ 255 → z ≠ 261 → z ≠ 262 → z ≠ 254 → z ≠ 265 → M4.1 z = (rf_i X3 0 11 6).1 z := fun z h1 h2 h3 h4 h5 h6 h7 h8 h9 h10 h11 => by
              rw [u2.1 z (by omega), t2.1 z (by omega), s1.1 z h7 h8 h9, r2.1 z h1 h2 h3 h4 h5 h6, rf_i_c, if_neg h1]
            have M5z : ∀ z, z < 206 → M5.1 z = (rf_i X3 0 11 6).1 z := fun z hz => by
              rw [p1.1 z (by omega)]
              exact M4z z (by omega) (by omega) (by omega) (by omega) (by omega) (by omega) (by omega) (by omega) (by omega) (by omega) (by omega)
            have aZ0 : ∀ z, aZ z → z ≠ 0 ∧ z ≠ 55 ∧ z ≠ 56 ∧ z ≠ 57 ∧ z ≠ 60 ∧ z ≠ 18 ∧ (z < 65 ∨ 162 < z) ∧ z < 206 := fun z hz => by unfold aZ at hz; omega
            refine ref_fin J jt jo jj (X := rf_i X3 0 11 6) ?_ e1 e2 (by decide) cX (fun z hz => ?_) (fun z hz => ?_) ?_ (fun z hz => ?_) ?_ ?_ ?_
            · intro a ha
              rw [rf_i_c, if_neg (by decide), f3.1 57 (by omega)]
              by_cases q : a < (m.1 206 16).toNatClampNeg
              · rw [wt2 a q]
                split
                · decide
                · exact sI_rng
              · rw [w57' a (by omega), f1.1 57 (by decide) (by decide) (by decide), all_c e2 57 (by omega)]
                exact jw a ha
            · obtain ⟨z1, z2, z3, z4, z5, z6, z7, z8⟩ := aZ0 z hz
              rw [rf_i_c, if_neg z1, f3.1 z z7, f2.1 z z6 z4, f1.1 z z2 z3 z5]
            · unfold lZ at hz
              show X3.2 z = _
              rw [f3.2 z (by omega), f2.2 z (by omega) (by omega), f1.2.2]
            · exact biF_trans (biF_206 (by decide)) (biF_trans (biF_me r2) (biF_trans (biF_8 s1) (biF_trans (biF_R (adS_R t2)) (biF_trans (biF_R (adS_R u2)) (biF_R p1)))))
            · rcases hz with hz | hz | hz | hz | hz
              · exact M5z z (by omega)
              · exact M5z z (aZ0 z hz).2.2.2.2.2.2.2
              · rw [hz, p4]; exact M4z 259 (by decide) (by decide) (by decide) (by decide) (by decide) (by decide) (by decide) (by decide) (by decide) (by decide) (by decide)
              · rw [hz, p2]; exact M4z 263 (by decide) (by decide) (by decide) (by decide) (by decide) (by decide) (by decide) (by decide) (by decide) (by decide) (by decide)
              · rw [hz, p3]; exact M4z 264 (by decide) (by decide) (by decide) (by decide) (by decide) (by decide) (by decide) (by decide) (by decide) (by decide) (by decide)
            · rw [p1.2.2, u2.2.2, t2.2.2, s1.2, r2.2.2]; rfl
            · rw [p1.2.1 88 (by omega), u2.2.1 88 (by omega), t2.2.1 88 (by omega), s1.1 206 (by decide) (by decide) (by decide), r2.2.1 88 (by omega), rf_i_c, if_pos rfl, pu_ne (by decide)]
            · rw [M5z 0 (by decide), rf_i_c, if_pos rfl, pu_at]
          · exact absurd D0 (by show ¬ DK w m L = 0; omega)
        · -- solved
          have g3 : gaS w m L X3 := by
            unfold gaS
            rw [f3.1 55 (by omega), f3.1 56 (by omega), f3.1 60 (by omega)]
            exact g2
          have d0 : 0 < DK w m L := D0
          obtain ⟨X4, k1, k4⟩ := keep_c (w := w) g3 nb h6 okB mS hD d0
          rw [sc1, b_sm, if_neg o1, k1, b_sm] at cA
          have cA : g_X11_adjust w m a1 a2 = some (Int32.ofNat (cn (X3.1 56) 80), rf_i X4 0 11 0) := cA
          have c4 : cF X3 X4 := ⟨fun z _ _ h3 => k4.1 z (by omega), fun k _ => by rw [k4.1 0 (by omega)]⟩
          have cX : cF m2 (rf_i X4 0 11 0) := cF_trans cX3 (cF_trans c4 cF_0)
          obtain ⟨M1, M2, M3, M4, r2, r3, r4, s1, s4, t2, u2, u3, u4, u5⟩ := refP _ cX
          rcases pivot_r (w := w) nb h6 u4 (by show 0 ≤ dF L.length (aN w m L); omega) with ⟨dz, _⟩ | ⟨_, M5, sv, p1, p2, p3, p4, p5, p6⟩
          · exact absurd dz (by omega)
          · have fT : adR M2 M5 := adR_trans (adS_R t2) (adR_trans (adS_R u2) p1)
            have m16 : M5.1 206 16 = m.1 206 16 := (mA_R (mA_x r3 (fun z hz => s1.1 z (by omega) (by omega) (by omega)) (fun k _ => by rw [s1.1 206 (by decide) (by decide) (by decide)])) fT).2.2.1
            have nA5 : nA w m M5 := nA_R (nA_8 r4 s1) fT
            have rS5 : rfS w m L M5 := rfS_R s4 fT
            obtain ⟨M6, v1, v2, v3, v4⟩ := tail_r (w := w) (m := m) (M := rf_l M5 206 89 sv) (L := L) ja jn m16 nA5 rS5 h6 okI p4 (fun a ha => by
              show (M5.1 265 a).toInt = _
              rw [p2]; exact u3 a ha)
            have ec : cn (X3.1 56) 80 = cn (fun a => bi (memQ m L a)) (m.1 206 16).toNatClampNeg := by
              have h80 := ang80 ja
              rw [← cn_st (p := fun a => bi (memQ m L a)) (n := (m.1 206 16).toNatClampNeg) (80 - (m.1 206 16).toNatClampNeg) (fun j h1 h2 => bi_f (fun ⟨i, hi, k⟩ => by
                have := mbK_lt jn ja (okI i hi) (by omega) k
                omega)), show (m.1 206 16).toNatClampNeg + (80 - (m.1 206 16).toNatClampNeg) = 80 by omega]
              refine cn_c 80 (fun j hj => ?_)
              show _ ↔ bi (memQ m L j) = 0
              rw [bi_eq0]
              exact mem_0 g3 h6 hj
            refine ⟨_, _, M6, cA, by rw [u5, p5, v1, ec], ?_⟩
            refine adj_fin (X1 := X1) (X2 := X2) (X3 := X3) (X4 := X4) (M5 := M5) J jn jt jw e1 e2 h6 ok2 f1 gS f2 wt2 w57' f3 d0 k4 ?_ (fun z hz => ?_) ?_ p3 p6 v2 v3 v4
            · exact biF_trans (biF_me r2) (biF_trans (biF_8 s1) (biF_R fT))
            · rw [fT.1 z (by omega), s1.1 z (by omega) (by omega) (by omega), r2.1 z (by omega) (by omega) (by omega) (by omega) (by omega) (by omega), rf_i_c, if_neg (by omega)]
            · rw [fT.2.2, s1.2, r2.2.2]; rfl
    · have cA := (cl.2 v).1 (by omega)
      have rA := ((ref_0 (w := w) (m := m) (M := rf_i m 0 11 7) (a1 := a1) (a2 := a2) jn rfl rfl).2 v).1 (by omega)
      exact ⟨-1, _, _, cA, rA, ref_now J jc jt jo jj jw (by decide)⟩
  · have cA := cl.1 v
    have rA := (ref_0 (w := w) (m := m) (M := rf_i m 0 11 1) (a1 := a1) (a2 := a2) jn rfl rfl).1 v
    exact ⟨-1, _, _, cA, rA, ref_now J jc jt jo jj jw (by decide)⟩
theorem k29 {c : Nat} {w : rf_w} {m : rf_m} {y : Nat → Int32} (J : JCnt c w m) (jc : JCache w m) (jn : JNet m) (jD : JD m) (jt : JT m) (jo : JCost m) (jj : JAdj m) (jw : JWt m) : wp (g_lc_29 w m y) (fun r => r.1 = w ∧ r29 c w m r.2) := by
  obtain ⟨v, X, Y, h1, h2, h3⟩ := adj_k (a1 := y 1) (a2 := y 2) J jc jn jD jt jo jj jw
  unfold g_lc_29
  rw [h1, b_sm, h2, b_sm]
  simp only [wp_g, wp_some, decide_true, true_and]
  exact h3
end PBK29B
