/-! the whole behind the calls that have frames of their own -/
section PBSpec
theorem fi_1 {S : fr_S} {a z k : Nat} (h : fr_in S z k = false) (he : (a, a, none) ∈ S) (ha : a ≠ 0) : z ≠ a := by
  have := fi_n h he ha
  omega
theorem fi_6 {S : fr_S} {a i z k : Nat} (h : fr_in S z k = false) (he : (a, a, some i) ∈ S) (hz : z = a) : k ≠ i := (fi_k h he).resolve_left (fun q => q hz)
theorem wp_and {α : Type} {o : Option α} {P Q : α → Prop} (h : wp o P) (h' : wp o Q) : wp o (fun r => P r ∧ Q r) := by
  obtain ⟨r, e, p⟩ := h
  obtain ⟨r', e', q⟩ := h'
  have : r' = r := by rw [e] at e'; exact (Option.some.inj e').symm
  subst this
  exact ⟨r', e, p, q⟩
theorem fl_7 {w : rf_w} {m : rf_m} {y : Nat → Int32} {r : rf_w × rf_m} (h : g_lc_7 w m y = some r) : fr (S_X11_angle ++ S_X14_angle) m r.2 := by
  unfold g_lc_7 at h
  obtain ⟨y0, m0, q1, h⟩ := rf_b_some h
  obtain ⟨y1, m1, q2, h⟩ := rf_b_some h
  obtain ⟨_, h⟩ := rf_g_some h
  obtain rfl := Option.some.inj h
  exact fr_two (fg_X11_angle q1) (fg_X14_angle q2)
theorem st_7 {c : Nat} {w : rf_w} {m : rf_m} {y : Nat → Int32} (hc : c < 512) (j : JJ c w m) : wp (g_lc_7 w m y) (fun r => JJ (c + 1) r.1 r.2) := by
  obtain ⟨jD, jt, jcell, jtow, jhaze, jmass, jparty, jbase, jarc, jsight, jlevel, jnet, jfeed, jtell, jguilt, jcost, jadj, jwt, jsus, J, jc, jw, jl⟩ := j
  have h16 := of_tn J.2.2.2.2.1.2.1.1
  have h80 := ang80 J.2.2.2.2.1
  refine wp_mono (wp_more (wp_and (k7 (y := y) J.2.2.2.2.2.1 jt J.2.2.2.2.1 jnet) (k7x (y := y) J.2.2.2.2.2.1 J.2.2.2.2.1)) (fun r h => fl_7 h)) (fun r q => ?_)
  obtain ⟨w2, M⟩ := r
  obtain ⟨⟨⟨e0, o1, o2, o3⟩, ox⟩, f⟩ := q
  have e0 : w2 = w := e0
  subst e0
  have K : JRead M ∧ JStr c w2 M ∧ JRule w2 M ∧ JDay M ∧ JCache w2 M ∧ JW c w2 M ∧ JLg w2 M := by
    rcases ox with ox | ox
    · exact core_N J jc jw jl ox
    · exact core_Y J jc jw jl h16.symm (by omega) ox
  exact ⟨(JD_fr f (by decide +kernel) jD), o1, (JCell_fr f (by decide +kernel) jcell), (JTow_m (JTow_fr f (by decide +kernel) jtow) (by omega)), (JHaze_fr f (by decide +kernel) jhaze), (JMass_fr f (by decide +kernel) jmass), (JParty_fr f (by decide +kernel) jparty), (JBase_fr f (by decide +kernel) jbase), (JArc_fr f (by decide +kernel) jarc), (JSight_fr f (by decide +kernel) jsight), (JLevel_fr f (by decide +kernel) jlevel), o3, (JFeed_fr f (by decide +kernel) jfeed), (JTell_fr f (by decide +kernel) jtell), (JGuilt_fr f (by decide +kernel) jguilt), (JCost_fr f (by decide +kernel) jcost), (JAdj_K (dep_of f (by decide +kernel)) jadj), (JWt_K (dep_of f (by decide +kernel)) jwt), (JSus_K (dep_of f (by decide +kernel)) jsus), ⟨by omega, K.1, str_m K.2.1 (by omega), K.2.2.1, o2, (JMark_fr f (by decide +kernel) J.2.2.2.2.2.1), K.2.2.2.1⟩, K.2.2.2.2.1, (jw_m K.2.2.2.2.2.1 (by omega)), K.2.2.2.2.2.2⟩
theorem fl_54 {w : rf_w} {m : rf_m} {y : Nat → Int32} {r : rf_w × rf_m} (h : g_lc_54 w m y = some r) : fr (S_X11_pass ++ S_X14_pass) m r.2 := by
  unfold g_lc_54 at h
  obtain ⟨y0, m0, q1, h⟩ := rf_b_some h
  obtain ⟨y1, m1, q2, h⟩ := rf_b_some h
  obtain ⟨_, h⟩ := rf_g_some h
  obtain rfl := Option.some.inj h
  exact fr_two (fg_X11_pass q1) (fg_X14_pass q2)
theorem st_54 {c : Nat} {w : rf_w} {m : rf_m} {y : Nat → Int32} (hc : c < 512) (j : JJ c w m) : wp (g_lc_54 w m y) (fun r => JJ (c + 1) r.1 r.2) := by
  obtain ⟨jD, jt, jcell, jtow, jhaze, jmass, jparty, jbase, jarc, jsight, jlevel, jnet, jfeed, jtell, jguilt, jcost, jadj, jwt, jsus, J, jc, jw, jl⟩ := j
  refine wp_mono (wp_more (wp_more (k54 (y := y) jt jD) (fun r h => fl_54 h)) (fun r h => pass_up jD h)) (fun r q => ?_)
  obtain ⟨w2, M⟩ := r
  obtain ⟨⟨⟨e0, o1, o2⟩, f⟩, up⟩ := q
  have e0 : w2 = w := e0
  subst e0
  have K := core_D J jc jw jl (dep_of (fr_im f) (by decide +kernel)) up o2.2.2
  exact ⟨o2, o1, (JCell_fr f (by decide +kernel) jcell), (JTow_m (JTow_fr f (by decide +kernel) jtow) (by omega)), (JHaze_fr f (by decide +kernel) jhaze), (JMass_fr f (by decide +kernel) jmass), (JParty_fr f (by decide +kernel) jparty), (JBase_fr f (by decide +kernel) jbase), (JArc_fr f (by decide +kernel) jarc), (JSight_fr f (by decide +kernel) jsight), (JLevel_fr f (by decide +kernel) jlevel), (JNet_fr f (by decide +kernel) jnet), (JFeed_fr f (by decide +kernel) jfeed), (JTell_fr f (by decide +kernel) jtell), (JGuilt_fr f (by decide +kernel) jguilt), (JCost_fr f (by decide +kernel) jcost), (JAdj_K (dep_of f (by decide +kernel)) jadj), (JWt_K (dep_of f (by decide +kernel)) jwt), (JSus_K (dep_of f (by decide +kernel)) jsus), ⟨by omega, K.1, str_m K.2.1 (by omega), K.2.2.1, (JAng_fr f (by decide +kernel) J.2.2.2.2.1), (JMark_fr f (by decide +kernel) J.2.2.2.2.2.1), K.2.2.2.1⟩, K.2.2.2.2.1, (jw_m K.2.2.2.2.2.1 (by omega)), K.2.2.2.2.2.2⟩
theorem fl_8 {w : rf_w} {m : rf_m} {y : Nat → Int32} {r : rf_w × rf_m} (h : g_lc_8 w m y = some r) : fr (S_X11_read ++ S_X14_read) m r.2 := by
  unfold g_lc_8 at h
  obtain ⟨y0, m0, q1, h⟩ := rf_b_some h
  obtain ⟨y1, m1, q2, h⟩ := rf_b_some h
  obtain ⟨_, h⟩ := rf_g_some h
  obtain rfl := Option.some.inj h
  exact fr_two (fg_X11_read q1) (fg_X14_read_0 q2)
def PSu2 : fr_S := [(184, 184, some 1), (186, 186, none), (206, 206, some 116), (282, 282, none)]
theorem JSus_u {m M : rf_m} (h : dep PSu2 m M) (up : m.1 206 17 ≤ M.1 206 17) (j : JSus m) : JSus M := by
  obtain ⟨u, u1, u2, u3, u4, u5, u6, u7⟩ := j
  refine ⟨u, u1, ?_, ?_, ?_, ?_, fun x hx => ⟨(u6 x hx).1, ?_⟩, u7⟩
  · rw [dep_k h 184 1 (by decide)]; exact u2
  · rw [dep_k h 206 116 (by decide)]; exact u3
  · rw [dep_c h 186 (by decide)]; exact u4
  · rw [dep_c h 282 (by decide)]; exact u5
  · have a := i_lt.mp (u6 x hx).2
    have b := i_le.mp up
    rw [i_lt]
    omega
theorem st_8 {c : Nat} {w : rf_w} {m : rf_m} {y : Nat → Int32} (hc : c < 512) (j : JJ c w m) : wp (g_lc_8 w m y) (fun r => JJ (c + 1) r.1 r.2) := by
  obtain ⟨jD, jt, jcell, jtow, jhaze, jmass, jparty, jbase, jarc, jsight, jlevel, jnet, jfeed, jtell, jguilt, jcost, jadj, jwt, jsus, J, jc, jw, jl⟩ := j
  refine wp_mono (wp_more (k8 (y := y) J jc jl jt jparty jD) (fun r h => fl_8 h)) (fun r q => ?_)
  obtain ⟨w2, M⟩ := r
  obtain ⟨⟨e0, o1, o2, o3, o4, o5⟩, f⟩ := q
  have e0 : w2 = w := e0
  subst e0
  exact ⟨(JD_fr f (by decide +kernel) jD), o3, (JCell_fr f (by decide +kernel) jcell), (JTow_m (JTow_fr f (by decide +kernel) jtow) (by omega)), (JHaze_fr f (by decide +kernel) jhaze), (JMass_fr f (by decide +kernel) jmass), (JParty_fr f (by decide +kernel) jparty), (JBase_fr f (by decide +kernel) jbase), (JArc_fr f (by decide +kernel) jarc), (JSight_fr f (by decide +kernel) jsight), (JLevel_fr f (by decide +kernel) jlevel), (JNet_fr f (by decide +kernel) jnet), (JFeed_fr f (by decide +kernel) jfeed), (JTell_fr f (by decide +kernel) jtell), (JGuilt_fr f (by decide +kernel) jguilt), (JCost_fr f (by decide +kernel) jcost), (JAdj_K (dep_of f (by decide +kernel)) jadj), (JWt_K (dep_of f (by decide +kernel)) jwt), (JSus_u (dep_of f (by decide +kernel)) o4.2.2.2.2.1 jsus), (cnt_m o1 (by omega) (by omega)), o2, (jw_m (JW_K (dep_of f (by decide +kernel)) jw) (by omega)), o5⟩
def S10 : fr_S := [(0, 0, some 11), (26, 26, some 17), (26, 26, some 19), (36, 40, none), (206, 206, some 0), (206, 206, some 1), (206, 206, some 2), (206, 206, some 18), (216, 216, none), (225, 225, none), (306, 0, none)]
theorem fl_10 {m M : rf_m} (h : fr10 m M) : fr S10 m M := by
  obtain ⟨h1, h2, h3, h4, h5⟩ := h
  intro z k hk
  have n1 := fi_n hk (show (36, 40, none) ∈ S10 by decide) (by decide)
  have n2 := fi_n hk (show (216, 216, none) ∈ S10 by decide) (by decide)
  have n3 := fi_n hk (show (225, 225, none) ∈ S10 by decide) (by decide)
  have n4 := fi_up hk (show (306, 0, none) ∈ S10 by decide) (by decide)
  have k1 := fi_k hk (show (0, 0, some 11) ∈ S10 by decide)
  have k2 := fi_k hk (show (26, 26, some 17) ∈ S10 by decide)
  have k3 := fi_k hk (show (26, 26, some 19) ∈ S10 by decide)
  have k4 := fi_k hk (show (206, 206, some 0) ∈ S10 by decide)
  have k5 := fi_k hk (show (206, 206, some 1) ∈ S10 by decide)
  have k6 := fi_k hk (show (206, 206, some 2) ∈ S10 by decide)
  have k7 := fi_k hk (show (206, 206, some 18) ∈ S10 by decide)
  refine ⟨?_, by rw [h5 z n4]⟩
  by_cases z0 : z = 0
  · subst z0; exact h2 k (by omega)
  · by_cases z26 : z = 26
    · subst z26; exact h3 k (by omega) (by omega)
    · by_cases z6 : z = 206
      · subst z6; exact h4 k (by omega) (by omega) (by omega) (by omega)
      · rw [h1 z n4 z0 z26 n1 z6 (by omega) (by omega)]
theorem st_10 {c : Nat} {w : rf_w} {m : rf_m} {y : Nat → Int32} (hc : c < 512) (j : JJ c w m) : wp (g_lc_10 w m y) (fun r => JJ (c + 1) r.1 r.2) := by
  obtain ⟨jD, jt, jcell, jtow, jhaze, jmass, jparty, jbase, jarc, jsight, jlevel, jnet, jfeed, jtell, jguilt, jcost, jadj, jwt, jsus, J, jc, jw, jl⟩ := j
  refine wp_mono (k10 (y := y) hc J jc jw jl jt jparty jD) (fun r q => ?_)
  obtain ⟨w2, M⟩ := r
  obtain ⟨o1, o2, o3, o4, o5, o6⟩ := q
  have f := fl_10 o5
  exact ⟨(JD_fr f (by decide +kernel) jD), o4, (JCell_fr f (by decide +kernel) jcell), (JTow_m (JTow_fr f (by decide +kernel) jtow) (by omega)), (JHaze_fr f (by decide +kernel) jhaze), (JMass_fr f (by decide +kernel) jmass), (JParty_fr f (by decide +kernel) jparty), (JBase_fr f (by decide +kernel) jbase), (JArc_fr f (by decide +kernel) jarc), (JSight_fr f (by decide +kernel) jsight), (JLevel_fr f (by decide +kernel) jlevel), (JNet_fr f (by decide +kernel) jnet), (JFeed_fr f (by decide +kernel) jfeed), (JTell_fr f (by decide +kernel) jtell), (JGuilt_fr f (by decide +kernel) jguilt), (JCost_fr f (by decide +kernel) jcost), (JAdj_K (dep_of f (by decide +kernel)) jadj), (JWt_K (dep_of f (by decide +kernel)) jwt), (JSus_K (dep_of f (by decide +kernel)) jsus), o1, o2, o3, o6⟩
def S15 : fr_S := [(0, 0, some 11), (0, 0, some 12), (0, 0, some 13), (13, 13, some 2), (13, 13, some 3), (14, 14, none), (16, 17, none), (19, 24, none), (26, 26, some 19), (40, 40, none), (206, 206, some 0), (206, 206, some 1), (206, 206, some 2), (206, 206, some 3), (206, 206, some 39), (206, 206, some 44), (206, 206, some 45), (206, 206, some 46), (206, 206, some 47), (206, 206, some 48), (206, 206, some 49), (206, 206, some 50), (206, 206, some 51), (206, 206, some 52), (206, 206, some 53), (230, 233, none), (306, 0, none)]
theorem fl_15 {w w' : rf_w} {m M : rf_m} (h : ruF w w' m M) : fr S15 m M := by
  obtain ⟨h1, h2, h3, h4, h5, h6, _⟩ := h
  intro z k hk
  have a6 := fi_up hk (show (306, 0, none) ∈ S15 by decide) (by decide)
  have a1 := fi_1 hk (show (14, 14, none) ∈ S15 by decide) (by decide)
  have a2 : z ≠ 16 ∧ z ≠ 17 := by
    have := fi_n hk (show (16, 17, none) ∈ S15 by decide) (by decide)
    omega
  refine ⟨?_, h6 z k a6 a1 a2.1 a2.2 (fun q => fi_6 hk (show (206, 206, some 53) ∈ S15 by decide) q.1 q.2)⟩
  by_cases z6 : z = 206
  · subst z6
    clear a1 a2 a6
    have r0 := fi_6 hk (show (206, 206, some 0) ∈ S15 by decide) rfl
    have r1 := fi_6 hk (show (206, 206, some 1) ∈ S15 by decide) rfl
    have r2 := fi_6 hk (show (206, 206, some 2) ∈ S15 by decide) rfl
    have r3 := fi_6 hk (show (206, 206, some 3) ∈ S15 by decide) rfl
    have r39 := fi_6 hk (show (206, 206, some 39) ∈ S15 by decide) rfl
    have r44 := fi_6 hk (show (206, 206, some 44) ∈ S15 by decide) rfl
    have r45 := fi_6 hk (show (206, 206, some 45) ∈ S15 by decide) rfl
    have r46 := fi_6 hk (show (206, 206, some 46) ∈ S15 by decide) rfl
    have r47 := fi_6 hk (show (206, 206, some 47) ∈ S15 by decide) rfl
    have r48 := fi_6 hk (show (206, 206, some 48) ∈ S15 by decide) rfl
    have r49 := fi_6 hk (show (206, 206, some 49) ∈ S15 by decide) rfl
    have r50 := fi_6 hk (show (206, 206, some 50) ∈ S15 by decide) rfl
    have r51 := fi_6 hk (show (206, 206, some 51) ∈ S15 by decide) rfl
    have r52 := fi_6 hk (show (206, 206, some 52) ∈ S15 by decide) rfl
    exact h5 k (by omega)
  · by_cases z0 : z = 0
    · subst z0
      exact h2 k (fi_6 hk (show (0, 0, some 11) ∈ S15 by decide) rfl) (fi_6 hk (show (0, 0, some 12) ∈ S15 by decide) rfl) (fi_6 hk (show (0, 0, some 13) ∈ S15 by decide) rfl)
    · by_cases z13 : z = 13
      · subst z13
        exact h3 k (fi_6 hk (show (13, 13, some 2) ∈ S15 by decide) rfl) (fi_6 hk (show (13, 13, some 3) ∈ S15 by decide) rfl)
      · by_cases z26 : z = 26
        · subst z26
          exact h4 k (fi_6 hk (show (26, 26, some 19) ∈ S15 by decide) rfl)
        · rw [h1 z a6 z0 z13 a1 a2.1 a2.2 (fi_n hk (show (19, 24, none) ∈ S15 by decide) (by decide)) z26 (fi_1 hk (show (40, 40, none) ∈ S15 by decide) (by decide)) z6 (fi_n hk (show (230, 233, none) ∈ S15 by decide) (by decide))]
theorem st_15 {c : Nat} {w : rf_w} {m : rf_m} {y : Nat → Int32} (hc : c < 512) (j : JJ c w m) : wp (g_lc_15 w m y) (fun r => JJ (c + 1) r.1 r.2) := by
  obtain ⟨jD, jt, jcell, jtow, jhaze, jmass, jparty, jbase, jarc, jsight, jlevel, jnet, jfeed, jtell, jguilt, jcost, jadj, jwt, jsus, J, jc, jw, jl⟩ := j
  refine wp_mono (k15 (y := y) hc J jc jw jl jt jfeed) (fun r q => ?_)
  obtain ⟨w2, M⟩ := r
  obtain ⟨o1, o2, o3, o4, o5, o6, o7⟩ := q
  have f := fl_15 o7
  exact ⟨(JD_fr f (by decide +kernel) jD), o5, (JCell_fr f (by decide +kernel) jcell), (JTow_m (JTow_fr f (by decide +kernel) jtow) (by omega)), (JHaze_fr f (by decide +kernel) jhaze), (JMass_fr f (by decide +kernel) jmass), (JParty_fr f (by decide +kernel) jparty), (JBase_fr f (by decide +kernel) jbase), (JArc_fr f (by decide +kernel) jarc), (JSight_fr f (by decide +kernel) jsight), (JLevel_fr f (by decide +kernel) jlevel), (JNet_fr f (by decide +kernel) jnet), o6, (JTell_fr f (by decide +kernel) jtell), (JGuilt_fr f (by decide +kernel) jguilt), (JCost_fr f (by decide +kernel) jcost), (JAdj_K (dep_of f (by decide +kernel)) jadj), (JWt_K (dep_of f (by decide +kernel)) jwt), (JSus_K (dep_of f (by decide +kernel)) jsus), o1, o2, o3, o4⟩
def S18 : fr_S := [(0, 0, some 11), (20, 21, none), (26, 26, some 19), (40, 40, none), (206, 206, some 0), (206, 206, some 1), (206, 206, some 2), (230, 230, none), (306, 0, none)]
theorem fl_18 {w : rf_w} {m M : rf_m} (h : foF w m M) : fr S18 m M := by
  obtain ⟨c, hcc, h1, h2, h3, h4, h5⟩ := h
  intro z k hk
  have a1 := fi_n hk (show (20, 21, none) ∈ S18 by decide) (by decide)
  have a2 := fi_n hk (show (40, 40, none) ∈ S18 by decide) (by decide)
  have a3 := fi_n hk (show (230, 230, none) ∈ S18 by decide) (by decide)
  have a4 := fi_up hk (show (306, 0, none) ∈ S18 by decide) (by decide)
  have k1 := fi_k hk (show (0, 0, some 11) ∈ S18 by decide)
  have k2 := fi_k hk (show (26, 26, some 19) ∈ S18 by decide)
  have k3 := fi_k hk (show (206, 206, some 0) ∈ S18 by decide)
  have k4 := fi_k hk (show (206, 206, some 1) ∈ S18 by decide)
  have k5 := fi_k hk (show (206, 206, some 2) ∈ S18 by decide)
  have cz : z ≠ c := by
    rcases hcc with q | q
    · have := q.2.2.2.2.2; omega
    · omega
  refine ⟨?_, by rw [h5]⟩
  by_cases z0 : z = 0
  · subst z0; exact h4 k (by omega)
  · by_cases z26 : z = 26
    · subst z26; exact h2 k (by omega)
    · by_cases z6 : z = 206
      · subst z6; exact h3 k (by omega) (by omega) (by omega)
      · rw [h1 z z0 (by omega) (by omega) z26 (by omega) z6 cz]
theorem lg_18 {c : Nat} {w : rf_w} {m M : rf_m} (js : JStr c w m) (h : foF w m M) (jl : JLg w m) : JLg w M := by
  obtain ⟨k, hcc, h1, h2, h3, h4, h5⟩ := h
  intro l hl i hi
  obtain ⟨l', len, j1, j2, j3, _⟩ := js
  have : l' = l := by rw [hl] at j1; exact (Option.some.inj j1).symm
  subst this
  have ne : l' ≠ k := by
    rcases hcc with q | q
    · intro e; rw [e, isO_al q.1] at j2; cases j2
    · omega
  rw [h3 18 (by decide) (by decide) (by decide)] at hi
  rw [h1 l' (by omega) (by omega) (by omega) (by omega) (by omega) (by omega) ne, h3 17 (by decide) (by decide) (by decide)]
  exact jl l' hl i hi
theorem st_18 {c : Nat} {w : rf_w} {m : rf_m} {y : Nat → Int32} (hc : c < 512) (j : JJ c w m) : wp (g_lc_18 w m y) (fun r => JJ (c + 1) r.1 r.2) := by
  obtain ⟨jD, jt, jcell, jtow, jhaze, jmass, jparty, jbase, jarc, jsight, jlevel, jnet, jfeed, jtell, jguilt, jcost, jadj, jwt, jsus, J, jc, jw, jl⟩ := j
  refine wp_mono (k18 (y := y) J jc (jw_inj jw) jt) (fun r q => ?_)
  obtain ⟨w2, M⟩ := r
  obtain ⟨e0, o1, o2, o3, o4⟩ := q
  have e0 : w2 = w := e0
  subst e0
  have f := fl_18 o4
  exact ⟨(JD_fr f (by decide +kernel) jD), o3, (JCell_fr f (by decide +kernel) jcell), (JTow_m (JTow_fr f (by decide +kernel) jtow) (by omega)), (JHaze_fr f (by decide +kernel) jhaze), (JMass_fr f (by decide +kernel) jmass), (JParty_fr f (by decide +kernel) jparty), (JBase_fr f (by decide +kernel) jbase), (JArc_fr f (by decide +kernel) jarc), (JSight_fr f (by decide +kernel) jsight), (JLevel_fr f (by decide +kernel) jlevel), (JNet_fr f (by decide +kernel) jnet), (JFeed_fr f (by decide +kernel) jfeed), (JTell_fr f (by decide +kernel) jtell), (JGuilt_fr f (by decide +kernel) jguilt), (JCost_fr f (by decide +kernel) jcost), (JAdj_K (dep_of f (by decide +kernel)) jadj), (JWt_K (dep_of f (by decide +kernel)) jwt), (JSus_K (dep_of f (by decide +kernel)) jsus), (cnt_m o1 (by omega) (by omega)), o2, (jw_m (JW_K (dep_of f (by decide +kernel)) jw) (by omega)), (lg_18 J.2.2.1 o4 jl)⟩
theorem fl_13 {w : rf_w} {m : rf_m} {y : Nat → Int32} {r : rf_w × rf_m} (h : g_lc_13 w m y = some r) : fr ((S_X3_freshen ++ (S_X3_keptAt ++ [(305, 305, some 0)])) ++ (S_X14_led ++ S_X14_thrown)) m r.2 := by
  unfold g_lc_13 at h
  obtain ⟨y0, m0, q1, h⟩ := rf_b_some h
  obtain ⟨y1, m1, q2, h⟩ := rf_b_some h
  obtain ⟨y2, m2, q3, h⟩ := rf_b_some h
  obtain ⟨_, h⟩ := rf_g_some h
  obtain ⟨_, h⟩ := rf_g_some h
  obtain rfl := Option.some.inj h
  refine fr_two (A := m0) ?_ (fr_two (fg_X14_led q2) (fg_X14_thrown q3))
  unfold g_L_led g_X11_led_0 h_X11_led_11 h_X11_led_42 at q1
  rw [X3_isAngle, b_sm] at q1
  by_cases c : ib (y 1) (m.1 26 6)
  · rw [bi_t c, if_neg (by decide)] at q1
    cases e1 : g_X3_freshen w m (y 1) with
    | none => rw [e1] at q1; cases q1
    | some A =>
      rw [e1, bv_sm] at q1
      have f1 := fg_X3_freshen e1
      cases e2 : g_X3_keptAt w A (y 1) (y 2) with
      | none => rw [e2] at q1; cases q1
      | some q =>
        obtain ⟨v, B⟩ := q
        rw [e2, b_sm] at q1
        have f2 := fg_X3_keptAt e2
        by_cases v1 : v = -1
        · rw [if_pos v1] at q1
          have e := (Prod.mk.inj (Option.some.inj q1)).2
          have e : B = m0 := e
          subst e
          exact fr_two f1 (fr_l1 f2)
        · rw [if_neg v1] at q1
          have e := (Prod.mk.inj (Option.some.inj q1)).2
          have e : rf_l B 305 0 (Int32.toInt64 v) = m0 := e
          subst e
          exact fr_two f1 (fr_two f2 (fr_l (fr_refl _ B) (by decide)))
  · rw [bi_f c, if_pos rfl] at q1
    have e := (Prod.mk.inj (Option.some.inj q1)).2
    have e : m = m0 := e
    subst e
    exact fr_refl _ m
theorem st_13 {c : Nat} {w : rf_w} {m : rf_m} {y : Nat → Int32} (hc : c < 512) (j : JJ c w m) : wp (g_lc_13 w m y) (fun r => JJ (c + 1) r.1 r.2) := by
  obtain ⟨jD, jt, jcell, jtow, jhaze, jmass, jparty, jbase, jarc, jsight, jlevel, jnet, jfeed, jtell, jguilt, jcost, jadj, jwt, jsus, J, jc, jw, jl⟩ := j
  refine wp_mono (wp_more (k13 (y := y) J jc) (fun r h => fl_13 h)) (fun r q => ?_)
  obtain ⟨w2, M⟩ := r
  obtain ⟨⟨e0, o1, o2⟩, f⟩ := q
  have e0 : w2 = w := e0
  subst e0
  exact ⟨(JD_fr f (by decide +kernel) jD), (JT_fr f (by decide +kernel) jt), (JCell_fr f (by decide +kernel) jcell), (JTow_m (JTow_fr f (by decide +kernel) jtow) (by omega)), (JHaze_fr f (by decide +kernel) jhaze), (JMass_fr f (by decide +kernel) jmass), (JParty_fr f (by decide +kernel) jparty), (JBase_fr f (by decide +kernel) jbase), (JArc_fr f (by decide +kernel) jarc), (JSight_fr f (by decide +kernel) jsight), (JLevel_fr f (by decide +kernel) jlevel), (JNet_fr f (by decide +kernel) jnet), (JFeed_fr f (by decide +kernel) jfeed), (JTell_fr f (by decide +kernel) jtell), (JGuilt_fr f (by decide +kernel) jguilt), (JCost_fr f (by decide +kernel) jcost), (JAdj_K (dep_of f (by decide +kernel)) jadj), (JWt_K (dep_of f (by decide +kernel)) jwt), (JSus_K (dep_of f (by decide +kernel)) jsus), (cnt_m o1 (by omega) (by omega)), o2, (jw_m (JW_K (dep_of f (by decide +kernel)) jw) (by omega)), (JLg_K J.2.2.1 (dep_of f (by decide +kernel)) jl)⟩
def S29 : fr_S := [(0, 0, some 11), (18, 18, none), (25, 25, none), (26, 26, some 19), (31, 32, none), (34, 35, none), (40, 40, none), (55, 174, none), (206, 206, some 0), (206, 206, some 1), (206, 206, some 2), (206, 206, some 33), (206, 206, some 34), (206, 206, some 35), (206, 206, some 36), (206, 206, some 37), (206, 206, some 38), (206, 206, some 88), (226, 228, none), (235, 235, none), (248, 265, none)]
theorem fl_29 {w : rf_w} {m M : rf_m} (h : biA w m M) : fr S29 m (im m M) := by
  obtain ⟨m2, hm, h1, h2, h3⟩ := h
  intro z k hk
  have b1 := fi_1 hk (show (18, 18, none) ∈ S29 by decide) (by decide)
  have hm' : m2.1 z k = m.1 z k := by
    rcases hm with q | q
    · rw [q]
    · have c3 : z ≠ 31 ∧ z ≠ 32 := by
        have := fi_n hk (show (31, 32, none) ∈ S29 by decide) (by decide)
        omega
      have c4 : z ≠ 34 ∧ z ≠ 35 := by
        have := fi_n hk (show (34, 35, none) ∈ S29 by decide) (by decide)
        omega
      by_cases z26 : z = 26
      · subst z26
        exact q.2.1 k (fi_6 hk (show (26, 26, some 19) ∈ S29 by decide) rfl)
      · rw [q.1 z b1 (fi_1 hk (show (25, 25, none) ∈ S29 by decide) (by decide)) z26 c3.1 c3.2 c4.1 c4.2 (fi_1 hk (show (40, 40, none) ∈ S29 by decide) (by decide))]
  refine ⟨?_, rfl⟩
  show M.1 z k = m.1 z k
  by_cases z6 : z = 206
  · subst z6
    rw [h3 k (by
      have r0 := fi_6 hk (show (206, 206, some 0) ∈ S29 by decide) rfl
      have r1 := fi_6 hk (show (206, 206, some 1) ∈ S29 by decide) rfl
      have r2 := fi_6 hk (show (206, 206, some 2) ∈ S29 by decide) rfl
      omega) (by
      have r33 := fi_6 hk (show (206, 206, some 33) ∈ S29 by decide) rfl
      have r34 := fi_6 hk (show (206, 206, some 34) ∈ S29 by decide) rfl
      have r35 := fi_6 hk (show (206, 206, some 35) ∈ S29 by decide) rfl
      have r36 := fi_6 hk (show (206, 206, some 36) ∈ S29 by decide) rfl
      have r37 := fi_6 hk (show (206, 206, some 37) ∈ S29 by decide) rfl
      have r38 := fi_6 hk (show (206, 206, some 38) ∈ S29 by decide) rfl
      omega) (fi_6 hk (show (206, 206, some 88) ∈ S29 by decide) rfl)]
    exact hm'
  · by_cases z0 : z = 0
    · subst z0
      rw [h2 k (fi_6 hk (show (0, 0, some 11) ∈ S29 by decide) rfl)]
      exact hm'
    · rw [h1 z z0 b1 (by
        have := fi_n hk (show (55, 174, none) ∈ S29 by decide) (by decide)
        omega) z6 (by
        have := fi_n hk (show (226, 228, none) ∈ S29 by decide) (by decide)
        omega) (fi_1 hk (show (235, 235, none) ∈ S29 by decide) (by decide)) (by
        have := fi_n hk (show (248, 265, none) ∈ S29 by decide) (by decide)
        omega)]
      exact hm'
theorem st_29 {c : Nat} {w : rf_w} {m : rf_m} {y : Nat → Int32} (hc : c < 512) (j : JJ c w m) : wp (g_lc_29 w m y) (fun r => JJ (c + 1) r.1 r.2) := by
  obtain ⟨jD, jt, jcell, jtow, jhaze, jmass, jparty, jbase, jarc, jsight, jlevel, jnet, jfeed, jtell, jguilt, jcost, jadj, jwt, jsus, J, jc, jw, jl⟩ := j
  refine wp_mono (k29 (y := y) J jc jnet jD jt jcost jadj jwt) (fun r q => ?_)
  obtain ⟨w2, M⟩ := r
  obtain ⟨e0, ob, o1, o2, o3, o4, o5, o6⟩ := q
  have e0 : w2 = w := e0
  subst e0
  have f := fl_29 ob
  exact ⟨(show JD (im m M) from JD_fr f (by decide +kernel) jD), o1, (show JCell (im m M) from JCell_fr f (by decide +kernel) jcell), (JTow_m (show JTow _ (im m M) from JTow_fr f (by decide +kernel) jtow) (by omega)), (show JHaze (im m M) from JHaze_fr f (by decide +kernel) jhaze), (show JMass (im m M) from JMass_fr f (by decide +kernel) jmass), (show JParty (im m M) from JParty_fr f (by decide +kernel) jparty), (show JBase (im m M) from JBase_fr f (by decide +kernel) jbase), (show JArc (im m M) from JArc_fr f (by decide +kernel) jarc), (show JSight (im m M) from JSight_fr f (by decide +kernel) jsight), (show JLevel (im m M) from JLevel_fr f (by decide +kernel) jlevel), (show JNet (im m M) from JNet_fr f (by decide +kernel) jnet), (show JFeed (im m M) from JFeed_fr f (by decide +kernel) jfeed), (show JTell (im m M) from JTell_fr f (by decide +kernel) jtell), (show JGuilt (im m M) from JGuilt_fr f (by decide +kernel) jguilt), o4, o5, o6, (show JSus (im m M) from JSus_K (dep_of f (by decide +kernel)) jsus), (cnt_m o2 (by omega) (by omega)), o3, (jw_m (show JW _ _ (im m M) from JW_K (dep_of f (by decide +kernel)) jw) (by omega)), (show JLg _ (im m M) from JLg_K J.2.2.1 (dep_of f (by decide +kernel)) jl)⟩
def S30 : fr_S := [(67, 78, none), (206, 206, some 0), (249, 253, none), (266, 267, none)]
theorem fl_30 {m M : rf_m} (h : cgF m M) : fr S30 m (im m M) := by
  obtain ⟨h1, h2, h3⟩ := h
  intro z k hk
  have a1 := fi_n hk (show (67, 78, none) ∈ S30 by decide) (by decide)
  have a2 := fi_n hk (show (249, 253, none) ∈ S30 by decide) (by decide)
  have a3 := fi_n hk (show (266, 267, none) ∈ S30 by decide) (by decide)
  have k1 := fi_k hk (show (206, 206, some 0) ∈ S30 by decide)
  refine ⟨?_, rfl⟩
  show M.1 z k = m.1 z k
  by_cases z6 : z = 206
  · subst z6; exact h2 k (by omega)
  · rw [h1 z (by omega)]
theorem cost_30 {m M : rf_m} (h : cgF m M) (j : JCost m) : JCost M := by
  show M.2 55 0 = M.2 206 89
  rw [h.2.2 55 (by omega), h.2.2 206 (by omega)]
  exact j
theorem st_30 {c : Nat} {w : rf_w} {m : rf_m} {y : Nat → Int32} (hc : c < 512) (j : JJ c w m) : wp (g_lc_30 w m y) (fun r => JJ (c + 1) r.1 r.2) := by
  obtain ⟨jD, jt, jcell, jtow, jhaze, jmass, jparty, jbase, jarc, jsight, jlevel, jnet, jfeed, jtell, jguilt, jcost, jadj, jwt, jsus, J, jc, jw, jl⟩ := j
  refine wp_mono (k30 (y := y) J.2.2.2.2.1 jadj) (fun r q => ?_)
  obtain ⟨w2, M⟩ := r
  obtain ⟨e0, o1, o2⟩ := q
  have e0 : w2 = w := e0
  subst e0
  have f := fl_30 o2
  have K := core_K J jc jw jl (dep_of f (by decide +kernel))
  exact ⟨(show JD (im m M) from JD_fr f (by decide +kernel) jD), (show JT (im m M) from JT_fr f (by decide +kernel) jt), (show JCell (im m M) from JCell_fr f (by decide +kernel) jcell), (JTow_m (show JTow _ (im m M) from JTow_fr f (by decide +kernel) jtow) (by omega)), (show JHaze (im m M) from JHaze_fr f (by decide +kernel) jhaze), (show JMass (im m M) from JMass_fr f (by decide +kernel) jmass), (show JParty (im m M) from JParty_fr f (by decide +kernel) jparty), (show JBase (im m M) from JBase_fr f (by decide +kernel) jbase), (show JArc (im m M) from JArc_fr f (by decide +kernel) jarc), (show JSight (im m M) from JSight_fr f (by decide +kernel) jsight), (show JLevel (im m M) from JLevel_fr f (by decide +kernel) jlevel), (show JNet (im m M) from JNet_fr f (by decide +kernel) jnet), (show JFeed (im m M) from JFeed_fr f (by decide +kernel) jfeed), (show JTell (im m M) from JTell_fr f (by decide +kernel) jtell), (show JGuilt (im m M) from JGuilt_fr f (by decide +kernel) jguilt), (cost_30 o2 jcost), o1, (show JWt (im m M) from JWt_K (dep_of f (by decide +kernel)) jwt), (show JSus (im m M) from JSus_K (dep_of f (by decide +kernel)) jsus), ⟨by omega, K.1, str_m K.2.1 (by omega), K.2.2.1, (show JAng (im m M) from JAng_fr f (by decide +kernel) J.2.2.2.2.1), (show JMark (im m M) from JMark_fr f (by decide +kernel) J.2.2.2.2.2.1), K.2.2.2.1⟩, K.2.2.2.2.1, (jw_m K.2.2.2.2.2.1 (by omega)), K.2.2.2.2.2.2⟩
theorem st_31 {c : Nat} {w : rf_w} {m : rf_m} {y : Nat → Int32} (hc : c < 512) (j : JJ c w m) : wp (g_lc_31 w m y) (fun r => JJ (c + 1) r.1 r.2) := by
  obtain ⟨jD, jt, jcell, jtow, jhaze, jmass, jparty, jbase, jarc, jsight, jlevel, jnet, jfeed, jtell, jguilt, jcost, jadj, jwt, jsus, J, jc, jw, jl⟩ := j
  refine wp_mono (k31 (y := y) J.2.2.2.2.1 jadj) (fun r q => ?_)
  obtain ⟨w2, M⟩ := r
  obtain ⟨e0, o1, o2⟩ := q
  have e0 : w2 = w := e0
  subst e0
  have f := fl_30 o2
  have K := core_K J jc jw jl (dep_of f (by decide +kernel))
  exact ⟨(show JD (im m M) from JD_fr f (by decide +kernel) jD), (show JT (im m M) from JT_fr f (by decide +kernel) jt), (show JCell (im m M) from JCell_fr f (by decide +kernel) jcell), (JTow_m (show JTow _ (im m M) from JTow_fr f (by decide +kernel) jtow) (by omega)), (show JHaze (im m M) from JHaze_fr f (by decide +kernel) jhaze), (show JMass (im m M) from JMass_fr f (by decide +kernel) jmass), (show JParty (im m M) from JParty_fr f (by decide +kernel) jparty), (show JBase (im m M) from JBase_fr f (by decide +kernel) jbase), (show JArc (im m M) from JArc_fr f (by decide +kernel) jarc), (show JSight (im m M) from JSight_fr f (by decide +kernel) jsight), (show JLevel (im m M) from JLevel_fr f (by decide +kernel) jlevel), (show JNet (im m M) from JNet_fr f (by decide +kernel) jnet), (show JFeed (im m M) from JFeed_fr f (by decide +kernel) jfeed), (show JTell (im m M) from JTell_fr f (by decide +kernel) jtell), (show JGuilt (im m M) from JGuilt_fr f (by decide +kernel) jguilt), (cost_30 o2 jcost), o1, (show JWt (im m M) from JWt_K (dep_of f (by decide +kernel)) jwt), (show JSus (im m M) from JSus_K (dep_of f (by decide +kernel)) jsus), ⟨by omega, K.1, str_m K.2.1 (by omega), K.2.2.1, (show JAng (im m M) from JAng_fr f (by decide +kernel) J.2.2.2.2.1), (show JMark (im m M) from JMark_fr f (by decide +kernel) J.2.2.2.2.2.1), K.2.2.2.1⟩, K.2.2.2.2.1, (jw_m K.2.2.2.2.2.1 (by omega)), K.2.2.2.2.2.2⟩
def S34 : fr_S := [(0, 0, some 11), (18, 18, none), (25, 25, none), (26, 26, some 19), (31, 32, none), (34, 35, none), (40, 40, none), (175, 182, none), (206, 206, some 0), (206, 206, some 1), (206, 206, some 2), (226, 228, none), (235, 235, none), (248, 248, none), (268, 278, none), (206, 206, some 33), (206, 206, some 34), (206, 206, some 35), (206, 206, some 36), (206, 206, some 37), (206, 206, some 38), (206, 206, some 104), (206, 206, some 105), (206, 206, some 106), (206, 206, some 107), (206, 206, some 108), (206, 206, some 109), (206, 206, some 110), (206, 206, some 111), (206, 206, some 112)]
theorem fl_34 {m M : rf_m} (h : chA m M) : fr S34 m (im m M) := by
  obtain ⟨h1, h2, h3, h4, h5⟩ := h
  intro z k hk
  refine ⟨?_, rfl⟩
  show M.1 z k = m.1 z k
  by_cases z6 : z = 206
  · subst z6
    have r0 := fi_6 hk (show (206, 206, some 0) ∈ S34 by decide) rfl
    have r1 := fi_6 hk (show (206, 206, some 1) ∈ S34 by decide) rfl
    have r2 := fi_6 hk (show (206, 206, some 2) ∈ S34 by decide) rfl
    have r33 := fi_6 hk (show (206, 206, some 33) ∈ S34 by decide) rfl
    have r34 := fi_6 hk (show (206, 206, some 34) ∈ S34 by decide) rfl
    have r35 := fi_6 hk (show (206, 206, some 35) ∈ S34 by decide) rfl
    have r36 := fi_6 hk (show (206, 206, some 36) ∈ S34 by decide) rfl
    have r37 := fi_6 hk (show (206, 206, some 37) ∈ S34 by decide) rfl
    have r38 := fi_6 hk (show (206, 206, some 38) ∈ S34 by decide) rfl
    have r104 := fi_6 hk (show (206, 206, some 104) ∈ S34 by decide) rfl
    have r105 := fi_6 hk (show (206, 206, some 105) ∈ S34 by decide) rfl
    have r106 := fi_6 hk (show (206, 206, some 106) ∈ S34 by decide) rfl
    have r107 := fi_6 hk (show (206, 206, some 107) ∈ S34 by decide) rfl
    have r108 := fi_6 hk (show (206, 206, some 108) ∈ S34 by decide) rfl
    have r109 := fi_6 hk (show (206, 206, some 109) ∈ S34 by decide) rfl
    have r110 := fi_6 hk (show (206, 206, some 110) ∈ S34 by decide) rfl
    have r111 := fi_6 hk (show (206, 206, some 111) ∈ S34 by decide) rfl
    have r112 := fi_6 hk (show (206, 206, some 112) ∈ S34 by decide) rfl
    exact h4 k (by omega)
  · by_cases z0 : z = 0
    · subst z0
      exact h2 k (fi_6 hk (show (0, 0, some 11) ∈ S34 by decide) rfl)
    · by_cases z26 : z = 26
      · subst z26
        exact h3 k (fi_6 hk (show (26, 26, some 19) ∈ S34 by decide) rfl)
      · have c3 : z ≠ 31 ∧ z ≠ 32 := by
          have := fi_n hk (show (31, 32, none) ∈ S34 by decide) (by decide)
          omega
        have c4 : z ≠ 34 ∧ z ≠ 35 := by
          have := fi_n hk (show (34, 35, none) ∈ S34 by decide) (by decide)
          omega
        have c5 : z ≠ 226 ∧ z ≠ 227 ∧ z ≠ 228 := by
          have := fi_n hk (show (226, 228, none) ∈ S34 by decide) (by decide)
          omega
        rw [h1 z z0 (fi_1 hk (show (18, 18, none) ∈ S34 by decide) (by decide)) (fi_1 hk (show (25, 25, none) ∈ S34 by decide) (by decide)) z26 c3.1 c3.2 c4.1 c4.2 (fi_1 hk (show (40, 40, none) ∈ S34 by decide) (by decide)) (fi_n hk (show (175, 182, none) ∈ S34 by decide) (by decide)) z6 c5.1 c5.2.1 c5.2.2 (fi_1 hk (show (235, 235, none) ∈ S34 by decide) (by decide)) (fi_1 hk (show (248, 248, none) ∈ S34 by decide) (by decide)) (fi_n hk (show (268, 278, none) ∈ S34 by decide) (by decide))]
theorem cost_34 {m M : rf_m} (h : chA m M) (j : JCost m) : JCost M := by
  show M.2 55 0 = M.2 206 89
  rw [h.2.2.2.2 55 (by omega) (by omega), h.2.2.2.2 206 (by omega) (by omega)]
  exact j
theorem adj_34 {m M : rf_m} (h : chA m M) (j : JAdj m) : JAdj M := by
  have d := dep_of (P := PAdj) (fl_34 h) (by decide +kernel)
  refine JAdj_e j (fun z hz => ?_) (fun z hz => h.2.2.2.2 z (by omega) (by omega)) (dep_k d 206 88 (by decide))
  refine h.1 z (by omega) (by omega) (by omega) (by omega) (by omega) (by omega) (by omega) (by omega) (by omega) (by omega) (by omega) (by omega) (by omega) (by omega) (by omega) (by omega) (by omega)
theorem st_34 {c : Nat} {w : rf_w} {m : rf_m} {y : Nat → Int32} (hc : c < 512) (j : JJ c w m) : wp (g_lc_34 w m y) (fun r => JJ (c + 1) r.1 r.2) := by
  obtain ⟨jD, jt, jcell, jtow, jhaze, jmass, jparty, jbase, jarc, jsight, jlevel, jnet, jfeed, jtell, jguilt, jcost, jadj, jwt, jsus, J, jc, jw, jl⟩ := j
  refine wp_mono (k34 (y := y) J jc jnet jbase jD jt jtell) (fun r q => ?_)
  obtain ⟨w2, M⟩ := r
  obtain ⟨e0, o1, o2, o3, o4, o5⟩ := q
  have e0 : w2 = w := e0
  subst e0
  have f := fl_34 o5
  exact ⟨(show JD (im m M) from JD_fr f (by decide +kernel) jD), o3, (show JCell (im m M) from JCell_fr f (by decide +kernel) jcell), (JTow_m (show JTow _ (im m M) from JTow_fr f (by decide +kernel) jtow) (by omega)), (show JHaze (im m M) from JHaze_fr f (by decide +kernel) jhaze), (show JMass (im m M) from JMass_fr f (by decide +kernel) jmass), (show JParty (im m M) from JParty_fr f (by decide +kernel) jparty), (show JBase (im m M) from JBase_fr f (by decide +kernel) jbase), (show JArc (im m M) from JArc_fr f (by decide +kernel) jarc), (show JSight (im m M) from JSight_fr f (by decide +kernel) jsight), (show JLevel (im m M) from JLevel_fr f (by decide +kernel) jlevel), (show JNet (im m M) from JNet_fr f (by decide +kernel) jnet), (show JFeed (im m M) from JFeed_fr f (by decide +kernel) jfeed), o4, (show JGuilt (im m M) from JGuilt_fr f (by decide +kernel) jguilt), (cost_34 o5 jcost), (adj_34 o5 jadj), (show JWt (im m M) from JWt_K (dep_of f (by decide +kernel)) jwt), (show JSus (im m M) from JSus_K (dep_of f (by decide +kernel)) jsus), (cnt_m o1 (by omega) (by omega)), o2, (jw_m (show JW _ _ (im m M) from JW_K (dep_of f (by decide +kernel)) jw) (by omega)), (show JLg _ (im m M) from JLg_K J.2.2.1 (dep_of f (by decide +kernel)) jl)⟩
theorem st_37 {c : Nat} {w : rf_w} {m : rf_m} {y : Nat → Int32} (hc : c < 512) (j : JJ c w m) : wp (g_lc_37 w m y) (fun r => JJ (c + 1) r.1 r.2) := by
  obtain ⟨jD, jt, jcell, jtow, jhaze, jmass, jparty, jbase, jarc, jsight, jlevel, jnet, jfeed, jtell, jguilt, jcost, jadj, jwt, jsus, J, jc, jw, jl⟩ := j
  refine wp_mono (k37 (y := y) J jc jnet jbase jD jt jtell) (fun r q => ?_)
  obtain ⟨w2, M⟩ := r
  obtain ⟨e0, o1, o2, o3, o4, o5⟩ := q
  have e0 : w2 = w := e0
  subst e0
  have f := fl_34 o5
  exact ⟨(show JD (im m M) from JD_fr f (by decide +kernel) jD), o3, (show JCell (im m M) from JCell_fr f (by decide +kernel) jcell), (JTow_m (show JTow _ (im m M) from JTow_fr f (by decide +kernel) jtow) (by omega)), (show JHaze (im m M) from JHaze_fr f (by decide +kernel) jhaze), (show JMass (im m M) from JMass_fr f (by decide +kernel) jmass), (show JParty (im m M) from JParty_fr f (by decide +kernel) jparty), (show JBase (im m M) from JBase_fr f (by decide +kernel) jbase), (show JArc (im m M) from JArc_fr f (by decide +kernel) jarc), (show JSight (im m M) from JSight_fr f (by decide +kernel) jsight), (show JLevel (im m M) from JLevel_fr f (by decide +kernel) jlevel), (show JNet (im m M) from JNet_fr f (by decide +kernel) jnet), (show JFeed (im m M) from JFeed_fr f (by decide +kernel) jfeed), o4, (show JGuilt (im m M) from JGuilt_fr f (by decide +kernel) jguilt), (cost_34 o5 jcost), (adj_34 o5 jadj), (show JWt (im m M) from JWt_K (dep_of f (by decide +kernel)) jwt), (show JSus (im m M) from JSus_K (dep_of f (by decide +kernel)) jsus), (cnt_m o1 (by omega) (by omega)), o2, (jw_m (show JW _ _ (im m M) from JW_K (dep_of f (by decide +kernel)) jw) (by omega)), (show JLg _ (im m M) from JLg_K J.2.2.1 (dep_of f (by decide +kernel)) jl)⟩
end PBSpec
