/-! the whole behind each call (1; by wip/tool/gen_step.py) -/
section PBStep1
theorem fl_11 {w : rf_w} {m : rf_m} {y : Nat → Int32} {r : rf_w × rf_m} (h : g_lc_11 w m y = some r) : fr (S_X11_angleOf ++ S_X14_angleOf) m r.2 := by
  unfold g_lc_11 at h
  obtain ⟨y0, m0, q1, h⟩ := rf_b_some h
  obtain ⟨y1, m1, q2, h⟩ := rf_b_some h
  obtain ⟨_, h⟩ := rf_g_some h
  obtain rfl := Option.some.inj h
  exact fr_two (fg_X11_angleOf q1) (fg_X14_angleOf q2)
theorem st_11 {c : Nat} {w : rf_w} {m : rf_m} {y : Nat → Int32} (hc : c < 512) (j : JJ c w m) : wp (g_lc_11 w m y) (fun r => JJ (c + 1) r.1 r.2) := by
  obtain ⟨jD, jt, jcell, jtow, jhaze, jmass, jparty, jbase, jarc, jsight, jlevel, jnet, jfeed, jtell, jguilt, jcost, jadj, jwt, jsus, J, jc, jw, jl⟩ := j
  refine wp_mono (wp_more (k11 (y := y) J jc jD) (fun r h => fl_11 h)) (fun r q => ?_)
  obtain ⟨w2, M⟩ := r
  obtain ⟨⟨e0, o1, o2⟩, f⟩ := q
  have e0 : w2 = w := e0
  subst e0
  exact ⟨(JD_fr f (by decide +kernel) jD), (JT_fr f (by decide +kernel) jt), (JCell_fr f (by decide +kernel) jcell), (JTow_m (JTow_fr f (by decide +kernel) jtow) (by omega)), (JHaze_fr f (by decide +kernel) jhaze), (JMass_fr f (by decide +kernel) jmass), (JParty_fr f (by decide +kernel) jparty), (JBase_fr f (by decide +kernel) jbase), (JArc_fr f (by decide +kernel) jarc), (JSight_fr f (by decide +kernel) jsight), (JLevel_fr f (by decide +kernel) jlevel), (JNet_fr f (by decide +kernel) jnet), (JFeed_fr f (by decide +kernel) jfeed), (JTell_fr f (by decide +kernel) jtell), (JGuilt_fr f (by decide +kernel) jguilt), (JCost_fr f (by decide +kernel) jcost), (JAdj_K (dep_of f (by decide +kernel)) jadj), (JWt_K (dep_of f (by decide +kernel)) jwt), (JSus_K (dep_of f (by decide +kernel)) jsus), (cnt_m o1 (by omega) (by omega)), o2, (jw_m (JW_K (dep_of f (by decide +kernel)) jw) (by omega)), (JLg_K J.2.2.1 (dep_of f (by decide +kernel)) jl)⟩
theorem fl_12 {w : rf_w} {m : rf_m} {y : Nat → Int32} {r : rf_w × rf_m} (h : g_lc_12 w m y = some r) : fr (S_X11_known ++ S_X14_known) m r.2 := by
  unfold g_lc_12 at h
  obtain ⟨y0, m0, q1, h⟩ := rf_b_some h
  obtain ⟨y1, m1, q2, h⟩ := rf_b_some h
  obtain ⟨_, h⟩ := rf_g_some h
  obtain rfl := Option.some.inj h
  exact fr_two (fg_X11_known q1) (fg_X14_known q2)
theorem st_12 {c : Nat} {w : rf_w} {m : rf_m} {y : Nat → Int32} (hc : c < 512) (j : JJ c w m) : wp (g_lc_12 w m y) (fun r => JJ (c + 1) r.1 r.2) := by
  obtain ⟨jD, jt, jcell, jtow, jhaze, jmass, jparty, jbase, jarc, jsight, jlevel, jnet, jfeed, jtell, jguilt, jcost, jadj, jwt, jsus, J, jc, jw, jl⟩ := j
  refine wp_mono (wp_more (k12 (y := y) J jc jD) (fun r h => fl_12 h)) (fun r q => ?_)
  obtain ⟨w2, M⟩ := r
  obtain ⟨⟨e0, o1, o2⟩, f⟩ := q
  have e0 : w2 = w := e0
  subst e0
  exact ⟨(JD_fr f (by decide +kernel) jD), (JT_fr f (by decide +kernel) jt), (JCell_fr f (by decide +kernel) jcell), (JTow_m (JTow_fr f (by decide +kernel) jtow) (by omega)), (JHaze_fr f (by decide +kernel) jhaze), (JMass_fr f (by decide +kernel) jmass), (JParty_fr f (by decide +kernel) jparty), (JBase_fr f (by decide +kernel) jbase), (JArc_fr f (by decide +kernel) jarc), (JSight_fr f (by decide +kernel) jsight), (JLevel_fr f (by decide +kernel) jlevel), (JNet_fr f (by decide +kernel) jnet), (JFeed_fr f (by decide +kernel) jfeed), (JTell_fr f (by decide +kernel) jtell), (JGuilt_fr f (by decide +kernel) jguilt), (JCost_fr f (by decide +kernel) jcost), (JAdj_K (dep_of f (by decide +kernel)) jadj), (JWt_K (dep_of f (by decide +kernel)) jwt), (JSus_K (dep_of f (by decide +kernel)) jsus), (cnt_m o1 (by omega) (by omega)), o2, (jw_m (JW_K (dep_of f (by decide +kernel)) jw) (by omega)), (JLg_K J.2.2.1 (dep_of f (by decide +kernel)) jl)⟩
theorem fl_14 {w : rf_w} {m : rf_m} {y : Nat → Int32} {r : rf_w × rf_m} (h : g_lc_14 w m y = some r) : fr (S_X11_feed ++ S_X14_feed) m r.2 := by
  unfold g_lc_14 at h
  obtain ⟨y0, m0, q1, h⟩ := rf_b_some h
  obtain ⟨y1, m1, q2, h⟩ := rf_b_some h
  obtain ⟨_, h⟩ := rf_g_some h
  obtain rfl := Option.some.inj h
  exact fr_two (fg_X11_feed q1) (fg_X14_feed q2)
theorem st_14 {c : Nat} {w : rf_w} {m : rf_m} {y : Nat → Int32} (hc : c < 512) (j : JJ c w m) : wp (g_lc_14 w m y) (fun r => JJ (c + 1) r.1 r.2) := by
  obtain ⟨jD, jt, jcell, jtow, jhaze, jmass, jparty, jbase, jarc, jsight, jlevel, jnet, jfeed, jtell, jguilt, jcost, jadj, jwt, jsus, J, jc, jw, jl⟩ := j
  refine wp_mono (wp_more (k14 (y := y) jfeed) (fun r h => fl_14 h)) (fun r q => ?_)
  obtain ⟨w2, M⟩ := r
  obtain ⟨⟨e0, o1⟩, f⟩ := q
  have e0 : w2 = w := e0
  subst e0
  have K := core_K J jc jw jl (dep_of (fr_im f) (by decide +kernel))
  exact ⟨(JD_fr f (by decide +kernel) jD), (JT_fr f (by decide +kernel) jt), (JCell_fr f (by decide +kernel) jcell), (JTow_m (JTow_fr f (by decide +kernel) jtow) (by omega)), (JHaze_fr f (by decide +kernel) jhaze), (JMass_fr f (by decide +kernel) jmass), (JParty_fr f (by decide +kernel) jparty), (JBase_fr f (by decide +kernel) jbase), (JArc_fr f (by decide +kernel) jarc), (JSight_fr f (by decide +kernel) jsight), (JLevel_fr f (by decide +kernel) jlevel), (JNet_fr f (by decide +kernel) jnet), o1, (JTell_fr f (by decide +kernel) jtell), (JGuilt_fr f (by decide +kernel) jguilt), (JCost_fr f (by decide +kernel) jcost), (JAdj_K (dep_of f (by decide +kernel)) jadj), (JWt_K (dep_of f (by decide +kernel)) jwt), (JSus_K (dep_of f (by decide +kernel)) jsus), ⟨by omega, K.1, str_m K.2.1 (by omega), K.2.2.1, (JAng_fr f (by decide +kernel) J.2.2.2.2.1), (JMark_fr f (by decide +kernel) J.2.2.2.2.2.1), K.2.2.2.1⟩, K.2.2.2.2.1, (jw_m K.2.2.2.2.2.1 (by omega)), K.2.2.2.2.2.2⟩
theorem fl_16 {w : rf_w} {m : rf_m} {y : Nat → Int32} {r : rf_w × rf_m} (h : g_lc_16 w m y = some r) : fr (S_X11_fault ++ S_X14_fault) m r.2 := by
  unfold g_lc_16 at h
  obtain ⟨y0, m0, q1, h⟩ := rf_b_some h
  obtain ⟨y1, m1, q2, h⟩ := rf_b_some h
  obtain ⟨_, h⟩ := rf_g_some h
  obtain rfl := Option.some.inj h
  exact fr_two (fg_X11_fault q1) (fg_X14_fault q2)
theorem st_16 {c : Nat} {w : rf_w} {m : rf_m} {y : Nat → Int32} (hc : c < 512) (j : JJ c w m) : wp (g_lc_16 w m y) (fun r => JJ (c + 1) r.1 r.2) := by
  obtain ⟨jD, jt, jcell, jtow, jhaze, jmass, jparty, jbase, jarc, jsight, jlevel, jnet, jfeed, jtell, jguilt, jcost, jadj, jwt, jsus, J, jc, jw, jl⟩ := j
  refine wp_mono (wp_more (k16 (y := y) jt) (fun r h => fl_16 h)) (fun r q => ?_)
  obtain ⟨w2, M⟩ := r
  obtain ⟨⟨e0, o1⟩, f⟩ := q
  have e0 : w2 = w := e0
  subst e0
  have K := core_K J jc jw jl (dep_of (fr_im f) (by decide +kernel))
  exact ⟨(JD_fr f (by decide +kernel) jD), o1, (JCell_fr f (by decide +kernel) jcell), (JTow_m (JTow_fr f (by decide +kernel) jtow) (by omega)), (JHaze_fr f (by decide +kernel) jhaze), (JMass_fr f (by decide +kernel) jmass), (JParty_fr f (by decide +kernel) jparty), (JBase_fr f (by decide +kernel) jbase), (JArc_fr f (by decide +kernel) jarc), (JSight_fr f (by decide +kernel) jsight), (JLevel_fr f (by decide +kernel) jlevel), (JNet_fr f (by decide +kernel) jnet), (JFeed_fr f (by decide +kernel) jfeed), (JTell_fr f (by decide +kernel) jtell), (JGuilt_fr f (by decide +kernel) jguilt), (JCost_fr f (by decide +kernel) jcost), (JAdj_K (dep_of f (by decide +kernel)) jadj), (JWt_K (dep_of f (by decide +kernel)) jwt), (JSus_K (dep_of f (by decide +kernel)) jsus), ⟨by omega, K.1, str_m K.2.1 (by omega), K.2.2.1, (JAng_fr f (by decide +kernel) J.2.2.2.2.1), (JMark_fr f (by decide +kernel) J.2.2.2.2.2.1), K.2.2.2.1⟩, K.2.2.2.2.1, (jw_m K.2.2.2.2.2.1 (by omega)), K.2.2.2.2.2.2⟩
theorem fl_17 {w : rf_w} {m : rf_m} {y : Nat → Int32} {r : rf_w × rf_m} (h : g_lc_17 w m y = some r) : fr (S_X11_where ++ S_X14_where) m r.2 := by
  unfold g_lc_17 at h
  obtain ⟨y0, m0, q1, h⟩ := rf_b_some h
  obtain ⟨y1, m1, q2, h⟩ := rf_b_some h
  obtain ⟨_, h⟩ := rf_g_some h
  obtain rfl := Option.some.inj h
  exact fr_two (fg_X11_where q1) (fg_X14_where q2)
theorem st_17 {c : Nat} {w : rf_w} {m : rf_m} {y : Nat → Int32} (hc : c < 512) (j : JJ c w m) : wp (g_lc_17 w m y) (fun r => JJ (c + 1) r.1 r.2) := by
  obtain ⟨jD, jt, jcell, jtow, jhaze, jmass, jparty, jbase, jarc, jsight, jlevel, jnet, jfeed, jtell, jguilt, jcost, jadj, jwt, jsus, J, jc, jw, jl⟩ := j
  refine wp_mono (wp_more (k17 (y := y) jt) (fun r h => fl_17 h)) (fun r q => ?_)
  obtain ⟨w2, M⟩ := r
  obtain ⟨⟨e0, o1⟩, f⟩ := q
  have e0 : w2 = w := e0
  subst e0
  have K := core_K J jc jw jl (dep_of (fr_im f) (by decide +kernel))
  exact ⟨(JD_fr f (by decide +kernel) jD), o1, (JCell_fr f (by decide +kernel) jcell), (JTow_m (JTow_fr f (by decide +kernel) jtow) (by omega)), (JHaze_fr f (by decide +kernel) jhaze), (JMass_fr f (by decide +kernel) jmass), (JParty_fr f (by decide +kernel) jparty), (JBase_fr f (by decide +kernel) jbase), (JArc_fr f (by decide +kernel) jarc), (JSight_fr f (by decide +kernel) jsight), (JLevel_fr f (by decide +kernel) jlevel), (JNet_fr f (by decide +kernel) jnet), (JFeed_fr f (by decide +kernel) jfeed), (JTell_fr f (by decide +kernel) jtell), (JGuilt_fr f (by decide +kernel) jguilt), (JCost_fr f (by decide +kernel) jcost), (JAdj_K (dep_of f (by decide +kernel)) jadj), (JWt_K (dep_of f (by decide +kernel)) jwt), (JSus_K (dep_of f (by decide +kernel)) jsus), ⟨by omega, K.1, str_m K.2.1 (by omega), K.2.2.1, (JAng_fr f (by decide +kernel) J.2.2.2.2.1), (JMark_fr f (by decide +kernel) J.2.2.2.2.2.1), K.2.2.2.1⟩, K.2.2.2.2.1, (jw_m K.2.2.2.2.2.1 (by omega)), K.2.2.2.2.2.2⟩
theorem fl_19 {w : rf_w} {m : rf_m} {y : Nat → Int32} {r : rf_w × rf_m} (h : g_lc_19 w m y = some r) : fr (S_X11_told ++ S_X14_told) m r.2 := by
  unfold g_lc_19 at h
  obtain ⟨y0, m0, q1, h⟩ := rf_b_some h
  obtain ⟨y1, m1, q2, h⟩ := rf_b_some h
  obtain ⟨_, h⟩ := rf_g_some h
  obtain rfl := Option.some.inj h
  exact fr_two (fg_X11_told q1) (fg_X14_told q2)
theorem st_19 {c : Nat} {w : rf_w} {m : rf_m} {y : Nat → Int32} (hc : c < 512) (j : JJ c w m) : wp (g_lc_19 w m y) (fun r => JJ (c + 1) r.1 r.2) := by
  obtain ⟨jD, jt, jcell, jtow, jhaze, jmass, jparty, jbase, jarc, jsight, jlevel, jnet, jfeed, jtell, jguilt, jcost, jadj, jwt, jsus, J, jc, jw, jl⟩ := j
  refine wp_mono (wp_more (k19 (y := y) J.2.2.2.1 jD) (fun r h => fl_19 h)) (fun r q => ?_)
  obtain ⟨w2, M⟩ := r
  obtain ⟨e0, f⟩ := q
  have e0 : w2 = w := e0
  subst e0
  have K := core_K J jc jw jl (dep_of (fr_im f) (by decide +kernel))
  exact ⟨(JD_fr f (by decide +kernel) jD), (JT_fr f (by decide +kernel) jt), (JCell_fr f (by decide +kernel) jcell), (JTow_m (JTow_fr f (by decide +kernel) jtow) (by omega)), (JHaze_fr f (by decide +kernel) jhaze), (JMass_fr f (by decide +kernel) jmass), (JParty_fr f (by decide +kernel) jparty), (JBase_fr f (by decide +kernel) jbase), (JArc_fr f (by decide +kernel) jarc), (JSight_fr f (by decide +kernel) jsight), (JLevel_fr f (by decide +kernel) jlevel), (JNet_fr f (by decide +kernel) jnet), (JFeed_fr f (by decide +kernel) jfeed), (JTell_fr f (by decide +kernel) jtell), (JGuilt_fr f (by decide +kernel) jguilt), (JCost_fr f (by decide +kernel) jcost), (JAdj_K (dep_of f (by decide +kernel)) jadj), (JWt_K (dep_of f (by decide +kernel)) jwt), (JSus_K (dep_of f (by decide +kernel)) jsus), ⟨by omega, K.1, str_m K.2.1 (by omega), K.2.2.1, (JAng_fr f (by decide +kernel) J.2.2.2.2.1), (JMark_fr f (by decide +kernel) J.2.2.2.2.2.1), K.2.2.2.1⟩, K.2.2.2.2.1, (jw_m K.2.2.2.2.2.1 (by omega)), K.2.2.2.2.2.2⟩
theorem fl_20 {w : rf_w} {m : rf_m} {y : Nat → Int32} {r : rf_w × rf_m} (h : g_lc_20 w m y = some r) : fr (S_X11_base ++ S_X14_base) m r.2 := by
  unfold g_lc_20 at h
  obtain ⟨y0, m0, q1, h⟩ := rf_b_some h
  obtain ⟨y1, m1, q2, h⟩ := rf_b_some h
  obtain ⟨_, h⟩ := rf_g_some h
  obtain rfl := Option.some.inj h
  exact fr_two (fg_X11_base q1) (fg_X14_base q2)
theorem st_20 {c : Nat} {w : rf_w} {m : rf_m} {y : Nat → Int32} (hc : c < 512) (j : JJ c w m) : wp (g_lc_20 w m y) (fun r => JJ (c + 1) r.1 r.2) := by
  obtain ⟨jD, jt, jcell, jtow, jhaze, jmass, jparty, jbase, jarc, jsight, jlevel, jnet, jfeed, jtell, jguilt, jcost, jadj, jwt, jsus, J, jc, jw, jl⟩ := j
  refine wp_mono (wp_more (k20 (y := y) J.2.2.2.2.2.1 jparty jt jbase) (fun r h => fl_20 h)) (fun r q => ?_)
  obtain ⟨w2, M⟩ := r
  obtain ⟨⟨e0, o1, o2⟩, f⟩ := q
  have e0 : w2 = w := e0
  subst e0
  have K := core_K J jc jw jl (dep_of (fr_im f) (by decide +kernel))
  exact ⟨(JD_fr f (by decide +kernel) jD), o1, (JCell_fr f (by decide +kernel) jcell), (JTow_m (JTow_fr f (by decide +kernel) jtow) (by omega)), (JHaze_fr f (by decide +kernel) jhaze), (JMass_fr f (by decide +kernel) jmass), (JParty_fr f (by decide +kernel) jparty), o2, (JArc_fr f (by decide +kernel) jarc), (JSight_fr f (by decide +kernel) jsight), (JLevel_fr f (by decide +kernel) jlevel), (JNet_fr f (by decide +kernel) jnet), (JFeed_fr f (by decide +kernel) jfeed), (JTell_fr f (by decide +kernel) jtell), (JGuilt_fr f (by decide +kernel) jguilt), (JCost_fr f (by decide +kernel) jcost), (JAdj_K (dep_of f (by decide +kernel)) jadj), (JWt_K (dep_of f (by decide +kernel)) jwt), (JSus_K (dep_of f (by decide +kernel)) jsus), ⟨by omega, K.1, str_m K.2.1 (by omega), K.2.2.1, (JAng_fr f (by decide +kernel) J.2.2.2.2.1), (JMark_fr f (by decide +kernel) J.2.2.2.2.2.1), K.2.2.2.1⟩, K.2.2.2.2.1, (jw_m K.2.2.2.2.2.1 (by omega)), K.2.2.2.2.2.2⟩
theorem fl_21 {w : rf_w} {m : rf_m} {y : Nat → Int32} {r : rf_w × rf_m} (h : g_lc_21 w m y = some r) : fr (S_X11_bar ++ S_X14_bar) m r.2 := by
  unfold g_lc_21 at h
  obtain ⟨y0, m0, q1, h⟩ := rf_b_some h
  obtain ⟨y1, m1, q2, h⟩ := rf_b_some h
  obtain ⟨_, h⟩ := rf_g_some h
  obtain rfl := Option.some.inj h
  exact fr_two (fg_X11_bar q1) (fg_X14_bar q2)
theorem st_21 {c : Nat} {w : rf_w} {m : rf_m} {y : Nat → Int32} (hc : c < 512) (j : JJ c w m) : wp (g_lc_21 w m y) (fun r => JJ (c + 1) r.1 r.2) := by
  obtain ⟨jD, jt, jcell, jtow, jhaze, jmass, jparty, jbase, jarc, jsight, jlevel, jnet, jfeed, jtell, jguilt, jcost, jadj, jwt, jsus, J, jc, jw, jl⟩ := j
  refine wp_mono (wp_more (k21 (y := y) jt jbase) (fun r h => fl_21 h)) (fun r q => ?_)
  obtain ⟨w2, M⟩ := r
  obtain ⟨⟨e0, o1, o2⟩, f⟩ := q
  have e0 : w2 = w := e0
  subst e0
  have K := core_K J jc jw jl (dep_of (fr_im f) (by decide +kernel))
  exact ⟨(JD_fr f (by decide +kernel) jD), o1, (JCell_fr f (by decide +kernel) jcell), (JTow_m (JTow_fr f (by decide +kernel) jtow) (by omega)), (JHaze_fr f (by decide +kernel) jhaze), (JMass_fr f (by decide +kernel) jmass), (JParty_fr f (by decide +kernel) jparty), o2, (JArc_fr f (by decide +kernel) jarc), (JSight_fr f (by decide +kernel) jsight), (JLevel_fr f (by decide +kernel) jlevel), (JNet_fr f (by decide +kernel) jnet), (JFeed_fr f (by decide +kernel) jfeed), (JTell_fr f (by decide +kernel) jtell), (JGuilt_fr f (by decide +kernel) jguilt), (JCost_fr f (by decide +kernel) jcost), (JAdj_K (dep_of f (by decide +kernel)) jadj), (JWt_K (dep_of f (by decide +kernel)) jwt), (JSus_K (dep_of f (by decide +kernel)) jsus), ⟨by omega, K.1, str_m K.2.1 (by omega), K.2.2.1, (JAng_fr f (by decide +kernel) J.2.2.2.2.1), (JMark_fr f (by decide +kernel) J.2.2.2.2.2.1), K.2.2.2.1⟩, K.2.2.2.2.1, (jw_m K.2.2.2.2.2.1 (by omega)), K.2.2.2.2.2.2⟩
end PBStep1
