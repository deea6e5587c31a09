/-! the whole behind each call (4; by wip/tool/gen_step.py) -/
section PBStep4
theorem fl_43 {w : rf_w} {m : rf_m} {y : Nat → Int32} {r : rf_w × rf_m} (h : g_lc_43 w m y = some r) : fr (S_X11_rivals ++ S_X14_rivals) m r.2 := by
  unfold g_lc_43 at h
  obtain ⟨y0, m0, q1, h⟩ := rf_b_some h
  obtain ⟨y1, m1, q2, h⟩ := rf_b_some h
  obtain ⟨_, h⟩ := rf_g_some h
  obtain rfl := Option.some.inj h
  exact fr_two (fg_X11_rivals q1) (fg_X14_rivals q2)
theorem st_43 {c : Nat} {w : rf_w} {m : rf_m} {y : Nat → Int32} (hc : c < 512) (j : JJ c w m) : wp (g_lc_43 w m y) (fun r => JJ (c + 1) r.1 r.2) := by
  obtain ⟨jD, jt, jcell, jtow, jhaze, jmass, jparty, jbase, jarc, jsight, jlevel, jnet, jfeed, jtell, jguilt, jcost, jadj, jwt, jsus, J, jc, jw, jl⟩ := j
  refine wp_mono (wp_more (k43 (y := y) jguilt) (fun r h => fl_43 h)) (fun r q => ?_)
  obtain ⟨w2, M⟩ := r
  obtain ⟨e0, f⟩ := q
  have e0 : w2 = w := e0
  subst e0
  have K := core_K J jc jw jl (dep_of (fr_im f) (by decide +kernel))
  exact ⟨(JD_fr f (by decide +kernel) jD), (JT_fr f (by decide +kernel) jt), (JCell_fr f (by decide +kernel) jcell), (JTow_m (JTow_fr f (by decide +kernel) jtow) (by omega)), (JHaze_fr f (by decide +kernel) jhaze), (JMass_fr f (by decide +kernel) jmass), (JParty_fr f (by decide +kernel) jparty), (JBase_fr f (by decide +kernel) jbase), (JArc_fr f (by decide +kernel) jarc), (JSight_fr f (by decide +kernel) jsight), (JLevel_fr f (by decide +kernel) jlevel), (JNet_fr f (by decide +kernel) jnet), (JFeed_fr f (by decide +kernel) jfeed), (JTell_fr f (by decide +kernel) jtell), (JGuilt_fr f (by decide +kernel) jguilt), (JCost_fr f (by decide +kernel) jcost), (JAdj_K (dep_of f (by decide +kernel)) jadj), (JWt_K (dep_of f (by decide +kernel)) jwt), (JSus_K (dep_of f (by decide +kernel)) jsus), ⟨by omega, K.1, str_m K.2.1 (by omega), K.2.2.1, (JAng_fr f (by decide +kernel) J.2.2.2.2.1), (JMark_fr f (by decide +kernel) J.2.2.2.2.2.1), K.2.2.2.1⟩, K.2.2.2.2.1, (jw_m K.2.2.2.2.2.1 (by omega)), K.2.2.2.2.2.2⟩
theorem fl_44 {w : rf_w} {m : rf_m} {y : Nat → Int32} {r : rf_w × rf_m} (h : g_lc_44 w m y = some r) : fr (S_X11_star ++ S_X14_star) m r.2 := by
  unfold g_lc_44 at h
  obtain ⟨y0, m0, q1, h⟩ := rf_b_some h
  obtain ⟨y1, m1, q2, h⟩ := rf_b_some h
  obtain ⟨_, h⟩ := rf_g_some h
  obtain rfl := Option.some.inj h
  exact fr_two (fg_X11_star q1) (fg_X14_star q2)
theorem st_44 {c : Nat} {w : rf_w} {m : rf_m} {y : Nat → Int32} (hc : c < 512) (j : JJ c w m) : wp (g_lc_44 w m y) (fun r => JJ (c + 1) r.1 r.2) := by
  obtain ⟨jD, jt, jcell, jtow, jhaze, jmass, jparty, jbase, jarc, jsight, jlevel, jnet, jfeed, jtell, jguilt, jcost, jadj, jwt, jsus, J, jc, jw, jl⟩ := j
  refine wp_mono (wp_more (k44 (y := y) J.2.2.2.2.2.1 jt jsight) (fun r h => fl_44 h)) (fun r q => ?_)
  obtain ⟨w2, M⟩ := r
  obtain ⟨⟨e0, o1, o2⟩, f⟩ := q
  have e0 : w2 = w := e0
  subst e0
  have K := core_K J jc jw jl (dep_of (fr_im f) (by decide +kernel))
  exact ⟨(JD_fr f (by decide +kernel) jD), o1, (JCell_fr f (by decide +kernel) jcell), (JTow_m (JTow_fr f (by decide +kernel) jtow) (by omega)), (JHaze_fr f (by decide +kernel) jhaze), (JMass_fr f (by decide +kernel) jmass), (JParty_fr f (by decide +kernel) jparty), (JBase_fr f (by decide +kernel) jbase), (JArc_fr f (by decide +kernel) jarc), o2, (JLevel_fr f (by decide +kernel) jlevel), (JNet_fr f (by decide +kernel) jnet), (JFeed_fr f (by decide +kernel) jfeed), (JTell_fr f (by decide +kernel) jtell), (JGuilt_fr f (by decide +kernel) jguilt), (JCost_fr f (by decide +kernel) jcost), (JAdj_K (dep_of f (by decide +kernel)) jadj), (JWt_K (dep_of f (by decide +kernel)) jwt), (JSus_K (dep_of f (by decide +kernel)) jsus), ⟨by omega, K.1, str_m K.2.1 (by omega), K.2.2.1, (JAng_fr f (by decide +kernel) J.2.2.2.2.1), (JMark_fr f (by decide +kernel) J.2.2.2.2.2.1), K.2.2.2.1⟩, K.2.2.2.2.1, (jw_m K.2.2.2.2.2.1 (by omega)), K.2.2.2.2.2.2⟩
theorem fl_45 {w : rf_w} {m : rf_m} {y : Nat → Int32} {r : rf_w × rf_m} (h : g_lc_45 w m y = some r) : fr (S_X11_north ++ S_X14_north) m r.2 := by
  unfold g_lc_45 at h
  obtain ⟨y0, m0, q1, h⟩ := rf_b_some h
  obtain ⟨y1, m1, q2, h⟩ := rf_b_some h
  obtain ⟨_, h⟩ := rf_g_some h
  obtain rfl := Option.some.inj h
  exact fr_two (fg_X11_north q1) (fg_X14_north q2)
theorem st_45 {c : Nat} {w : rf_w} {m : rf_m} {y : Nat → Int32} (hc : c < 512) (j : JJ c w m) : wp (g_lc_45 w m y) (fun r => JJ (c + 1) r.1 r.2) := by
  obtain ⟨jD, jt, jcell, jtow, jhaze, jmass, jparty, jbase, jarc, jsight, jlevel, jnet, jfeed, jtell, jguilt, jcost, jadj, jwt, jsus, J, jc, jw, jl⟩ := j
  refine wp_mono (wp_more (k45 (y := y) J jc jsight) (fun r h => fl_45 h)) (fun r q => ?_)
  obtain ⟨w2, M⟩ := r
  obtain ⟨⟨e0, o1, o2⟩, f⟩ := q
  have e0 : w2 = w := e0
  subst e0
  exact ⟨(JD_fr f (by decide +kernel) jD), (JT_fr f (by decide +kernel) jt), (JCell_fr f (by decide +kernel) jcell), (JTow_m (JTow_fr f (by decide +kernel) jtow) (by omega)), (JHaze_fr f (by decide +kernel) jhaze), (JMass_fr f (by decide +kernel) jmass), (JParty_fr f (by decide +kernel) jparty), (JBase_fr f (by decide +kernel) jbase), (JArc_fr f (by decide +kernel) jarc), (JSight_fr f (by decide +kernel) jsight), (JLevel_fr f (by decide +kernel) jlevel), (JNet_fr f (by decide +kernel) jnet), (JFeed_fr f (by decide +kernel) jfeed), (JTell_fr f (by decide +kernel) jtell), (JGuilt_fr f (by decide +kernel) jguilt), (JCost_fr f (by decide +kernel) jcost), (JAdj_K (dep_of f (by decide +kernel)) jadj), (JWt_K (dep_of f (by decide +kernel)) jwt), (JSus_K (dep_of f (by decide +kernel)) jsus), (cnt_m o1 (by omega) (by omega)), o2, (jw_m (JW_K (dep_of f (by decide +kernel)) jw) (by omega)), (JLg_K J.2.2.1 (dep_of f (by decide +kernel)) jl)⟩
theorem fl_46 {w : rf_w} {m : rf_m} {y : Nat → Int32} {r : rf_w × rf_m} (h : g_lc_46 w m y = some r) : fr (S_X11_steps ++ S_X14_steps) m r.2 := by
  unfold g_lc_46 at h
  obtain ⟨y0, m0, q1, h⟩ := rf_b_some h
  obtain ⟨y1, m1, q2, h⟩ := rf_b_some h
  obtain ⟨_, h⟩ := rf_g_some h
  obtain rfl := Option.some.inj h
  exact fr_two (fg_X11_steps q1) (fg_X14_steps q2)
theorem st_46 {c : Nat} {w : rf_w} {m : rf_m} {y : Nat → Int32} (hc : c < 512) (j : JJ c w m) : wp (g_lc_46 w m y) (fun r => JJ (c + 1) r.1 r.2) := by
  obtain ⟨jD, jt, jcell, jtow, jhaze, jmass, jparty, jbase, jarc, jsight, jlevel, jnet, jfeed, jtell, jguilt, jcost, jadj, jwt, jsus, J, jc, jw, jl⟩ := j
  refine wp_mono (wp_more (k46 (y := y) J jc jsight) (fun r h => fl_46 h)) (fun r q => ?_)
  obtain ⟨w2, M⟩ := r
  obtain ⟨⟨e0, o1, o2⟩, f⟩ := q
  have e0 : w2 = w := e0
  subst e0
  exact ⟨(JD_fr f (by decide +kernel) jD), (JT_fr f (by decide +kernel) jt), (JCell_fr f (by decide +kernel) jcell), (JTow_m (JTow_fr f (by decide +kernel) jtow) (by omega)), (JHaze_fr f (by decide +kernel) jhaze), (JMass_fr f (by decide +kernel) jmass), (JParty_fr f (by decide +kernel) jparty), (JBase_fr f (by decide +kernel) jbase), (JArc_fr f (by decide +kernel) jarc), (JSight_fr f (by decide +kernel) jsight), (JLevel_fr f (by decide +kernel) jlevel), (JNet_fr f (by decide +kernel) jnet), (JFeed_fr f (by decide +kernel) jfeed), (JTell_fr f (by decide +kernel) jtell), (JGuilt_fr f (by decide +kernel) jguilt), (JCost_fr f (by decide +kernel) jcost), (JAdj_K (dep_of f (by decide +kernel)) jadj), (JWt_K (dep_of f (by decide +kernel)) jwt), (JSus_K (dep_of f (by decide +kernel)) jsus), (cnt_m o1 (by omega) (by omega)), o2, (jw_m (JW_K (dep_of f (by decide +kernel)) jw) (by omega)), (JLg_K J.2.2.1 (dep_of f (by decide +kernel)) jl)⟩
theorem fl_47 {w : rf_w} {m : rf_m} {y : Nat → Int32} {r : rf_w × rf_m} (h : g_lc_47 w m y = some r) : fr (S_X11_level ++ S_X14_level) m r.2 := by
  unfold g_lc_47 at h
  obtain ⟨y0, m0, q1, h⟩ := rf_b_some h
  obtain ⟨y1, m1, q2, h⟩ := rf_b_some h
  obtain ⟨_, h⟩ := rf_g_some h
  obtain rfl := Option.some.inj h
  exact fr_two (fg_X11_level q1) (fg_X14_level q2)
theorem st_47 {c : Nat} {w : rf_w} {m : rf_m} {y : Nat → Int32} (hc : c < 512) (j : JJ c w m) : wp (g_lc_47 w m y) (fun r => JJ (c + 1) r.1 r.2) := by
  obtain ⟨jD, jt, jcell, jtow, jhaze, jmass, jparty, jbase, jarc, jsight, jlevel, jnet, jfeed, jtell, jguilt, jcost, jadj, jwt, jsus, J, jc, jw, jl⟩ := j
  refine wp_mono (wp_more (k47 (y := y) J.2.2.2.2.2.1 jt jlevel) (fun r h => fl_47 h)) (fun r q => ?_)
  obtain ⟨w2, M⟩ := r
  obtain ⟨⟨e0, o1, o2⟩, f⟩ := q
  have e0 : w2 = w := e0
  subst e0
  have K := core_K J jc jw jl (dep_of (fr_im f) (by decide +kernel))
  exact ⟨(JD_fr f (by decide +kernel) jD), o1, (JCell_fr f (by decide +kernel) jcell), (JTow_m (JTow_fr f (by decide +kernel) jtow) (by omega)), (JHaze_fr f (by decide +kernel) jhaze), (JMass_fr f (by decide +kernel) jmass), (JParty_fr f (by decide +kernel) jparty), (JBase_fr f (by decide +kernel) jbase), (JArc_fr f (by decide +kernel) jarc), (JSight_fr f (by decide +kernel) jsight), o2, (JNet_fr f (by decide +kernel) jnet), (JFeed_fr f (by decide +kernel) jfeed), (JTell_fr f (by decide +kernel) jtell), (JGuilt_fr f (by decide +kernel) jguilt), (JCost_fr f (by decide +kernel) jcost), (JAdj_K (dep_of f (by decide +kernel)) jadj), (JWt_K (dep_of f (by decide +kernel)) jwt), (JSus_K (dep_of f (by decide +kernel)) jsus), ⟨by omega, K.1, str_m K.2.1 (by omega), K.2.2.1, (JAng_fr f (by decide +kernel) J.2.2.2.2.1), (JMark_fr f (by decide +kernel) J.2.2.2.2.2.1), K.2.2.2.1⟩, K.2.2.2.2.1, (jw_m K.2.2.2.2.2.1 (by omega)), K.2.2.2.2.2.2⟩
theorem fl_48 {w : rf_w} {m : rf_m} {y : Nat → Int32} {r : rf_w × rf_m} (h : g_lc_48 w m y = some r) : fr (S_X11_between ++ S_X14_between) m r.2 := by
  unfold g_lc_48 at h
  obtain ⟨y0, m0, q1, h⟩ := rf_b_some h
  obtain ⟨y1, m1, q2, h⟩ := rf_b_some h
  obtain ⟨_, h⟩ := rf_g_some h
  obtain rfl := Option.some.inj h
  exact fr_two (fg_X11_between q1) (fg_X14_between q2)
theorem st_48 {c : Nat} {w : rf_w} {m : rf_m} {y : Nat → Int32} (hc : c < 512) (j : JJ c w m) : wp (g_lc_48 w m y) (fun r => JJ (c + 1) r.1 r.2) := by
  obtain ⟨jD, jt, jcell, jtow, jhaze, jmass, jparty, jbase, jarc, jsight, jlevel, jnet, jfeed, jtell, jguilt, jcost, jadj, jwt, jsus, J, jc, jw, jl⟩ := j
  refine wp_mono (wp_more (k48 (y := y) J.2.2.2.2.2.1 jlevel) (fun r h => fl_48 h)) (fun r q => ?_)
  obtain ⟨w2, M⟩ := r
  obtain ⟨e0, f⟩ := q
  have e0 : w2 = w := e0
  subst e0
  have K := core_K J jc jw jl (dep_of (fr_im f) (by decide +kernel))
  exact ⟨(JD_fr f (by decide +kernel) jD), (JT_fr f (by decide +kernel) jt), (JCell_fr f (by decide +kernel) jcell), (JTow_m (JTow_fr f (by decide +kernel) jtow) (by omega)), (JHaze_fr f (by decide +kernel) jhaze), (JMass_fr f (by decide +kernel) jmass), (JParty_fr f (by decide +kernel) jparty), (JBase_fr f (by decide +kernel) jbase), (JArc_fr f (by decide +kernel) jarc), (JSight_fr f (by decide +kernel) jsight), (JLevel_fr f (by decide +kernel) jlevel), (JNet_fr f (by decide +kernel) jnet), (JFeed_fr f (by decide +kernel) jfeed), (JTell_fr f (by decide +kernel) jtell), (JGuilt_fr f (by decide +kernel) jguilt), (JCost_fr f (by decide +kernel) jcost), (JAdj_K (dep_of f (by decide +kernel)) jadj), (JWt_K (dep_of f (by decide +kernel)) jwt), (JSus_K (dep_of f (by decide +kernel)) jsus), ⟨by omega, K.1, str_m K.2.1 (by omega), K.2.2.1, (JAng_fr f (by decide +kernel) J.2.2.2.2.1), (JMark_fr f (by decide +kernel) J.2.2.2.2.2.1), K.2.2.2.1⟩, K.2.2.2.2.1, (jw_m K.2.2.2.2.2.1 (by omega)), K.2.2.2.2.2.2⟩
theorem fl_49 {w : rf_w} {m : rf_m} {y : Nat → Int32} {r : rf_w × rf_m} (h : g_lc_49 w m y = some r) : fr (S_X11_doubt ++ S_X14_doubt) m r.2 := by
  unfold g_lc_49 at h
  obtain ⟨y0, m0, q1, h⟩ := rf_b_some h
  obtain ⟨y1, m1, q2, h⟩ := rf_b_some h
  obtain ⟨_, h⟩ := rf_g_some h
  obtain rfl := Option.some.inj h
  exact fr_two (fg_X11_doubt q1) (fg_X14_doubt q2)
theorem st_49 {c : Nat} {w : rf_w} {m : rf_m} {y : Nat → Int32} (hc : c < 512) (j : JJ c w m) : wp (g_lc_49 w m y) (fun r => JJ (c + 1) r.1 r.2) := by
  obtain ⟨jD, jt, jcell, jtow, jhaze, jmass, jparty, jbase, jarc, jsight, jlevel, jnet, jfeed, jtell, jguilt, jcost, jadj, jwt, jsus, J, jc, jw, jl⟩ := j
  refine wp_mono (wp_more (k49 (y := y) J.2.2.2.2.2.1 jlevel) (fun r h => fl_49 h)) (fun r q => ?_)
  obtain ⟨w2, M⟩ := r
  obtain ⟨e0, f⟩ := q
  have e0 : w2 = w := e0
  subst e0
  have K := core_K J jc jw jl (dep_of (fr_im f) (by decide +kernel))
  exact ⟨(JD_fr f (by decide +kernel) jD), (JT_fr f (by decide +kernel) jt), (JCell_fr f (by decide +kernel) jcell), (JTow_m (JTow_fr f (by decide +kernel) jtow) (by omega)), (JHaze_fr f (by decide +kernel) jhaze), (JMass_fr f (by decide +kernel) jmass), (JParty_fr f (by decide +kernel) jparty), (JBase_fr f (by decide +kernel) jbase), (JArc_fr f (by decide +kernel) jarc), (JSight_fr f (by decide +kernel) jsight), (JLevel_fr f (by decide +kernel) jlevel), (JNet_fr f (by decide +kernel) jnet), (JFeed_fr f (by decide +kernel) jfeed), (JTell_fr f (by decide +kernel) jtell), (JGuilt_fr f (by decide +kernel) jguilt), (JCost_fr f (by decide +kernel) jcost), (JAdj_K (dep_of f (by decide +kernel)) jadj), (JWt_K (dep_of f (by decide +kernel)) jwt), (JSus_K (dep_of f (by decide +kernel)) jsus), ⟨by omega, K.1, str_m K.2.1 (by omega), K.2.2.1, (JAng_fr f (by decide +kernel) J.2.2.2.2.1), (JMark_fr f (by decide +kernel) J.2.2.2.2.2.1), K.2.2.2.1⟩, K.2.2.2.2.1, (jw_m K.2.2.2.2.2.1 (by omega)), K.2.2.2.2.2.2⟩
theorem fl_50 {w : rf_w} {m : rf_m} {y : Nat → Int32} {r : rf_w × rf_m} (h : g_lc_50 w m y = some r) : fr (S_X11_mass ++ S_X14_mass) m r.2 := by
  unfold g_lc_50 at h
  obtain ⟨y0, m0, q1, h⟩ := rf_b_some h
  obtain ⟨y1, m1, q2, h⟩ := rf_b_some h
  obtain ⟨_, h⟩ := rf_g_some h
  obtain rfl := Option.some.inj h
  exact fr_two (fg_X11_mass q1) (fg_X14_mass q2)
theorem st_50 {c : Nat} {w : rf_w} {m : rf_m} {y : Nat → Int32} (hc : c < 512) (j : JJ c w m) : wp (g_lc_50 w m y) (fun r => JJ (c + 1) r.1 r.2) := by
  obtain ⟨jD, jt, jcell, jtow, jhaze, jmass, jparty, jbase, jarc, jsight, jlevel, jnet, jfeed, jtell, jguilt, jcost, jadj, jwt, jsus, J, jc, jw, jl⟩ := j
  refine wp_mono (wp_more (k50 (y := y) jt jmass) (fun r h => fl_50 h)) (fun r q => ?_)
  obtain ⟨w2, M⟩ := r
  obtain ⟨⟨e0, o1, o2⟩, f⟩ := q
  have e0 : w2 = w := e0
  subst e0
  have K := core_K J jc jw jl (dep_of (fr_im f) (by decide +kernel))
  exact ⟨(JD_fr f (by decide +kernel) jD), o1, (JCell_fr f (by decide +kernel) jcell), (JTow_m (JTow_fr f (by decide +kernel) jtow) (by omega)), (JHaze_fr f (by decide +kernel) jhaze), o2, (JParty_fr f (by decide +kernel) jparty), (JBase_fr f (by decide +kernel) jbase), (JArc_fr f (by decide +kernel) jarc), (JSight_fr f (by decide +kernel) jsight), (JLevel_fr f (by decide +kernel) jlevel), (JNet_fr f (by decide +kernel) jnet), (JFeed_fr f (by decide +kernel) jfeed), (JTell_fr f (by decide +kernel) jtell), (JGuilt_fr f (by decide +kernel) jguilt), (JCost_fr f (by decide +kernel) jcost), (JAdj_K (dep_of f (by decide +kernel)) jadj), (JWt_K (dep_of f (by decide +kernel)) jwt), (JSus_K (dep_of f (by decide +kernel)) jsus), ⟨by omega, K.1, str_m K.2.1 (by omega), K.2.2.1, (JAng_fr f (by decide +kernel) J.2.2.2.2.1), (JMark_fr f (by decide +kernel) J.2.2.2.2.2.1), K.2.2.2.1⟩, K.2.2.2.2.1, (jw_m K.2.2.2.2.2.1 (by omega)), K.2.2.2.2.2.2⟩
end PBStep4
