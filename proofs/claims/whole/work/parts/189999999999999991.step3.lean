/-! the whole behind each call (3; by wip/tool/gen_step.py) -/
section PBStep3
theorem fl_33 {w : rf_w} {m : rf_m} {y : Nat → Int32} {r : rf_w × rf_m} (h : g_lc_33 w m y = some r) : fr (S_X11_sine ++ S_X14_sine) m r.2 := by
  unfold g_lc_33 at h
  obtain ⟨y0, m0, q1, h⟩ := rf_b_some h
  obtain ⟨y1, m1, q2, h⟩ := rf_b_some h
  obtain ⟨_, h⟩ := rf_g_some h
  obtain rfl := Option.some.inj h
  exact fr_two (fg_X11_sine q1) (fg_X14_sine q2)
theorem st_33 {c : Nat} {w : rf_w} {m : rf_m} {y : Nat → Int32} (hc : c < 512) (j : JJ c w m) : wp (g_lc_33 w m y) (fun r => JJ (c + 1) r.1 r.2) := by
  obtain ⟨jD, jt, jcell, jtow, jhaze, jmass, jparty, jbase, jarc, jsight, jlevel, jnet, jfeed, jtell, jguilt, jcost, jadj, jwt, jsus, J, jc, jw, jl⟩ := j
  refine wp_mono (wp_more (k33 (y := y)) (fun r h => fl_33 h)) (fun r q => ?_)
  obtain ⟨w2, M⟩ := r
  obtain ⟨e0, f⟩ := q
  have e0 : w2 = w := e0
  subst e0
  have K := core_K J jc jw jl (dep_of (fr_im f) (by decide +kernel))
  exact ⟨(JD_fr f (by decide +kernel) jD), (JT_fr f (by decide +kernel) jt), (JCell_fr f (by decide +kernel) jcell), (JTow_m (JTow_fr f (by decide +kernel) jtow) (by omega)), (JHaze_fr f (by decide +kernel) jhaze), (JMass_fr f (by decide +kernel) jmass), (JParty_fr f (by decide +kernel) jparty), (JBase_fr f (by decide +kernel) jbase), (JArc_fr f (by decide +kernel) jarc), (JSight_fr f (by decide +kernel) jsight), (JLevel_fr f (by decide +kernel) jlevel), (JNet_fr f (by decide +kernel) jnet), (JFeed_fr f (by decide +kernel) jfeed), (JTell_fr f (by decide +kernel) jtell), (JGuilt_fr f (by decide +kernel) jguilt), (JCost_fr f (by decide +kernel) jcost), (JAdj_K (dep_of f (by decide +kernel)) jadj), (JWt_K (dep_of f (by decide +kernel)) jwt), (JSus_K (dep_of f (by decide +kernel)) jsus), ⟨by omega, K.1, str_m K.2.1 (by omega), K.2.2.1, (JAng_fr f (by decide +kernel) J.2.2.2.2.1), (JMark_fr f (by decide +kernel) J.2.2.2.2.2.1), K.2.2.2.1⟩, K.2.2.2.2.1, (jw_m K.2.2.2.2.2.1 (by omega)), K.2.2.2.2.2.2⟩
theorem fl_35 {w : rf_w} {m : rf_m} {y : Nat → Int32} {r : rf_w × rf_m} (h : g_lc_35 w m y = some r) : fr (S_X11_link ++ S_X14_link) m r.2 := by
  unfold g_lc_35 at h
  obtain ⟨y0, m0, q1, h⟩ := rf_b_some h
  obtain ⟨y1, m1, q2, h⟩ := rf_b_some h
  obtain ⟨_, h⟩ := rf_g_some h
  obtain rfl := Option.some.inj h
  exact fr_two (fg_X11_link q1) (fg_X14_link q2)
theorem st_35 {c : Nat} {w : rf_w} {m : rf_m} {y : Nat → Int32} (hc : c < 512) (j : JJ c w m) : wp (g_lc_35 w m y) (fun r => JJ (c + 1) r.1 r.2) := by
  obtain ⟨jD, jt, jcell, jtow, jhaze, jmass, jparty, jbase, jarc, jsight, jlevel, jnet, jfeed, jtell, jguilt, jcost, jadj, jwt, jsus, J, jc, jw, jl⟩ := j
  refine wp_mono (wp_more (k35 (y := y) jtell) (fun r h => fl_35 h)) (fun r q => ?_)
  obtain ⟨w2, M⟩ := r
  obtain ⟨e0, f⟩ := q
  have e0 : w2 = w := e0
  subst e0
  have K := core_K J jc jw jl (dep_of (fr_im f) (by decide +kernel))
  exact ⟨(JD_fr f (by decide +kernel) jD), (JT_fr f (by decide +kernel) jt), (JCell_fr f (by decide +kernel) jcell), (JTow_m (JTow_fr f (by decide +kernel) jtow) (by omega)), (JHaze_fr f (by decide +kernel) jhaze), (JMass_fr f (by decide +kernel) jmass), (JParty_fr f (by decide +kernel) jparty), (JBase_fr f (by decide +kernel) jbase), (JArc_fr f (by decide +kernel) jarc), (JSight_fr f (by decide +kernel) jsight), (JLevel_fr f (by decide +kernel) jlevel), (JNet_fr f (by decide +kernel) jnet), (JFeed_fr f (by decide +kernel) jfeed), (JTell_fr f (by decide +kernel) jtell), (JGuilt_fr f (by decide +kernel) jguilt), (JCost_fr f (by decide +kernel) jcost), (JAdj_K (dep_of f (by decide +kernel)) jadj), (JWt_K (dep_of f (by decide +kernel)) jwt), (JSus_K (dep_of f (by decide +kernel)) jsus), ⟨by omega, K.1, str_m K.2.1 (by omega), K.2.2.1, (JAng_fr f (by decide +kernel) J.2.2.2.2.1), (JMark_fr f (by decide +kernel) J.2.2.2.2.2.1), K.2.2.2.1⟩, K.2.2.2.2.1, (jw_m K.2.2.2.2.2.1 (by omega)), K.2.2.2.2.2.2⟩
theorem fl_36 {w : rf_w} {m : rf_m} {y : Nat → Int32} {r : rf_w × rf_m} (h : g_lc_36 w m y = some r) : fr (S_X11_side ++ S_X14_side) m r.2 := by
  unfold g_lc_36 at h
  obtain ⟨y0, m0, q1, h⟩ := rf_b_some h
  obtain ⟨y1, m1, q2, h⟩ := rf_b_some h
  obtain ⟨_, h⟩ := rf_g_some h
  obtain rfl := Option.some.inj h
  exact fr_two (fg_X11_side q1) (fg_X14_side q2)
theorem st_36 {c : Nat} {w : rf_w} {m : rf_m} {y : Nat → Int32} (hc : c < 512) (j : JJ c w m) : wp (g_lc_36 w m y) (fun r => JJ (c + 1) r.1 r.2) := by
  obtain ⟨jD, jt, jcell, jtow, jhaze, jmass, jparty, jbase, jarc, jsight, jlevel, jnet, jfeed, jtell, jguilt, jcost, jadj, jwt, jsus, J, jc, jw, jl⟩ := j
  refine wp_mono (wp_more (k36 (y := y) jtell) (fun r h => fl_36 h)) (fun r q => ?_)
  obtain ⟨w2, M⟩ := r
  obtain ⟨e0, f⟩ := q
  have e0 : w2 = w := e0
  subst e0
  have K := core_K J jc jw jl (dep_of (fr_im f) (by decide +kernel))
  exact ⟨(JD_fr f (by decide +kernel) jD), (JT_fr f (by decide +kernel) jt), (JCell_fr f (by decide +kernel) jcell), (JTow_m (JTow_fr f (by decide +kernel) jtow) (by omega)), (JHaze_fr f (by decide +kernel) jhaze), (JMass_fr f (by decide +kernel) jmass), (JParty_fr f (by decide +kernel) jparty), (JBase_fr f (by decide +kernel) jbase), (JArc_fr f (by decide +kernel) jarc), (JSight_fr f (by decide +kernel) jsight), (JLevel_fr f (by decide +kernel) jlevel), (JNet_fr f (by decide +kernel) jnet), (JFeed_fr f (by decide +kernel) jfeed), (JTell_fr f (by decide +kernel) jtell), (JGuilt_fr f (by decide +kernel) jguilt), (JCost_fr f (by decide +kernel) jcost), (JAdj_K (dep_of f (by decide +kernel)) jadj), (JWt_K (dep_of f (by decide +kernel)) jwt), (JSus_K (dep_of f (by decide +kernel)) jsus), ⟨by omega, K.1, str_m K.2.1 (by omega), K.2.2.1, (JAng_fr f (by decide +kernel) J.2.2.2.2.1), (JMark_fr f (by decide +kernel) J.2.2.2.2.2.1), K.2.2.2.1⟩, K.2.2.2.2.1, (jw_m K.2.2.2.2.2.1 (by omega)), K.2.2.2.2.2.2⟩
theorem fl_38 {w : rf_w} {m : rf_m} {y : Nat → Int32} {r : rf_w × rf_m} (h : g_lc_38 w m y = some r) : fr (S_X11_check ++ S_X14_check) m r.2 := by
  unfold g_lc_38 at h
  obtain ⟨y0, m0, q1, h⟩ := rf_b_some h
  obtain ⟨y1, m1, q2, h⟩ := rf_b_some h
  obtain ⟨_, h⟩ := rf_g_some h
  obtain rfl := Option.some.inj h
  exact fr_two (fg_X11_check q1) (fg_X14_check q2)
theorem st_38 {c : Nat} {w : rf_w} {m : rf_m} {y : Nat → Int32} (hc : c < 512) (j : JJ c w m) : wp (g_lc_38 w m y) (fun r => JJ (c + 1) r.1 r.2) := by
  obtain ⟨jD, jt, jcell, jtow, jhaze, jmass, jparty, jbase, jarc, jsight, jlevel, jnet, jfeed, jtell, jguilt, jcost, jadj, jwt, jsus, J, jc, jw, jl⟩ := j
  refine wp_mono (wp_more (k38 (y := y) J jc jnet jbase jD jt) (fun r h => fl_38 h)) (fun r q => ?_)
  obtain ⟨w2, M⟩ := r
  obtain ⟨⟨e0, o1, o2, o3⟩, f⟩ := q
  have e0 : w2 = w := e0
  subst e0
  exact ⟨(JD_fr f (by decide +kernel) jD), o3, (JCell_fr f (by decide +kernel) jcell), (JTow_m (JTow_fr f (by decide +kernel) jtow) (by omega)), (JHaze_fr f (by decide +kernel) jhaze), (JMass_fr f (by decide +kernel) jmass), (JParty_fr f (by decide +kernel) jparty), (JBase_fr f (by decide +kernel) jbase), (JArc_fr f (by decide +kernel) jarc), (JSight_fr f (by decide +kernel) jsight), (JLevel_fr f (by decide +kernel) jlevel), (JNet_fr f (by decide +kernel) jnet), (JFeed_fr f (by decide +kernel) jfeed), (JTell_fr f (by decide +kernel) jtell), (JGuilt_fr f (by decide +kernel) jguilt), (JCost_fr f (by decide +kernel) jcost), (JAdj_K (dep_of f (by decide +kernel)) jadj), (JWt_K (dep_of f (by decide +kernel)) jwt), (JSus_K (dep_of f (by decide +kernel)) jsus), (cnt_m o1 (by omega) (by omega)), o2, (jw_m (JW_K (dep_of f (by decide +kernel)) jw) (by omega)), (JLg_K J.2.2.1 (dep_of f (by decide +kernel)) jl)⟩
theorem fl_39 {w : rf_w} {m : rf_m} {y : Nat → Int32} {r : rf_w × rf_m} (h : g_lc_39 w m y = some r) : fr (S_X11_suspect ++ S_X14_suspect) m r.2 := by
  unfold g_lc_39 at h
  obtain ⟨y0, m0, q1, h⟩ := rf_b_some h
  obtain ⟨y1, m1, q2, h⟩ := rf_b_some h
  obtain ⟨_, h⟩ := rf_g_some h
  obtain rfl := Option.some.inj h
  exact fr_two (fg_X11_suspect q1) (fg_X14_suspect q2)
theorem st_39 {c : Nat} {w : rf_w} {m : rf_m} {y : Nat → Int32} (hc : c < 512) (j : JJ c w m) : wp (g_lc_39 w m y) (fun r => JJ (c + 1) r.1 r.2) := by
  obtain ⟨jD, jt, jcell, jtow, jhaze, jmass, jparty, jbase, jarc, jsight, jlevel, jnet, jfeed, jtell, jguilt, jcost, jadj, jwt, jsus, J, jc, jw, jl⟩ := j
  refine wp_mono (wp_more (k39 (y := y) J jc jt jsus) (fun r h => fl_39 h)) (fun r q => ?_)
  obtain ⟨w2, M⟩ := r
  obtain ⟨⟨e0, o1, o2, o3, o4⟩, f⟩ := q
  have e0 : w2 = w := e0
  subst e0
  exact ⟨(JD_fr f (by decide +kernel) jD), o3, (JCell_fr f (by decide +kernel) jcell), (JTow_m (JTow_fr f (by decide +kernel) jtow) (by omega)), (JHaze_fr f (by decide +kernel) jhaze), (JMass_fr f (by decide +kernel) jmass), (JParty_fr f (by decide +kernel) jparty), (JBase_fr f (by decide +kernel) jbase), (JArc_fr f (by decide +kernel) jarc), (JSight_fr f (by decide +kernel) jsight), (JLevel_fr f (by decide +kernel) jlevel), (JNet_fr f (by decide +kernel) jnet), (JFeed_fr f (by decide +kernel) jfeed), (JTell_fr f (by decide +kernel) jtell), (JGuilt_fr f (by decide +kernel) jguilt), (JCost_fr f (by decide +kernel) jcost), (JAdj_K (dep_of f (by decide +kernel)) jadj), (JWt_K (dep_of f (by decide +kernel)) jwt), o4, (cnt_m o1 (by omega) (by omega)), o2, (jw_m (JW_K (dep_of f (by decide +kernel)) jw) (by omega)), (JLg_K J.2.2.1 (dep_of f (by decide +kernel)) jl)⟩
theorem fl_40 {w : rf_w} {m : rf_m} {y : Nat → Int32} {r : rf_w × rf_m} (h : g_lc_40 w m y = some r) : fr (S_X11_clear ++ S_X14_clear) m r.2 := by
  unfold g_lc_40 at h
  obtain ⟨y0, m0, q1, h⟩ := rf_b_some h
  obtain ⟨y1, m1, q2, h⟩ := rf_b_some h
  obtain ⟨_, h⟩ := rf_g_some h
  obtain rfl := Option.some.inj h
  exact fr_two (fg_X11_clear q1) (fg_X14_clear q2)
theorem st_40 {c : Nat} {w : rf_w} {m : rf_m} {y : Nat → Int32} (hc : c < 512) (j : JJ c w m) : wp (g_lc_40 w m y) (fun r => JJ (c + 1) r.1 r.2) := by
  obtain ⟨jD, jt, jcell, jtow, jhaze, jmass, jparty, jbase, jarc, jsight, jlevel, jnet, jfeed, jtell, jguilt, jcost, jadj, jwt, jsus, J, jc, jw, jl⟩ := j
  refine wp_mono (wp_more (k40 (y := y) jsus) (fun r h => fl_40 h)) (fun r q => ?_)
  obtain ⟨w2, M⟩ := r
  obtain ⟨⟨e0, o1⟩, f⟩ := q
  have e0 : w2 = w := e0
  subst e0
  have K := core_K J jc jw jl (dep_of (fr_im f) (by decide +kernel))
  exact ⟨(JD_fr f (by decide +kernel) jD), (JT_fr f (by decide +kernel) jt), (JCell_fr f (by decide +kernel) jcell), (JTow_m (JTow_fr f (by decide +kernel) jtow) (by omega)), (JHaze_fr f (by decide +kernel) jhaze), (JMass_fr f (by decide +kernel) jmass), (JParty_fr f (by decide +kernel) jparty), (JBase_fr f (by decide +kernel) jbase), (JArc_fr f (by decide +kernel) jarc), (JSight_fr f (by decide +kernel) jsight), (JLevel_fr f (by decide +kernel) jlevel), (JNet_fr f (by decide +kernel) jnet), (JFeed_fr f (by decide +kernel) jfeed), (JTell_fr f (by decide +kernel) jtell), (JGuilt_fr f (by decide +kernel) jguilt), (JCost_fr f (by decide +kernel) jcost), (JAdj_K (dep_of f (by decide +kernel)) jadj), (JWt_K (dep_of f (by decide +kernel)) jwt), o1, ⟨by omega, K.1, str_m K.2.1 (by omega), K.2.2.1, (JAng_fr f (by decide +kernel) J.2.2.2.2.1), (JMark_fr f (by decide +kernel) J.2.2.2.2.2.1), K.2.2.2.1⟩, K.2.2.2.2.1, (jw_m K.2.2.2.2.2.1 (by omega)), K.2.2.2.2.2.2⟩
theorem fl_41 {w : rf_w} {m : rf_m} {y : Nat → Int32} {r : rf_w × rf_m} (h : g_lc_41 w m y = some r) : fr (S_X11_blunder ++ S_X14_blunder) m r.2 := by
  unfold g_lc_41 at h
  obtain ⟨y0, m0, q1, h⟩ := rf_b_some h
  obtain ⟨y1, m1, q2, h⟩ := rf_b_some h
  obtain ⟨_, h⟩ := rf_g_some h
  obtain rfl := Option.some.inj h
  exact fr_two (fg_X11_blunder q1) (fg_X14_blunder q2)
theorem st_41 {c : Nat} {w : rf_w} {m : rf_m} {y : Nat → Int32} (hc : c < 512) (j : JJ c w m) : wp (g_lc_41 w m y) (fun r => JJ (c + 1) r.1 r.2) := by
  obtain ⟨jD, jt, jcell, jtow, jhaze, jmass, jparty, jbase, jarc, jsight, jlevel, jnet, jfeed, jtell, jguilt, jcost, jadj, jwt, jsus, J, jc, jw, jl⟩ := j
  refine wp_mono (wp_more (k41 (y := y) J jc jD jnet jsus jguilt) (fun r h => fl_41 h)) (fun r q => ?_)
  obtain ⟨w2, M⟩ := r
  obtain ⟨⟨e0, o1, o2, o3, o4, o5⟩, f⟩ := q
  have e0 : w2 = w := e0
  subst e0
  exact ⟨(JD_fr f (by decide +kernel) jD), (JT_fr f (by decide +kernel) jt), (JCell_fr f (by decide +kernel) jcell), (JTow_m (JTow_fr f (by decide +kernel) jtow) (by omega)), (JHaze_fr f (by decide +kernel) jhaze), (JMass_fr f (by decide +kernel) jmass), (JParty_fr f (by decide +kernel) jparty), (JBase_fr f (by decide +kernel) jbase), (JArc_fr f (by decide +kernel) jarc), (JSight_fr f (by decide +kernel) jsight), (JLevel_fr f (by decide +kernel) jlevel), o3, (JFeed_fr f (by decide +kernel) jfeed), (JTell_fr f (by decide +kernel) jtell), o5, (JCost_fr f (by decide +kernel) jcost), (JAdj_K (dep_of f (by decide +kernel)) jadj), (JWt_K (dep_of f (by decide +kernel)) jwt), o4, (cnt_m o1 (by omega) (by omega)), o2, (jw_m (JW_K (dep_of f (by decide +kernel)) jw) (by omega)), (JLg_K J.2.2.1 (dep_of f (by decide +kernel)) jl)⟩
theorem fl_42 {w : rf_w} {m : rf_m} {y : Nat → Int32} {r : rf_w × rf_m} (h : g_lc_42 w m y = some r) : fr (S_X11_guilty ++ S_X14_guilty) m r.2 := by
  unfold g_lc_42 at h
  obtain ⟨y0, m0, q1, h⟩ := rf_b_some h
  obtain ⟨y1, m1, q2, h⟩ := rf_b_some h
  obtain ⟨_, h⟩ := rf_g_some h
  obtain rfl := Option.some.inj h
  exact fr_two (fg_X11_guilty q1) (fg_X14_guilty q2)
theorem st_42 {c : Nat} {w : rf_w} {m : rf_m} {y : Nat → Int32} (hc : c < 512) (j : JJ c w m) : wp (g_lc_42 w m y) (fun r => JJ (c + 1) r.1 r.2) := by
  obtain ⟨jD, jt, jcell, jtow, jhaze, jmass, jparty, jbase, jarc, jsight, jlevel, jnet, jfeed, jtell, jguilt, jcost, jadj, jwt, jsus, J, jc, jw, jl⟩ := j
  refine wp_mono (wp_more (k42 (y := y) jguilt) (fun r h => fl_42 h)) (fun r q => ?_)
  obtain ⟨w2, M⟩ := r
  obtain ⟨e0, f⟩ := q
  have e0 : w2 = w := e0
  subst e0
  have K := core_K J jc jw jl (dep_of (fr_im f) (by decide +kernel))
  exact ⟨(JD_fr f (by decide +kernel) jD), (JT_fr f (by decide +kernel) jt), (JCell_fr f (by decide +kernel) jcell), (JTow_m (JTow_fr f (by decide +kernel) jtow) (by omega)), (JHaze_fr f (by decide +kernel) jhaze), (JMass_fr f (by decide +kernel) jmass), (JParty_fr f (by decide +kernel) jparty), (JBase_fr f (by decide +kernel) jbase), (JArc_fr f (by decide +kernel) jarc), (JSight_fr f (by decide +kernel) jsight), (JLevel_fr f (by decide +kernel) jlevel), (JNet_fr f (by decide +kernel) jnet), (JFeed_fr f (by decide +kernel) jfeed), (JTell_fr f (by decide +kernel) jtell), (JGuilt_fr f (by decide +kernel) jguilt), (JCost_fr f (by decide +kernel) jcost), (JAdj_K (dep_of f (by decide +kernel)) jadj), (JWt_K (dep_of f (by decide +kernel)) jwt), (JSus_K (dep_of f (by decide +kernel)) jsus), ⟨by omega, K.1, str_m K.2.1 (by omega), K.2.2.1, (JAng_fr f (by decide +kernel) J.2.2.2.2.1), (JMark_fr f (by decide +kernel) J.2.2.2.2.2.1), K.2.2.2.1⟩, K.2.2.2.2.1, (jw_m K.2.2.2.2.2.1 (by omega)), K.2.2.2.2.2.2⟩
end PBStep3
