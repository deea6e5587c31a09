/-! the whole behind each call (5; by wip/tool/gen_step.py) -/
section PBStep5
theorem fl_51 {w : rf_w} {m : rf_m} {y : Nat → Int32} {r : rf_w × rf_m} (h : g_lc_51 w m y = some r) : fr (S_X11_pull ++ S_X14_pull) m r.2 := by
  unfold g_lc_51 at h
  obtain ⟨y0, m0, q1, h⟩ := rf_b_some h
  obtain ⟨y1, m1, q2, h⟩ := rf_b_some h
  obtain ⟨_, h⟩ := rf_g_some h
  obtain rfl := Option.some.inj h
  exact fr_two (fg_X11_pull q1) (fg_X14_pull q2)
theorem st_51 {c : Nat} {w : rf_w} {m : rf_m} {y : Nat → Int32} (hc : c < 512) (j : JJ c w m) : wp (g_lc_51 w m y) (fun r => JJ (c + 1) r.1 r.2) := by
  obtain ⟨jD, jt, jcell, jtow, jhaze, jmass, jparty, jbase, jarc, jsight, jlevel, jnet, jfeed, jtell, jguilt, jcost, jadj, jwt, jsus, J, jc, jw, jl⟩ := j
  refine wp_mono (wp_more (k51 (y := y) J.2.2.2.2.2.1 jmass) (fun r h => fl_51 h)) (fun r q => ?_)
  obtain ⟨w2, M⟩ := r
  obtain ⟨e0, f⟩ := q
  have e0 : w2 = w := e0
  subst e0
  have K := core_K J jc jw jl (dep_of (fr_im f) (by decide +kernel))
  exact ⟨(JD_fr f (by decide +kernel) jD), (JT_fr f (by decide +kernel) jt), (JCell_fr f (by decide +kernel) jcell), (JTow_m (JTow_fr f (by decide +kernel) jtow) (by omega)), (JHaze_fr f (by decide +kernel) jhaze), (JMass_fr f (by decide +kernel) jmass), (JParty_fr f (by decide +kernel) jparty), (JBase_fr f (by decide +kernel) jbase), (JArc_fr f (by decide +kernel) jarc), (JSight_fr f (by decide +kernel) jsight), (JLevel_fr f (by decide +kernel) jlevel), (JNet_fr f (by decide +kernel) jnet), (JFeed_fr f (by decide +kernel) jfeed), (JTell_fr f (by decide +kernel) jtell), (JGuilt_fr f (by decide +kernel) jguilt), (JCost_fr f (by decide +kernel) jcost), (JAdj_K (dep_of f (by decide +kernel)) jadj), (JWt_K (dep_of f (by decide +kernel)) jwt), (JSus_K (dep_of f (by decide +kernel)) jsus), ⟨by omega, K.1, str_m K.2.1 (by omega), K.2.2.1, (JAng_fr f (by decide +kernel) J.2.2.2.2.1), (JMark_fr f (by decide +kernel) J.2.2.2.2.2.1), K.2.2.2.1⟩, K.2.2.2.2.1, (jw_m K.2.2.2.2.2.1 (by omega)), K.2.2.2.2.2.2⟩
theorem fl_52 {w : rf_w} {m : rf_m} {y : Nat → Int32} {r : rf_w × rf_m} (h : g_lc_52 w m y = some r) : fr (S_X11_arc ++ S_X14_arc) m r.2 := by
  unfold g_lc_52 at h
  obtain ⟨y0, m0, q1, h⟩ := rf_b_some h
  obtain ⟨y1, m1, q2, h⟩ := rf_b_some h
  obtain ⟨_, h⟩ := rf_g_some h
  obtain rfl := Option.some.inj h
  exact fr_two (fg_X11_arc q1) (fg_X14_arc q2)
theorem st_52 {c : Nat} {w : rf_w} {m : rf_m} {y : Nat → Int32} (hc : c < 512) (j : JJ c w m) : wp (g_lc_52 w m y) (fun r => JJ (c + 1) r.1 r.2) := by
  obtain ⟨jD, jt, jcell, jtow, jhaze, jmass, jparty, jbase, jarc, jsight, jlevel, jnet, jfeed, jtell, jguilt, jcost, jadj, jwt, jsus, J, jc, jw, jl⟩ := j
  refine wp_mono (wp_more (k52 (y := y) jt jarc) (fun r h => fl_52 h)) (fun r q => ?_)
  obtain ⟨w2, M⟩ := r
  obtain ⟨⟨e0, o1, o2⟩, f⟩ := q
  have e0 : w2 = w := e0
  subst e0
  have K := core_K J jc jw jl (dep_of (fr_im f) (by decide +kernel))
  exact ⟨(JD_fr f (by decide +kernel) jD), o1, (JCell_fr f (by decide +kernel) jcell), (JTow_m (JTow_fr f (by decide +kernel) jtow) (by omega)), (JHaze_fr f (by decide +kernel) jhaze), (JMass_fr f (by decide +kernel) jmass), (JParty_fr f (by decide +kernel) jparty), (JBase_fr f (by decide +kernel) jbase), o2, (JSight_fr f (by decide +kernel) jsight), (JLevel_fr f (by decide +kernel) jlevel), (JNet_fr f (by decide +kernel) jnet), (JFeed_fr f (by decide +kernel) jfeed), (JTell_fr f (by decide +kernel) jtell), (JGuilt_fr f (by decide +kernel) jguilt), (JCost_fr f (by decide +kernel) jcost), (JAdj_K (dep_of f (by decide +kernel)) jadj), (JWt_K (dep_of f (by decide +kernel)) jwt), (JSus_K (dep_of f (by decide +kernel)) jsus), ⟨by omega, K.1, str_m K.2.1 (by omega), K.2.2.1, (JAng_fr f (by decide +kernel) J.2.2.2.2.1), (JMark_fr f (by decide +kernel) J.2.2.2.2.2.1), K.2.2.2.1⟩, K.2.2.2.2.1, (jw_m K.2.2.2.2.2.1 (by omega)), K.2.2.2.2.2.2⟩
theorem fl_53 {w : rf_w} {m : rf_m} {y : Nat → Int32} {r : rf_w × rf_m} (h : g_lc_53 w m y = some r) : fr (S_X11_figure ++ S_X14_figure) m r.2 := by
  unfold g_lc_53 at h
  obtain ⟨y0, m0, q1, h⟩ := rf_b_some h
  obtain ⟨y1, m1, q2, h⟩ := rf_b_some h
  obtain ⟨_, h⟩ := rf_g_some h
  obtain rfl := Option.some.inj h
  exact fr_two (fg_X11_figure q1) (fg_X14_figure q2)
theorem st_53 {c : Nat} {w : rf_w} {m : rf_m} {y : Nat → Int32} (hc : c < 512) (j : JJ c w m) : wp (g_lc_53 w m y) (fun r => JJ (c + 1) r.1 r.2) := by
  obtain ⟨jD, jt, jcell, jtow, jhaze, jmass, jparty, jbase, jarc, jsight, jlevel, jnet, jfeed, jtell, jguilt, jcost, jadj, jwt, jsus, J, jc, jw, jl⟩ := j
  refine wp_mono (wp_more (k53 (y := y) jarc) (fun r h => fl_53 h)) (fun r q => ?_)
  obtain ⟨w2, M⟩ := r
  obtain ⟨e0, f⟩ := q
  have e0 : w2 = w := e0
  subst e0
  have K := core_K J jc jw jl (dep_of (fr_im f) (by decide +kernel))
  exact ⟨(JD_fr f (by decide +kernel) jD), (JT_fr f (by decide +kernel) jt), (JCell_fr f (by decide +kernel) jcell), (JTow_m (JTow_fr f (by decide +kernel) jtow) (by omega)), (JHaze_fr f (by decide +kernel) jhaze), (JMass_fr f (by decide +kernel) jmass), (JParty_fr f (by decide +kernel) jparty), (JBase_fr f (by decide +kernel) jbase), (JArc_fr f (by decide +kernel) jarc), (JSight_fr f (by decide +kernel) jsight), (JLevel_fr f (by decide +kernel) jlevel), (JNet_fr f (by decide +kernel) jnet), (JFeed_fr f (by decide +kernel) jfeed), (JTell_fr f (by decide +kernel) jtell), (JGuilt_fr f (by decide +kernel) jguilt), (JCost_fr f (by decide +kernel) jcost), (JAdj_K (dep_of f (by decide +kernel)) jadj), (JWt_K (dep_of f (by decide +kernel)) jwt), (JSus_K (dep_of f (by decide +kernel)) jsus), ⟨by omega, K.1, str_m K.2.1 (by omega), K.2.2.1, (JAng_fr f (by decide +kernel) J.2.2.2.2.1), (JMark_fr f (by decide +kernel) J.2.2.2.2.2.1), K.2.2.2.1⟩, K.2.2.2.2.1, (jw_m K.2.2.2.2.2.1 (by omega)), K.2.2.2.2.2.2⟩
theorem fl_55 {w : rf_w} {m : rf_m} {y : Nat → Int32} {r : rf_w × rf_m} (h : g_lc_55 w m y = some r) : fr (S_X11_count ++ S_X14_count) m r.2 := by
  unfold g_lc_55 at h
  obtain ⟨y0, m0, q1, h⟩ := rf_b_some h
  obtain ⟨y1, m1, q2, h⟩ := rf_b_some h
  obtain ⟨_, h⟩ := rf_g_some h
  obtain rfl := Option.some.inj h
  exact fr_two (fg_X11_count q1) (fg_X14_count q2)
theorem st_55 {c : Nat} {w : rf_w} {m : rf_m} {y : Nat → Int32} (hc : c < 512) (j : JJ c w m) : wp (g_lc_55 w m y) (fun r => JJ (c + 1) r.1 r.2) := by
  have jnum := num_of j
  obtain ⟨jD, jt, jcell, jtow, jhaze, jmass, jparty, jbase, jarc, jsight, jlevel, jnet, jfeed, jtell, jguilt, jcost, jadj, jwt, jsus, J, jc, jw, jl⟩ := j
  refine wp_mono (wp_more (k55 (y := y) J jc jnum) (fun r h => fl_55 h)) (fun r q => ?_)
  obtain ⟨w2, M⟩ := r
  obtain ⟨⟨e0, o1, o2⟩, f⟩ := q
  have e0 : w2 = w := e0
  subst e0
  exact ⟨(JD_fr f (by decide +kernel) jD), (JT_fr f (by decide +kernel) jt), (JCell_fr f (by decide +kernel) jcell), (JTow_m (JTow_fr f (by decide +kernel) jtow) (by omega)), (JHaze_fr f (by decide +kernel) jhaze), (JMass_fr f (by decide +kernel) jmass), (JParty_fr f (by decide +kernel) jparty), (JBase_fr f (by decide +kernel) jbase), (JArc_fr f (by decide +kernel) jarc), (JSight_fr f (by decide +kernel) jsight), (JLevel_fr f (by decide +kernel) jlevel), (JNet_fr f (by decide +kernel) jnet), (JFeed_fr f (by decide +kernel) jfeed), (JTell_fr f (by decide +kernel) jtell), (JGuilt_fr f (by decide +kernel) jguilt), (JCost_fr f (by decide +kernel) jcost), (JAdj_K (dep_of f (by decide +kernel)) jadj), (JWt_K (dep_of f (by decide +kernel)) jwt), (JSus_K (dep_of f (by decide +kernel)) jsus), (cnt_m o1 (by omega) (by omega)), o2, (jw_m (JW_K (dep_of f (by decide +kernel)) jw) (by omega)), (JLg_K J.2.2.1 (dep_of f (by decide +kernel)) jl)⟩
theorem fl_56 {w : rf_w} {m : rf_m} {y : Nat → Int32} {r : rf_w × rf_m} (h : g_lc_56 w m y = some r) : fr (S_X11_trouble ++ S_X14_trouble) m r.2 := by
  unfold g_lc_56 at h
  obtain ⟨y0, m0, q1, h⟩ := rf_b_some h
  obtain ⟨y1, m1, q2, h⟩ := rf_b_some h
  obtain ⟨_, h⟩ := rf_g_some h
  obtain rfl := Option.some.inj h
  exact fr_two (fg_X11_trouble q1) (fg_X14_trouble q2)
theorem st_56 {c : Nat} {w : rf_w} {m : rf_m} {y : Nat → Int32} (hc : c < 512) (j : JJ c w m) : wp (g_lc_56 w m y) (fun r => JJ (c + 1) r.1 r.2) := by
  obtain ⟨jD, jt, jcell, jtow, jhaze, jmass, jparty, jbase, jarc, jsight, jlevel, jnet, jfeed, jtell, jguilt, jcost, jadj, jwt, jsus, J, jc, jw, jl⟩ := j
  refine wp_mono (wp_more (k56 (y := y) jt) (fun r h => fl_56 h)) (fun r q => ?_)
  obtain ⟨w2, M⟩ := r
  obtain ⟨⟨e0, o1⟩, f⟩ := q
  have e0 : w2 = w := e0
  subst e0
  have K := core_K J jc jw jl (dep_of (fr_im f) (by decide +kernel))
  exact ⟨(JD_fr f (by decide +kernel) jD), o1, (JCell_fr f (by decide +kernel) jcell), (JTow_m (JTow_fr f (by decide +kernel) jtow) (by omega)), (JHaze_fr f (by decide +kernel) jhaze), (JMass_fr f (by decide +kernel) jmass), (JParty_fr f (by decide +kernel) jparty), (JBase_fr f (by decide +kernel) jbase), (JArc_fr f (by decide +kernel) jarc), (JSight_fr f (by decide +kernel) jsight), (JLevel_fr f (by decide +kernel) jlevel), (JNet_fr f (by decide +kernel) jnet), (JFeed_fr f (by decide +kernel) jfeed), (JTell_fr f (by decide +kernel) jtell), (JGuilt_fr f (by decide +kernel) jguilt), (JCost_fr f (by decide +kernel) jcost), (JAdj_K (dep_of f (by decide +kernel)) jadj), (JWt_K (dep_of f (by decide +kernel)) jwt), (JSus_K (dep_of f (by decide +kernel)) jsus), ⟨by omega, K.1, str_m K.2.1 (by omega), K.2.2.1, (JAng_fr f (by decide +kernel) J.2.2.2.2.1), (JMark_fr f (by decide +kernel) J.2.2.2.2.2.1), K.2.2.2.1⟩, K.2.2.2.2.1, (jw_m K.2.2.2.2.2.1 (by omega)), K.2.2.2.2.2.2⟩
end PBStep5
