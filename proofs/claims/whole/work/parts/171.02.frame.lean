section FRL
def S_X11_doubt : fr_S := []
theorem fg_X11_doubt {w : rf_w} {m : rf_m} {a1 : Int32} {a2 : Int32} {r : (Int32 × rf_m)} (h : g_X11_doubt w m a1 a2 = some r) : fr S_X11_doubt m r.2 := by
  unfold g_X11_doubt at h
  obtain ⟨y0, m0, q1, h⟩ := rf_b_some h
  have e1 : fr S_X11_doubt m m0 := fr_trans ((fr_refl _ m)) (fr_mono (fg_X5_isPair q1) (by decide))
  rcases rf_ite_some h with ⟨_, h⟩ | ⟨_, h⟩
  · obtain rfl := Option.some.inj h
    exact e1
  · obtain ⟨y1, m1, q2, h⟩ := rf_b_some h
    have e2 : fr S_X11_doubt m m1 := fr_trans e1 (fr_mono (fg_X10_doubtOf q2) (by decide))
    obtain rfl := Option.some.inj h
    exact e2
def S_X11_mass : fr_S := [(0, 0, some 11), (1, 1, some 5), (11, 11, none), (12, 12, none)]
theorem fg_X11_mass {w : rf_w} {m : rf_m} {a1 : Int32} {a2 : Int32} {r : (Int32 × rf_m)} (h : g_X11_mass w m a1 a2 = some r) : fr S_X11_mass m r.2 := by
  unfold g_X11_mass at h
  obtain ⟨y0, m0, q1, h⟩ := rf_b_some h
  have e1 : fr S_X11_mass m m0 := fr_trans ((fr_refl _ m)) (fr_mono (fg_X11_isCell q1) (by decide))
  rcases rf_ite_some h with ⟨_, h⟩ | ⟨_, h⟩
  · obtain ⟨y6, m6, q2, h⟩ := rf_b_some h
    have e2 : fr S_X11_mass m m6 := fr_trans e1 (fr_mono (fg_X11_refused q2) (by decide))
    obtain rfl := Option.some.inj h
    exact e2
  · obtain ⟨y1, m1, q3, h⟩ := rf_b_some h
    have e3 : fr S_X11_mass m m1 := fr_trans e1 (fr_mono (fg_X11_isWithin q3) (by decide))
    rcases rf_ite_some h with ⟨_, h⟩ | ⟨_, h⟩
    · obtain ⟨y5, m5, q4, h⟩ := rf_b_some h
      have e4 : fr S_X11_mass m m5 := fr_trans e3 (fr_mono (fg_X11_refused q4) (by decide))
      obtain rfl := Option.some.inj h
      exact e4
    · rcases rf_ite_some h with ⟨_, h⟩ | ⟨_, h⟩
      · obtain ⟨y2, m2, q5, h⟩ := rf_b_some h
        have e5 : fr S_X11_mass m m2 := fr_trans e3 (fr_mono (fg_X5_addMass q5) (by decide))
        obtain ⟨y3, m3, q6, h⟩ := rf_b_some h
        have e6 : fr S_X11_mass m m3 := fr_trans e5 (fr_mono (fg_X11_answered q6) (by decide))
        obtain rfl := Option.some.inj h
        exact e6
      · obtain ⟨y4, m4, q7, h⟩ := rf_b_some h
        have e7 : fr S_X11_mass m m4 := fr_trans e3 (fr_mono (fg_X11_refused q7) (by decide))
        obtain rfl := Option.some.inj h
        exact e7
def S_X11_pull : fr_S := []
theorem fg_X11_pull {w : rf_w} {m : rf_m} {a1 : Int32} {a2 : Int32} {r : (Int32 × rf_m)} (h : g_X11_pull w m a1 a2 = some r) : fr S_X11_pull m r.2 := by
  unfold g_X11_pull at h
  obtain ⟨y0, m0, q1, h⟩ := rf_b_some h
  have e1 : fr S_X11_pull m m0 := fr_trans ((fr_refl _ m)) (fr_mono (fg_X5_isMark q1) (by decide))
  rcases rf_ite_some h with ⟨_, h⟩ | ⟨_, h⟩
  · obtain rfl := Option.some.inj h
    exact e1
  · obtain ⟨y1, m1, q2, h⟩ := rf_b_some h
    have e2 : fr S_X11_pull m m1 := fr_trans e1 (fr_mono (fg_X5_pullAt q2) (by decide))
    obtain rfl := Option.some.inj h
    exact e2
def S_X11_arc : fr_S := [(0, 0, some 11), (41, 41, some 3), (48, 48, none), (49, 49, none)]
theorem fg_X11_arc {w : rf_w} {m : rf_m} {a1 : Int32} {a2 : Int32} {r : (Int32 × rf_m)} (h : g_X11_arc w m a1 a2 = some r) : fr S_X11_arc m r.2 := by
  unfold g_X11_arc at h
  obtain ⟨y0, m0, q1, h⟩ := rf_b_some h
  have e1 : fr S_X11_arc m m0 := fr_trans ((fr_refl _ m)) (fr_mono (fg_X11_isWithin q1) (by decide))
  rcases rf_ite_some h with ⟨_, h⟩ | ⟨_, h⟩
  · obtain ⟨y1, m1, q2, h⟩ := rf_b_some h
    have e2 : fr S_X11_arc m m1 := fr_trans e1 (fr_mono (fg_X11_refused q2) (by decide))
    obtain rfl := Option.some.inj h
    exact e2
  · obtain ⟨y2, m2, q3, h⟩ := rf_b_some h
    have e3 : fr S_X11_arc m m2 := fr_trans e1 (fr_mono (fg_X11_isWithin q3) (by decide))
    rcases rf_ite_some h with ⟨_, h⟩ | ⟨_, h⟩
    · obtain ⟨y6, m6, q4, h⟩ := rf_b_some h
      have e4 : fr S_X11_arc m m6 := fr_trans e3 (fr_mono (fg_X11_refused q4) (by decide))
      obtain rfl := Option.some.inj h
      exact e4
    · rcases rf_ite_some h with ⟨_, h⟩ | ⟨_, h⟩
      · obtain ⟨y3, m3, q5, h⟩ := rf_b_some h
        have e5 : fr S_X11_arc m m3 := fr_trans e3 (fr_mono (fg_X6_addArc q5) (by decide))
        obtain ⟨y4, m4, q6, h⟩ := rf_b_some h
        have e6 : fr S_X11_arc m m4 := fr_trans e5 (fr_mono (fg_X11_answered q6) (by decide))
        obtain rfl := Option.some.inj h
        exact e6
      · obtain ⟨y5, m5, q7, h⟩ := rf_b_some h
        have e7 : fr S_X11_arc m m5 := fr_trans e3 (fr_mono (fg_X11_refused q7) (by decide))
        obtain rfl := Option.some.inj h
        exact e7
def S_X11_figure : fr_S := []
theorem fg_X11_figure {w : rf_w} {m : rf_m} {a1 : Int32} {r : (Int64 × rf_m)} (h : g_X11_figure w m a1 = some r) : fr S_X11_figure m r.2 := by
  unfold g_X11_figure at h
  obtain ⟨y0, m0, q1, h⟩ := rf_b_some h
  have e1 : fr S_X11_figure m m0 := fr_trans ((fr_refl _ m)) (fr_mono (fg_X6_fit q1) (by decide))
  obtain rfl := Option.some.inj h
  exact e1
def S_X11_pass : fr_S := [(0, 0, some 10), (0, 0, some 11)]
theorem fg_X11_pass {w : rf_w} {m : rf_m} {a1 : Int32} {r : (Int32 × rf_m)} (h : g_X11_pass w m a1 = some r) : fr S_X11_pass m r.2 := by
  unfold g_X11_pass at h
  obtain ⟨y0, m0, q1, h⟩ := rf_b_some h
  have e1 : fr S_X11_pass m m0 := fr_trans ((fr_refl _ m)) (fr_mono (fg_X11_isWithin q1) (by decide))
  rcases rf_ite_some h with ⟨_, h⟩ | ⟨_, h⟩
  · obtain ⟨y1, m1, q2, h⟩ := rf_b_some h
    have e2 : fr S_X11_pass m m1 := fr_trans e1 (fr_mono (fg_X11_refused q2) (by decide))
    obtain rfl := Option.some.inj h
    exact e2
  · rcases rf_ite_some h with ⟨_, h⟩ | ⟨_, h⟩
    · obtain ⟨y2, m2, q3, h⟩ := rf_b_some h
      have e3 : fr S_X11_pass m m2 := fr_trans (fr_i e1 (by decide)) (fr_mono (fg_X11_answered q3) (by decide))
      obtain rfl := Option.some.inj h
      exact e3
    · obtain ⟨y3, m3, q4, h⟩ := rf_b_some h
      have e4 : fr S_X11_pass m m3 := fr_trans e1 (fr_mono (fg_X11_refused q4) (by decide))
      obtain rfl := Option.some.inj h
      exact e4
def S_X11_count : fr_S := [(18, 18, none), (25, 25, none), (26, 26, some 19), (31, 31, none), (32, 32, none), (34, 34, none), (35, 35, none), (40, 40, none)]
theorem fg_X11_count {w : rf_w} {m : rf_m} {a1 : Int32} {r : (Int32 × rf_m)} (h : g_X11_count w m a1 = some r) : fr S_X11_count m r.2 := by
  unfold g_X11_count at h
  rcases rf_ite_some h with ⟨_, h⟩ | ⟨_, h⟩
  · obtain rfl := Option.some.inj h
    exact (fr_refl _ m)
  · rcases rf_ite_some h with ⟨_, h⟩ | ⟨_, h⟩
    · obtain rfl := Option.some.inj h
      exact (fr_refl _ m)
    · rcases rf_ite_some h with ⟨_, h⟩ | ⟨_, h⟩
      · obtain rfl := Option.some.inj h
        exact (fr_refl _ m)
      · rcases rf_ite_some h with ⟨_, h⟩ | ⟨_, h⟩
        · obtain rfl := Option.some.inj h
          exact (fr_refl _ m)
        · rcases rf_ite_some h with ⟨_, h⟩ | ⟨_, h⟩
          · obtain rfl := Option.some.inj h
            exact (fr_refl _ m)
          · rcases rf_ite_some h with ⟨_, h⟩ | ⟨_, h⟩
            · obtain rfl := Option.some.inj h
              exact (fr_refl _ m)
            · rcases rf_ite_some h with ⟨_, h⟩ | ⟨_, h⟩
              · obtain rfl := Option.some.inj h
                exact (fr_refl _ m)
              · rcases rf_ite_some h with ⟨_, h⟩ | ⟨_, h⟩
                · obtain rfl := Option.some.inj h
                  exact (fr_refl _ m)
                · rcases rf_ite_some h with ⟨_, h⟩ | ⟨_, h⟩
                  · obtain rfl := Option.some.inj h
                    exact (fr_refl _ m)
                  · rcases rf_ite_some h with ⟨_, h⟩ | ⟨_, h⟩
                    · obtain rfl := Option.some.inj h
                      exact (fr_refl _ m)
                    · rcases rf_ite_some h with ⟨_, h⟩ | ⟨_, h⟩
                      · obtain rfl := Option.some.inj h
                        exact (fr_refl _ m)
                      · rcases rf_ite_some h with ⟨_, h⟩ | ⟨_, h⟩
                        · obtain rfl := Option.some.inj h
                          exact (fr_refl _ m)
                        · rcases rf_ite_some h with ⟨_, h⟩ | ⟨_, h⟩
                          · obtain rfl := Option.some.inj h
                            exact (fr_refl _ m)
                          · rcases rf_ite_some h with ⟨_, h⟩ | ⟨_, h⟩
                            · obtain ⟨m0, q1, h⟩ := rf_bv_some h
                              have e1 : fr S_X11_count m m0 := fr_trans ((fr_refl _ m)) (fr_mono (fg_X3_freshenAll q1) (by decide))
                              obtain ⟨y1, m1, q2, h⟩ := rf_b_some h
                              have e2 : fr S_X11_count m m1 := fr_trans e1 (fr_mono (fg_X3_againOnes q2) (by decide))
                              obtain rfl := Option.some.inj h
                              exact e2
                            · obtain rfl := Option.some.inj h
                              exact (fr_refl _ m)
def S_X11_trouble : fr_S := []
theorem fg_X11_trouble {w : rf_w} {m : rf_m} {r : (Int32 × rf_m)} (h : g_X11_trouble w m = some r) : fr S_X11_trouble m r.2 := by
  unfold g_X11_trouble at h
  obtain rfl := Option.some.inj h
  exact (fr_refl _ m)
def S_X14_thrown : fr_S := []
theorem fg_X14_thrown {w : rf_w} {m : rf_m} {r : (Int32 × rf_m)} (h : g_X14_thrown w m = some r) : fr S_X14_thrown m r.2 := by
  unfold g_X14_thrown at h
  obtain rfl := Option.some.inj h
  exact (fr_refl _ m)
def S_X14_refused : fr_S := [(206, 206, some 1), (206, 206, some 2)]
theorem fg_X14_refused {w : rf_w} {m : rf_m} {a1 : Int32} {r : (Int32 × rf_m)} (h : g_X14_refused w m a1 = some r) : fr S_X14_refused m r.2 := by
  unfold g_X14_refused at h
  obtain rfl := Option.some.inj h
  exact fr_i (fr_i ((fr_refl _ m)) (by decide)) (by decide)
def S_X14_denied : fr_S := [(206, 206, some 1), (206, 206, some 2)]
theorem fg_X14_denied {w : rf_w} {m : rf_m} {a1 : Int32} {r : (Int32 × rf_m)} (h : g_X14_denied w m a1 = some r) : fr S_X14_denied m r.2 := by
  unfold g_X14_denied at h
  obtain rfl := Option.some.inj h
  exact fr_i (fr_i ((fr_refl _ m)) (by decide)) (by decide)
def S_X14_done : fr_S := [(206, 206, some 1), (206, 206, some 2)]
theorem fg_X14_done {w : rf_w} {m : rf_m} {a1 : Int32} {r : (Int32 × rf_m)} (h : g_X14_done w m a1 = some r) : fr S_X14_done m r.2 := by
  unfold g_X14_done at h
  obtain rfl := Option.some.inj h
  exact fr_i (fr_i ((fr_refl _ m)) (by decide)) (by decide)
def S_X14_granted : fr_S := [(206, 206, some 1), (206, 206, some 2)]
theorem fg_X14_granted {w : rf_w} {m : rf_m} {r : (Int32 × rf_m)} (h : g_X14_granted w m = some r) : fr S_X14_granted m r.2 := by
  unfold g_X14_granted at h
  obtain rfl := Option.some.inj h
  exact fr_i (fr_i ((fr_refl _ m)) (by decide)) (by decide)
def S_X14_in : fr_S := []
theorem fg_X14_in {w : rf_w} {m : rf_m} {a0 : Int32} {a1 : Int32} {a2 : Int32} {r : (Int32 × rf_m)} (h : g_X14_in w m a0 a1 a2 = some r) : fr S_X14_in m r.2 := by
  unfold g_X14_in at h
  rcases rf_ite_some h with ⟨_, h⟩ | ⟨_, h⟩
  · obtain rfl := Option.some.inj h
    exact (fr_refl _ m)
  · rcases rf_ite_some h with ⟨_, h⟩ | ⟨_, h⟩
    · obtain rfl := Option.some.inj h
      exact (fr_refl _ m)
    · obtain rfl := Option.some.inj h
      exact (fr_refl _ m)
def S_X14_bits : fr_S := []
theorem fg_X14_bits_4_b {w : rf_w} {rec4 : Int32 → Int32 → rf_m → Option (Int32 × rf_m)} {a1 : Int32} {a2 : Int32} {m : rf_m} (hr_rec4 : ∀ {x0 : Int32} {x1 : Int32} {m : rf_m} {r : (Int32 × rf_m)}, rec4 x0 x1 m = some r → fr S_X14_bits m r.2) {r : (Int32 × rf_m)} (h : g_X14_bits_4_b w rec4 a1 a2 m = some r) : fr S_X14_bits m r.2 := by
  unfold g_X14_bits_4_b at h
  rcases rf_ite_some h with ⟨_, h⟩ | ⟨_, h⟩
  · obtain rfl := Option.some.inj h
    exact (fr_refl _ m)
  · exact fr_trans ((fr_refl _ m)) (hr_rec4 h)
theorem fg_X14_bits_4 {w : rf_w} (n : Nat) : ∀ {a1 : Int32} {a2 : Int32} {m : rf_m} {r : (Int32 × rf_m)}, g_X14_bits_4 w n a1 a2 m = some r → fr S_X14_bits m r.2 := by
  induction n with
  | zero => intro a1 a2 m r h; cases h
  | succ n ih =>
    intro a1 a2 m r h
    exact fg_X14_bits_4_b ih h
theorem fg_X14_bits {w : rf_w} {m : rf_m} {a0 : Int32} {r : (Int32 × rf_m)} (h : g_X14_bits w m a0 = some r) : fr S_X14_bits m r.2 := by
  unfold g_X14_bits at h
  exact fr_trans ((fr_refl _ m)) (fr_mono (fg_X14_bits_4 _ h) (by decide))
def S_X14_down : fr_S := []
theorem fg_X14_down {w : rf_w} {m : rf_m} {a0 : Int32} {a1 : Int32} {r : (Int32 × rf_m)} (h : g_X14_down w m a0 a1 = some r) : fr S_X14_down m r.2 := by
  unfold g_X14_down at h
  obtain ⟨_, h⟩ := rf_g_some h
  obtain ⟨_, h⟩ := rf_g_some h
  rcases rf_ite_some h with ⟨_, h⟩ | ⟨_, h⟩
  · obtain rfl := Option.some.inj h
    exact (fr_refl _ m)
  · obtain rfl := Option.some.inj h
    exact (fr_refl _ m)
def S_X14_downLong : fr_S := []
theorem fg_X14_downLong {w : rf_w} {m : rf_m} {a0 : Int64} {a2 : Int64} {r : (Int64 × rf_m)} (h : g_X14_downLong w m a0 a2 = some r) : fr S_X14_downLong m r.2 := by
  unfold g_X14_downLong at h
  obtain ⟨_, h⟩ := rf_g_some h
  obtain ⟨_, h⟩ := rf_g_some h
  rcases rf_ite_some h with ⟨_, h⟩ | ⟨_, h⟩
  · obtain rfl := Option.some.inj h
    exact (fr_refl _ m)
  · obtain rfl := Option.some.inj h
    exact (fr_refl _ m)
def S_X14_isCell : fr_S := []
theorem fg_X14_isCell {w : rf_w} {m : rf_m} {a0 : Int32} {r : (Int32 × rf_m)} (h : g_X14_isCell w m a0 = some r) : fr S_X14_isCell m r.2 := by
  unfold g_X14_isCell at h
  rcases rf_ite_some h with ⟨_, h⟩ | ⟨_, h⟩
  · obtain rfl := Option.some.inj h
    exact (fr_refl _ m)
  · rcases rf_ite_some h with ⟨_, h⟩ | ⟨_, h⟩
    · obtain rfl := Option.some.inj h
      exact (fr_refl _ m)
    · obtain rfl := Option.some.inj h
      exact (fr_refl _ m)
def S_X14_isMark : fr_S := []
theorem fg_X14_isMark {w : rf_w} {m : rf_m} {a1 : Int32} {r : (Int32 × rf_m)} (h : g_X14_isMark w m a1 = some r) : fr S_X14_isMark m r.2 := by
  unfold g_X14_isMark at h
  rcases rf_ite_some h with ⟨_, h⟩ | ⟨_, h⟩
  · obtain rfl := Option.some.inj h
    exact (fr_refl _ m)
  · rcases rf_ite_some h with ⟨_, h⟩ | ⟨_, h⟩
    · obtain rfl := Option.some.inj h
      exact (fr_refl _ m)
    · obtain rfl := Option.some.inj h
      exact (fr_refl _ m)
def S_X14_isDay : fr_S := []
theorem fg_X14_isDay {w : rf_w} {m : rf_m} {a0 : Int32} {r : (Int32 × rf_m)} (h : g_X14_isDay w m a0 = some r) : fr S_X14_isDay m r.2 := by
  unfold g_X14_isDay at h
  rcases rf_ite_some h with ⟨_, h⟩ | ⟨_, h⟩
  · obtain rfl := Option.some.inj h
    exact (fr_refl _ m)
  · rcases rf_ite_some h with ⟨_, h⟩ | ⟨_, h⟩
    · obtain rfl := Option.some.inj h
      exact (fr_refl _ m)
    · obtain rfl := Option.some.inj h
      exact (fr_refl _ m)
def S_X14_isHour : fr_S := []
theorem fg_X14_isHour {w : rf_w} {m : rf_m} {a0 : Int32} {r : (Int32 × rf_m)} (h : g_X14_isHour w m a0 = some r) : fr S_X14_isHour m r.2 := by
  unfold g_X14_isHour at h
  rcases rf_ite_some h with ⟨_, h⟩ | ⟨_, h⟩
  · obtain rfl := Option.some.inj h
    exact (fr_refl _ m)
  · rcases rf_ite_some h with ⟨_, h⟩ | ⟨_, h⟩
    · obtain rfl := Option.some.inj h
      exact (fr_refl _ m)
    · obtain rfl := Option.some.inj h
      exact (fr_refl _ m)
def S_X14_cell : fr_S := [(206, 206, some 0), (206, 206, some 1), (206, 206, some 2), (207, 207, none), (208, 208, none)]
theorem fg_X14_cell {w : rf_w} {m : rf_m} {a1 : Int32} {a2 : Int32} {a3 : Int32} {r : (Int32 × rf_m)} (h : g_X14_cell w m a1 a2 a3 = some r) : fr S_X14_cell m r.2 := by
  unfold g_X14_cell at h
  obtain ⟨y0, m0, q1, h⟩ := rf_b_some h
  have e1 : fr S_X14_cell m m0 := fr_trans (fr_i ((fr_refl _ m)) (by decide)) (fr_mono (fg_X14_isCell q1) (by decide))
  rcases rf_ite_some h with ⟨_, h⟩ | ⟨_, h⟩
  · obtain ⟨y8, m8, q2, h⟩ := rf_b_some h
    have e2 : fr S_X14_cell m m8 := fr_trans e1 (fr_mono (fg_X14_denied q2) (by decide))
    obtain ⟨_, h⟩ := rf_g_some h
    obtain rfl := Option.some.inj h
    exact e2
  · obtain ⟨y1, m1, q3, h⟩ := rf_b_some h
    have e3 : fr S_X14_cell m m1 := fr_trans e1 (fr_mono (fg_X14_in q3) (by decide))
    rcases rf_ite_some h with ⟨_, h⟩ | ⟨_, h⟩
    · obtain ⟨y2, m2, q4, h⟩ := rf_b_some h
      have e4 : fr S_X14_cell m m2 := fr_trans e3 (fr_mono (fg_X14_denied q4) (by decide))
      obtain ⟨_, h⟩ := rf_g_some h
      obtain rfl := Option.some.inj h
      exact e4
    · obtain ⟨y3, m3, q5, h⟩ := rf_b_some h
      have e5 : fr S_X14_cell m m3 := fr_trans e3 (fr_mono (fg_X14_in q5) (by decide))
      rcases rf_ite_some h with ⟨_, h⟩ | ⟨_, h⟩
      · obtain ⟨y7, m7, q6, h⟩ := rf_b_some h
        have e6 : fr S_X14_cell m m7 := fr_trans e5 (fr_mono (fg_X14_denied q6) (by decide))
        obtain ⟨_, h⟩ := rf_g_some h
        obtain rfl := Option.some.inj h
        exact e6
      · obtain ⟨_, h⟩ := rf_g_some h
        obtain ⟨_, h⟩ := rf_g_some h
        obtain ⟨y6, m6, q7, h⟩ := rf_b_some h
        have e7 : fr S_X14_cell m m6 := fr_trans (fr_i (fr_i e5 (fr_c_in (by decide) _)) (fr_c_in (by decide) _)) (fr_mono (fg_X14_granted q7) (by decide))
        obtain ⟨_, h⟩ := rf_g_some h
        obtain rfl := Option.some.inj h
        exact e7
def S_X14_mark : fr_S := [(206, 206, some 0), (206, 206, some 1), (206, 206, some 2), (206, 206, some 4), (209, 209, none)]
theorem fg_X14_mark_20_b {w : rf_w} {rec20 : Int32 → Int32 → rf_m → Option (Int32 × rf_m)} {a1 : Int32} {a2 : Int32} {m : rf_m} (hr_rec20 : ∀ {x0 : Int32} {x1 : Int32} {m : rf_m} {r : (Int32 × rf_m)}, rec20 x0 x1 m = some r → fr S_X14_mark m r.2) {r : (Int32 × rf_m)} (h : g_X14_mark_20_b w rec20 a1 a2 m = some r) : fr S_X14_mark m r.2 := by
  unfold g_X14_mark_20_b at h
  rcases rf_ite_some h with ⟨_, h⟩ | ⟨_, h⟩
  · rcases rf_ite_some h with ⟨_, h⟩ | ⟨_, h⟩
    · obtain ⟨y2, m2, q1, h⟩ := rf_b_some h
      have e1 : fr S_X14_mark m m2 := fr_trans ((fr_refl _ m)) (fr_mono (fg_X14_refused q1) (by decide))
      obtain rfl := Option.some.inj h
      exact e1
    · obtain ⟨_, h⟩ := rf_g_some h
      obtain ⟨y1, m1, q2, h⟩ := rf_b_some h
      have e2 : fr S_X14_mark m m1 := fr_trans (fr_i (fr_i ((fr_refl _ m)) (fr_c_in (by decide) _)) (by decide)) (fr_mono (fg_X14_done q2) (by decide))
      obtain rfl := Option.some.inj h
      exact e2
  · obtain ⟨_, h⟩ := rf_g_some h
    rcases rf_ite_some h with ⟨_, h⟩ | ⟨_, h⟩
    · obtain ⟨y4, m4, q3, h⟩ := rf_b_some h
      have e3 : fr S_X14_mark m m4 := fr_trans ((fr_refl _ m)) (fr_mono (fg_X14_refused q3) (by decide))
      obtain rfl := Option.some.inj h
      exact e3
    · exact fr_trans ((fr_refl _ m)) (hr_rec20 h)
theorem fg_X14_mark_20 {w : rf_w} (n : Nat) : ∀ {a1 : Int32} {a2 : Int32} {m : rf_m} {r : (Int32 × rf_m)}, g_X14_mark_20 w n a1 a2 m = some r → fr S_X14_mark m r.2 := by
  induction n with
  | zero => intro a1 a2 m r h; cases h
  | succ n ih =>
    intro a1 a2 m r h
    exact fg_X14_mark_20_b ih h
theorem fg_X14_mark {w : rf_w} {m : rf_m} {a1 : Int32} {r : (Int32 × rf_m)} (h : g_X14_mark w m a1 = some r) : fr S_X14_mark m r.2 := by
  unfold g_X14_mark at h
  obtain ⟨y0, m0, q1, h⟩ := rf_b_some h
  have e1 : fr S_X14_mark m m0 := fr_trans (fr_i ((fr_refl _ m)) (by decide)) (fr_mono (fg_X14_isCell q1) (by decide))
  rcases rf_ite_some h with ⟨_, h⟩ | ⟨_, h⟩
  · obtain ⟨y1, m1, q2, h⟩ := rf_b_some h
    have e2 : fr S_X14_mark m m1 := fr_trans e1 (fr_mono (fg_X14_refused q2) (by decide))
    obtain rfl := Option.some.inj h
    exact e2
  · exact fr_trans e1 (fr_mono (fg_X14_mark_20 _ h) (by decide))
def S_X14_tower : fr_S := [(206, 206, some 0), (206, 206, some 1), (206, 206, some 2), (210, 210, none)]
theorem fg_X14_tower_40_b {w : rf_w} {rec40 : Int32 → Int32 → Int32 → rf_m → Option (Int32 × rf_m)} {a1 : Int32} {a2 : Int32} {a3 : Int32} {m : rf_m} (hr_rec40 : ∀ {x0 : Int32} {x1 : Int32} {x2 : Int32} {m : rf_m} {r : (Int32 × rf_m)}, rec40 x0 x1 x2 m = some r → fr S_X14_tower m r.2) {r : (Int32 × rf_m)} (h : g_X14_tower_40_b w rec40 a1 a2 a3 m = some r) : fr S_X14_tower m r.2 := by
  unfold g_X14_tower_40_b at h
  rcases rf_ite_some h with ⟨_, h⟩ | ⟨_, h⟩
  · obtain ⟨y0, m0, q1, h⟩ := rf_b_some h
    have e1 : fr S_X14_tower m m0 := fr_trans ((fr_refl _ m)) (fr_mono (fg_X14_granted q1) (by decide))
    obtain ⟨_, h⟩ := rf_g_some h
    obtain rfl := Option.some.inj h
    exact e1
  · obtain ⟨_, h⟩ := rf_g_some h
    exact fr_trans (fr_i ((fr_refl _ m)) (fr_c_in (by decide) _)) (hr_rec40 h)
theorem fg_X14_tower_40 {w : rf_w} (n : Nat) : ∀ {a1 : Int32} {a2 : Int32} {a3 : Int32} {m : rf_m} {r : (Int32 × rf_m)}, g_X14_tower_40 w n a1 a2 a3 m = some r → fr S_X14_tower m r.2 := by
  induction n with
  | zero => intro a1 a2 a3 m r h; cases h
  | succ n ih =>
    intro a1 a2 a3 m r h
    exact fg_X14_tower_40_b ih h
theorem fg_X14_tower {w : rf_w} {m : rf_m} {a1 : Int32} {a2 : Int32} {r : (Int32 × rf_m)} (h : g_X14_tower w m a1 a2 = some r) : fr S_X14_tower m r.2 := by
  unfold g_X14_tower at h
  obtain ⟨y0, m0, q1, h⟩ := rf_b_some h
  have e1 : fr S_X14_tower m m0 := fr_trans (fr_i ((fr_refl _ m)) (by decide)) (fr_mono (fg_X14_isMark q1) (by decide))
  rcases rf_ite_some h with ⟨_, h⟩ | ⟨_, h⟩
  · obtain ⟨y3, m3, q2, h⟩ := rf_b_some h
    have e2 : fr S_X14_tower m m3 := fr_trans e1 (fr_mono (fg_X14_denied q2) (by decide))
    obtain ⟨_, h⟩ := rf_g_some h
    obtain rfl := Option.some.inj h
    exact e2
  · obtain ⟨y1, m1, q3, h⟩ := rf_b_some h
    have e3 : fr S_X14_tower m m1 := fr_trans e1 (fr_mono (fg_X14_in q3) (by decide))
    rcases rf_ite_some h with ⟨_, h⟩ | ⟨_, h⟩
    · obtain ⟨y2, m2, q4, h⟩ := rf_b_some h
      have e4 : fr S_X14_tower m m2 := fr_trans e3 (fr_mono (fg_X14_denied q4) (by decide))
      obtain ⟨_, h⟩ := rf_g_some h
      obtain rfl := Option.some.inj h
      exact e4
    · exact fr_trans e3 (fr_mono (fg_X14_tower_40 _ h) (by decide))
def S_X14_lamp : fr_S := [(206, 206, some 0), (206, 206, some 1), (206, 206, some 2), (214, 214, none)]
theorem fg_X14_lamp {w : rf_w} {m : rf_m} {a1 : Int32} {a2 : Int32} {r : (Int32 × rf_m)} (h : g_X14_lamp w m a1 a2 = some r) : fr S_X14_lamp m r.2 := by
  unfold g_X14_lamp at h
  obtain ⟨y0, m0, q1, h⟩ := rf_b_some h
  have e1 : fr S_X14_lamp m m0 := fr_trans (fr_i ((fr_refl _ m)) (by decide)) (fr_mono (fg_X14_isMark q1) (by decide))
  rcases rf_ite_some h with ⟨_, h⟩ | ⟨_, h⟩
  · obtain ⟨y3, m3, q2, h⟩ := rf_b_some h
    have e2 : fr S_X14_lamp m m3 := fr_trans e1 (fr_mono (fg_X14_denied q2) (by decide))
    obtain ⟨_, h⟩ := rf_g_some h
    obtain rfl := Option.some.inj h
    exact e2
  · obtain ⟨_, h⟩ := rf_g_some h
    obtain ⟨y2, m2, q3, h⟩ := rf_b_some h
    have e3 : fr S_X14_lamp m m2 := fr_trans (fr_i e1 (fr_c_in (by decide) _)) (fr_mono (fg_X14_granted q3) (by decide))
    obtain ⟨_, h⟩ := rf_g_some h
    obtain rfl := Option.some.inj h
    exact e3
def S_X14_haze : fr_S := [(206, 206, some 0), (206, 206, some 1), (206, 206, some 2), (206, 206, some 6), (211, 211, none), (212, 212, none), (213, 213, none)]
theorem fg_X14_haze_75 {w : rf_w} {a1 : Int32} {a2 : Int32} {a3 : Int32} {a4 : Int32} {m : rf_m} {r : (Int32 × rf_m)} (h : g_X14_haze_75 w a1 a2 a3 a4 m = some r) : fr S_X14_haze m r.2 := by
  unfold g_X14_haze_75 at h
  rcases rf_ite_some h with ⟨_, h⟩ | ⟨_, h⟩
  · obtain ⟨y5, m5, q1, h⟩ := rf_b_some h
    have e1 : fr S_X14_haze m m5 := fr_trans ((fr_refl _ m)) (fr_mono (fg_X14_denied q1) (by decide))
    obtain ⟨_, h⟩ := rf_g_some h
    obtain rfl := Option.some.inj h
    exact e1
  · obtain ⟨y0, m0, q2, h⟩ := rf_b_some h
    have e2 : fr S_X14_haze m m0 := fr_trans ((fr_refl _ m)) (fr_mono (fg_max q2) (by decide))
    obtain ⟨_, h⟩ := rf_g_some h
    obtain ⟨_, h⟩ := rf_g_some h
    obtain ⟨_, h⟩ := rf_g_some h
    obtain ⟨y4, m4, q3, h⟩ := rf_b_some h
    have e3 : fr S_X14_haze m m4 := fr_trans (fr_i (fr_i (fr_i (fr_i e2 (by decide)) (fr_c_in (by decide) _)) (fr_c_in (by decide) _)) (fr_c_in (by decide) _)) (fr_mono (fg_X14_granted q3) (by decide))
    obtain ⟨_, h⟩ := rf_g_some h
    obtain rfl := Option.some.inj h
    exact e3
theorem fg_X14_haze_69 {w : rf_w} {rec38 : Int32 → Int32 → Int32 → Int32 → rf_m → Option (Int32 × rf_m)} {a1 : Int32} {a2 : Int32} {a3 : Int32} {a4 : Int32} {m : rf_m} (hr_rec38 : ∀ {x0 : Int32} {x1 : Int32} {x2 : Int32} {x3 : Int32} {m : rf_m} {r : (Int32 × rf_m)}, rec38 x0 x1 x2 x3 m = some r → fr S_X14_haze m r.2) {r : (Int32 × rf_m)} (h : g_X14_haze_69 w rec38 a1 a2 a3 a4 m = some r) : fr S_X14_haze m r.2 := by
  unfold g_X14_haze_69 at h
  exact fr_trans ((fr_refl _ m)) (hr_rec38 h)
theorem fg_X14_haze_38_b {w : rf_w} {rec38 : Int32 → Int32 → Int32 → Int32 → rf_m → Option (Int32 × rf_m)} {a1 : Int32} {a2 : Int32} {a3 : Int32} {a4 : Int32} {m : rf_m} (hr_rec38 : ∀ {x0 : Int32} {x1 : Int32} {x2 : Int32} {x3 : Int32} {m : rf_m} {r : (Int32 × rf_m)}, rec38 x0 x1 x2 x3 m = some r → fr S_X14_haze m r.2) {r : (Int32 × rf_m)} (h : g_X14_haze_38_b w rec38 a1 a2 a3 a4 m = some r) : fr S_X14_haze m r.2 := by
  unfold g_X14_haze_38_b at h
  rcases rf_ite_some h with ⟨_, h⟩ | ⟨_, h⟩
  · exact fr_trans ((fr_refl _ m)) (fr_mono (fg_X14_haze_75 h) (by decide))
  · obtain ⟨_, h⟩ := rf_g_some h
    rcases rf_ite_some h with ⟨_, h⟩ | ⟨_, h⟩
    · obtain ⟨_, h⟩ := rf_g_some h
      rcases rf_ite_some h with ⟨_, h⟩ | ⟨_, h⟩
      · exact fr_trans ((fr_refl _ m)) (fr_mono (fg_X14_haze_75 h) (by decide))
      · exact fr_trans ((fr_refl _ m)) (fr_mono (fg_X14_haze_69 hr_rec38 h) (by decide))
    · exact fr_trans ((fr_refl _ m)) (fr_mono (fg_X14_haze_69 hr_rec38 h) (by decide))
theorem fg_X14_haze_38 {w : rf_w} (n : Nat) : ∀ {a1 : Int32} {a2 : Int32} {a3 : Int32} {a4 : Int32} {m : rf_m} {r : (Int32 × rf_m)}, g_X14_haze_38 w n a1 a2 a3 a4 m = some r → fr S_X14_haze m r.2 := by
  induction n with
  | zero => intro a1 a2 a3 a4 m r h; cases h
  | succ n ih =>
    intro a1 a2 a3 a4 m r h
    exact fg_X14_haze_38_b ih h
theorem fg_X14_haze {w : rf_w} {m : rf_m} {a1 : Int32} {a2 : Int32} {a3 : Int32} {r : (Int32 × rf_m)} (h : g_X14_haze w m a1 a2 a3 = some r) : fr S_X14_haze m r.2 := by
  unfold g_X14_haze at h
  obtain ⟨y0, m0, q1, h⟩ := rf_b_some h
  have e1 : fr S_X14_haze m m0 := fr_trans (fr_i ((fr_refl _ m)) (by decide)) (fr_mono (fg_X14_isDay q1) (by decide))
  rcases rf_ite_some h with ⟨_, h⟩ | ⟨_, h⟩
  · obtain ⟨y1, m1, q2, h⟩ := rf_b_some h
    have e2 : fr S_X14_haze m m1 := fr_trans e1 (fr_mono (fg_X14_denied q2) (by decide))
    obtain ⟨_, h⟩ := rf_g_some h
    obtain rfl := Option.some.inj h
    exact e2
  · obtain ⟨y2, m2, q3, h⟩ := rf_b_some h
    have e3 : fr S_X14_haze m m2 := fr_trans e1 (fr_mono (fg_X14_isHour q3) (by decide))
    rcases rf_ite_some h with ⟨_, h⟩ | ⟨_, h⟩
    · obtain ⟨y3, m3, q4, h⟩ := rf_b_some h
      have e4 : fr S_X14_haze m m3 := fr_trans e3 (fr_mono (fg_X14_denied q4) (by decide))
      obtain ⟨_, h⟩ := rf_g_some h
      obtain rfl := Option.some.inj h
      exact e4
    · obtain ⟨y4, m4, q5, h⟩ := rf_b_some h
      have e5 : fr S_X14_haze m m4 := fr_trans e3 (fr_mono (fg_X14_in q5) (by decide))
      rcases rf_ite_some h with ⟨_, h⟩ | ⟨_, h⟩
      · obtain ⟨y5, m5, q6, h⟩ := rf_b_some h
        have e6 : fr S_X14_haze m m5 := fr_trans e5 (fr_mono (fg_X14_denied q6) (by decide))
        obtain ⟨_, h⟩ := rf_g_some h
        obtain rfl := Option.some.inj h
        exact e6
      · exact fr_trans e5 (fr_mono (fg_X14_haze_38 _ h) (by decide))
def S_X14_reachOf : fr_S := []
theorem fg_X14_reachOf_37 {w : rf_w} {rec2 : Int32 → Int32 → Int32 → rf_m → Option (Int32 × rf_m)} {a1 : Int32} {a2 : Int32} {a3 : Int32} {m : rf_m} (hr_rec2 : ∀ {x0 : Int32} {x1 : Int32} {x2 : Int32} {m : rf_m} {r : (Int32 × rf_m)}, rec2 x0 x1 x2 m = some r → fr S_X14_reachOf m r.2) {r : (Int32 × rf_m)} (h : g_X14_reachOf_37 w rec2 a1 a2 a3 m = some r) : fr S_X14_reachOf m r.2 := by
  unfold g_X14_reachOf_37 at h
  exact fr_trans ((fr_refl _ m)) (hr_rec2 h)
theorem fg_X14_reachOf_2_b {w : rf_w} {rec2 : Int32 → Int32 → Int32 → rf_m → Option (Int32 × rf_m)} {a1 : Int32} {a2 : Int32} {a3 : Int32} {m : rf_m} (hr_rec2 : ∀ {x0 : Int32} {x1 : Int32} {x2 : Int32} {m : rf_m} {r : (Int32 × rf_m)}, rec2 x0 x1 x2 m = some r → fr S_X14_reachOf m r.2) {r : (Int32 × rf_m)} (h : g_X14_reachOf_2_b w rec2 a1 a2 a3 m = some r) : fr S_X14_reachOf m r.2 := by
  unfold g_X14_reachOf_2_b at h
  rcases rf_ite_some h with ⟨_, h⟩ | ⟨_, h⟩
  · obtain rfl := Option.some.inj h
    exact (fr_refl _ m)
  · obtain ⟨_, h⟩ := rf_g_some h
    rcases rf_ite_some h with ⟨_, h⟩ | ⟨_, h⟩
    · obtain ⟨_, h⟩ := rf_g_some h
      rcases rf_ite_some h with ⟨_, h⟩ | ⟨_, h⟩
      · obtain ⟨_, h⟩ := rf_g_some h
        obtain rfl := Option.some.inj h
        exact (fr_refl _ m)
      · exact fr_trans ((fr_refl _ m)) (fr_mono (fg_X14_reachOf_37 hr_rec2 h) (by decide))
    · exact fr_trans ((fr_refl _ m)) (fr_mono (fg_X14_reachOf_37 hr_rec2 h) (by decide))
theorem fg_X14_reachOf_2 {w : rf_w} (n : Nat) : ∀ {a1 : Int32} {a2 : Int32} {a3 : Int32} {m : rf_m} {r : (Int32 × rf_m)}, g_X14_reachOf_2 w n a1 a2 a3 m = some r → fr S_X14_reachOf m r.2 := by
  induction n with
  | zero => intro a1 a2 a3 m r h; cases h
  | succ n ih =>
    intro a1 a2 a3 m r h
    exact fg_X14_reachOf_2_b ih h
theorem fg_X14_reachOf {w : rf_w} {m : rf_m} {a1 : Int32} {a2 : Int32} {r : (Int32 × rf_m)} (h : g_X14_reachOf w m a1 a2 = some r) : fr S_X14_reachOf m r.2 := by
  unfold g_X14_reachOf at h
  exact fr_trans ((fr_refl _ m)) (fr_mono (fg_X14_reachOf_2 _ h) (by decide))
def S_X14_topOf : fr_S := []
theorem fg_X14_topOf {w : rf_w} {m : rf_m} {a1 : Int32} {a2 : Int32} {r : (Int32 × rf_m)} (h : g_X14_topOf w m a1 a2 = some r) : fr S_X14_topOf m r.2 := by
  unfold g_X14_topOf at h
  obtain ⟨_, h⟩ := rf_g_some h
  obtain ⟨_, h⟩ := rf_g_some h
  obtain ⟨_, h⟩ := rf_g_some h
  obtain rfl := Option.some.inj h
  exact (fr_refl _ m)
def S_X14_see : fr_S := [(206, 206, some 0)]
theorem fg_X14_see_181_b {w : rf_w} {rec181 : Int32 → Int32 → Int32 → Int32 → Int32 → Int32 → Int32 → Int32 → rf_m → Option (Int32 × rf_m)} {a5 : Int32} {a6 : Int32} {a7 : Int32} {a8 : Int32} {a9 : Int32} {a11 : Int32} {a12 : Int32} {a13 : Int32} {m : rf_m} (hr_rec181 : ∀ {x0 : Int32} {x1 : Int32} {x2 : Int32} {x3 : Int32} {x4 : Int32} {x5 : Int32} {x6 : Int32} {x7 : Int32} {m : rf_m} {r : (Int32 × rf_m)}, rec181 x0 x1 x2 x3 x4 x5 x6 x7 m = some r → fr S_X14_see m r.2) {r : (Int32 × rf_m)} (h : g_X14_see_181_b w rec181 a5 a6 a7 a8 a9 a11 a12 a13 m = some r) : fr S_X14_see m r.2 := by
  unfold g_X14_see_181_b at h
  rcases rf_ite_some h with ⟨_, h⟩ | ⟨_, h⟩
  · obtain rfl := Option.some.inj h
    exact (fr_refl _ m)
  · obtain ⟨y0, m0, q1, h⟩ := rf_b_some h
    have e1 : fr S_X14_see m m0 := fr_trans ((fr_refl _ m)) (fr_mono (fg_X14_down q1) (by decide))
    obtain ⟨y1, m1, q2, h⟩ := rf_b_some h
    have e2 : fr S_X14_see m m1 := fr_trans e1 (fr_mono (fg_X14_down q2) (by decide))
    have h := fr_vi h
    obtain ⟨_, h⟩ := rf_g_some h
    obtain ⟨_, h⟩ := rf_g_some h
    obtain ⟨_, h⟩ := rf_g_some h
    rcases rf_ite_some h with ⟨_, h⟩ | ⟨_, h⟩
    · exact fr_trans e2 (hr_rec181 h)
    · obtain rfl := Option.some.inj h
      exact e2
theorem fg_X14_see_181 {w : rf_w} (n : Nat) : ∀ {a5 : Int32} {a6 : Int32} {a7 : Int32} {a8 : Int32} {a9 : Int32} {a11 : Int32} {a12 : Int32} {a13 : Int32} {m : rf_m} {r : (Int32 × rf_m)}, g_X14_see_181 w n a5 a6 a7 a8 a9 a11 a12 a13 m = some r → fr S_X14_see m r.2 := by
  induction n with
  | zero => intro a5 a6 a7 a8 a9 a11 a12 a13 m r h; cases h
  | succ n ih =>
    intro a5 a6 a7 a8 a9 a11 a12 a13 m r h
    exact fg_X14_see_181_b ih h
theorem fg_X14_see_156 {w : rf_w} {a1 : Int32} {a2 : Int32} {a3 : Int32} {a5 : Int32} {a6 : Int32} {a7 : Int32} {a8 : Int32} {a9 : Int32} {s0 : Int32} {s1 : Int32} {s2 : Int32} {m : rf_m} {r : (Int32 × rf_m)} (h : g_X14_see_156 w a1 a2 a3 a5 a6 a7 a8 a9 s0 s1 s2 m = some r) : fr S_X14_see m r.2 := by
  unfold g_X14_see_156 at h
  rcases rf_ite_some h with ⟨_, h⟩ | ⟨_, h⟩
  · obtain ⟨y0, m0, q1, h⟩ := rf_b_some h
    have e1 : fr S_X14_see m m0 := fr_trans ((fr_refl _ m)) (fr_mono (fg_X14_topOf q1) (by decide))
    obtain ⟨y1, m1, q2, h⟩ := rf_b_some h
    have e2 : fr S_X14_see m m1 := fr_trans e1 (fr_mono (fg_X14_topOf q2) (by decide))
    exact fr_trans e2 (fr_mono (fg_X14_see_181 _ h) (by decide))
  · obtain rfl := Option.some.inj h
    exact (fr_refl _ m)
theorem fg_X14_see_135 {w : rf_w} {a1 : Int32} {a2 : Int32} {a3 : Int32} {a4 : Int32} {a5 : Int32} {a6 : Int32} {a7 : Int32} {a8 : Int32} {a9 : Int32} {s0 : Int32} {m : rf_m} {r : (Int32 × rf_m)} (h : g_X14_see_135 w a1 a2 a3 a4 a5 a6 a7 a8 a9 s0 m = some r) : fr S_X14_see m r.2 := by
  unfold g_X14_see_135 at h
  obtain ⟨y0, m0, q1, h⟩ := rf_b_some h
  have e1 : fr S_X14_see m m0 := fr_trans ((fr_refl _ m)) (fr_mono (fg_X14_reachOf q1) (by decide))
  rcases rf_ite_some h with ⟨_, h⟩ | ⟨_, h⟩
  · exact fr_trans e1 (fr_mono (fg_X14_see_156 h) (by decide))
  · exact fr_trans e1 (fr_mono (fg_X14_see_156 h) (by decide))
theorem fg_X14_see_134 {w : rf_w} {a1 : Int32} {a2 : Int32} {a3 : Int32} {a4 : Int32} {a5 : Int32} {a6 : Int32} {a7 : Int32} {a8 : Int32} {a9 : Int32} {m : rf_m} {r : (Int32 × rf_m)} (h : g_X14_see_134 w a1 a2 a3 a4 a5 a6 a7 a8 a9 m = some r) : fr S_X14_see m r.2 := by
  unfold g_X14_see_134 at h
  exact fr_trans ((fr_refl _ m)) (fr_mono (fg_X14_see_135 h) (by decide))
theorem fg_X14_see_130 {w : rf_w} {a1 : Int32} {a2 : Int32} {a3 : Int32} {a4 : Int32} {a5 : Int32} {a6 : Int32} {a7 : Int32} {a8 : Int32} {a9 : Int32} {m : rf_m} {r : (Int32 × rf_m)} (h : g_X14_see_130 w a1 a2 a3 a4 a5 a6 a7 a8 a9 m = some r) : fr S_X14_see m r.2 := by
  unfold g_X14_see_130 at h
  exact fr_trans ((fr_refl _ m)) (fr_mono (fg_X14_see_135 h) (by decide))
theorem fg_X14_see {w : rf_w} {m : rf_m} {a1 : Int32} {a2 : Int32} {a3 : Int32} {a4 : Int32} {r : (Int32 × rf_m)} (h : g_X14_see w m a1 a2 a3 a4 = some r) : fr S_X14_see m r.2 := by
  unfold g_X14_see at h
  obtain ⟨y0, m0, q1, h⟩ := rf_b_some h
  have e1 : fr S_X14_see m m0 := fr_trans (fr_i ((fr_refl _ m)) (by decide)) (fr_mono (fg_X14_isMark q1) (by decide))
  rcases rf_ite_some h with ⟨_, h⟩ | ⟨_, h⟩
  · obtain rfl := Option.some.inj h
    exact e1
  · obtain ⟨y1, m1, q2, h⟩ := rf_b_some h
    have e2 : fr S_X14_see m m1 := fr_trans e1 (fr_mono (fg_X14_isMark q2) (by decide))
    rcases rf_ite_some h with ⟨_, h⟩ | ⟨_, h⟩
    · obtain rfl := Option.some.inj h
      exact e2
    · rcases rf_ite_some h with ⟨_, h⟩ | ⟨_, h⟩
      · obtain rfl := Option.some.inj h
        exact e2
      · obtain ⟨y2, m2, q3, h⟩ := rf_b_some h
        have e3 : fr S_X14_see m m2 := fr_trans e2 (fr_mono (fg_X14_isDay q3) (by decide))
        rcases rf_ite_some h with ⟨_, h⟩ | ⟨_, h⟩
        · obtain rfl := Option.some.inj h
          exact e3
        · obtain ⟨y3, m3, q4, h⟩ := rf_b_some h
          have e4 : fr S_X14_see m m3 := fr_trans e3 (fr_mono (fg_X14_isHour q4) (by decide))
          rcases rf_ite_some h with ⟨_, h⟩ | ⟨_, h⟩
          · obtain rfl := Option.some.inj h
            exact e4
          · obtain ⟨_, h⟩ := rf_g_some h
            have h := fr_vi h
            obtain ⟨_, h⟩ := rf_g_some h
            have h := fr_vi h
            obtain ⟨_, h⟩ := rf_g_some h
            have h := fr_vi h
            obtain ⟨_, h⟩ := rf_g_some h
            have h := fr_vi h
            obtain ⟨y12, m12, q5, h⟩ := rf_b_some h
            have e5 : fr S_X14_see m m12 := fr_trans e4 (fr_mono (fg_abs q5) (by decide))
            obtain ⟨y13, m13, q6, h⟩ := rf_b_some h
            have e6 : fr S_X14_see m m13 := fr_trans e5 (fr_mono (fg_abs q6) (by decide))
            obtain ⟨y14, m14, q7, h⟩ := rf_b_some h
            have e7 : fr S_X14_see m m14 := fr_trans e6 (fr_mono (fg_max q7) (by decide))
            obtain ⟨_, h⟩ := rf_g_some h
            rcases rf_ite_some h with ⟨_, h⟩ | ⟨_, h⟩
            · exact fr_trans e7 (fr_mono (fg_X14_see_134 h) (by decide))
            · rcases rf_ite_some h with ⟨_, h⟩ | ⟨_, h⟩
              · exact fr_trans e7 (fr_mono (fg_X14_see_130 h) (by decide))
              · rcases rf_ite_some h with ⟨_, h⟩ | ⟨_, h⟩
                · exact fr_trans e7 (fr_mono (fg_X14_see_134 h) (by decide))
                · exact fr_trans e7 (fr_mono (fg_X14_see_130 h) (by decide))
def S_X14_isParty : fr_S := []
theorem fg_X14_isParty {w : rf_w} {m : rf_m} {a1 : Int32} {r : (Int32 × rf_m)} (h : g_X14_isParty w m a1 = some r) : fr S_X14_isParty m r.2 := by
  unfold g_X14_isParty at h
  rcases rf_ite_some h with ⟨_, h⟩ | ⟨_, h⟩
  · obtain rfl := Option.some.inj h
    exact (fr_refl _ m)
  · rcases rf_ite_some h with ⟨_, h⟩ | ⟨_, h⟩
    · obtain rfl := Option.some.inj h
      exact (fr_refl _ m)
    · obtain rfl := Option.some.inj h
      exact (fr_refl _ m)
def S_X14_isAngle : fr_S := []
theorem fg_X14_isAngle {w : rf_w} {m : rf_m} {a1 : Int32} {r : (Int32 × rf_m)} (h : g_X14_isAngle w m a1 = some r) : fr S_X14_isAngle m r.2 := by
  unfold g_X14_isAngle at h
  rcases rf_ite_some h with ⟨_, h⟩ | ⟨_, h⟩
  · obtain rfl := Option.some.inj h
    exact (fr_refl _ m)
  · rcases rf_ite_some h with ⟨_, h⟩ | ⟨_, h⟩
    · obtain rfl := Option.some.inj h
      exact (fr_refl _ m)
    · obtain rfl := Option.some.inj h
      exact (fr_refl _ m)
def S_X14_isReading : fr_S := []
theorem fg_X14_isReading {w : rf_w} {m : rf_m} {a1 : Int32} {r : (Int32 × rf_m)} (h : g_X14_isReading w m a1 = some r) : fr S_X14_isReading m r.2 := by
  unfold g_X14_isReading at h
  rcases rf_ite_some h with ⟨_, h⟩ | ⟨_, h⟩
  · obtain rfl := Option.some.inj h
    exact (fr_refl _ m)
  · rcases rf_ite_some h with ⟨_, h⟩ | ⟨_, h⟩
    · obtain rfl := Option.some.inj h
      exact (fr_refl _ m)
    · obtain rfl := Option.some.inj h
      exact (fr_refl _ m)
def S_X14_party : fr_S := [(206, 206, some 0), (206, 206, some 1), (206, 206, some 2), (206, 206, some 15), (215, 215, none)]
theorem fg_X14_party {w : rf_w} {m : rf_m} {a1 : Int32} {r : (Int32 × rf_m)} (h : g_X14_party w m a1 = some r) : fr S_X14_party m r.2 := by
  unfold g_X14_party at h
  rcases rf_ite_some h with ⟨_, h⟩ | ⟨_, h⟩
  · obtain ⟨y2, m2, q1, h⟩ := rf_b_some h
    have e1 : fr S_X14_party m m2 := fr_trans (fr_i ((fr_refl _ m)) (by decide)) (fr_mono (fg_X14_refused q1) (by decide))
    obtain rfl := Option.some.inj h
    exact e1
  · obtain ⟨_, h⟩ := rf_g_some h
    obtain ⟨y1, m1, q2, h⟩ := rf_b_some h
    have e2 : fr S_X14_party m m1 := fr_trans (fr_i (fr_i (fr_i ((fr_refl _ m)) (by decide)) (fr_c_in (by decide) _)) (by decide)) (fr_mono (fg_X14_done q2) (by decide))
    obtain rfl := Option.some.inj h
    exact e2
def S_X14_angle : fr_S := [(206, 206, some 0), (206, 206, some 1), (206, 206, some 2), (206, 206, some 16), (217, 217, none), (218, 218, none), (219, 219, none)]
theorem fg_X14_angle {w : rf_w} {m : rf_m} {a1 : Int32} {a2 : Int32} {a3 : Int32} {r : (Int32 × rf_m)} (h : g_X14_angle w m a1 a2 a3 = some r) : fr S_X14_angle m r.2 := by
  unfold g_X14_angle at h
  obtain ⟨y0, m0, q1, h⟩ := rf_b_some h
  have e1 : fr S_X14_angle m m0 := fr_trans (fr_i ((fr_refl _ m)) (by decide)) (fr_mono (fg_X14_isMark q1) (by decide))
  rcases rf_ite_some h with ⟨_, h⟩ | ⟨_, h⟩
  · obtain ⟨y1, m1, q2, h⟩ := rf_b_some h
    have e2 : fr S_X14_angle m m1 := fr_trans e1 (fr_mono (fg_X14_refused q2) (by decide))
    obtain rfl := Option.some.inj h
    exact e2
  · obtain ⟨y2, m2, q3, h⟩ := rf_b_some h
    have e3 : fr S_X14_angle m m2 := fr_trans e1 (fr_mono (fg_X14_isMark q3) (by decide))
    rcases rf_ite_some h with ⟨_, h⟩ | ⟨_, h⟩
    · obtain ⟨y3, m3, q4, h⟩ := rf_b_some h
      have e4 : fr S_X14_angle m m3 := fr_trans e3 (fr_mono (fg_X14_refused q4) (by decide))
      obtain rfl := Option.some.inj h
      exact e4
    · obtain ⟨y4, m4, q5, h⟩ := rf_b_some h
      have e5 : fr S_X14_angle m m4 := fr_trans e3 (fr_mono (fg_X14_isMark q5) (by decide))
      rcases rf_ite_some h with ⟨_, h⟩ | ⟨_, h⟩
      · obtain ⟨y13, m13, q6, h⟩ := rf_b_some h
        have e6 : fr S_X14_angle m m13 := fr_trans e5 (fr_mono (fg_X14_refused q6) (by decide))
        obtain rfl := Option.some.inj h
        exact e6
      · rcases rf_ite_some h with ⟨_, h⟩ | ⟨_, h⟩
        · obtain ⟨y5, m5, q7, h⟩ := rf_b_some h
          have e7 : fr S_X14_angle m m5 := fr_trans e5 (fr_mono (fg_X14_refused q7) (by decide))
          obtain rfl := Option.some.inj h
          exact e7
        · rcases rf_ite_some h with ⟨_, h⟩ | ⟨_, h⟩
          · obtain ⟨y6, m6, q8, h⟩ := rf_b_some h
            have e8 : fr S_X14_angle m m6 := fr_trans e5 (fr_mono (fg_X14_refused q8) (by decide))
            obtain rfl := Option.some.inj h
            exact e8
          · rcases rf_ite_some h with ⟨_, h⟩ | ⟨_, h⟩
            · obtain ⟨y12, m12, q9, h⟩ := rf_b_some h
              have e9 : fr S_X14_angle m m12 := fr_trans e5 (fr_mono (fg_X14_refused q9) (by decide))
              obtain rfl := Option.some.inj h
              exact e9
            · rcases rf_ite_some h with ⟨_, h⟩ | ⟨_, h⟩
              · obtain ⟨y11, m11, q10, h⟩ := rf_b_some h
                have e10 : fr S_X14_angle m m11 := fr_trans e5 (fr_mono (fg_X14_refused q10) (by decide))
                obtain rfl := Option.some.inj h
                exact e10
              · obtain ⟨_, h⟩ := rf_g_some h
                obtain ⟨_, h⟩ := rf_g_some h
                obtain ⟨_, h⟩ := rf_g_some h
                obtain ⟨y10, m10, q11, h⟩ := rf_b_some h
                have e11 : fr S_X14_angle m m10 := fr_trans (fr_i (fr_i (fr_i (fr_i e5 (fr_c_in (by decide) _)) (fr_c_in (by decide) _)) (fr_c_in (by decide) _)) (by decide)) (fr_mono (fg_X14_done q11) (by decide))
                obtain rfl := Option.some.inj h
                exact e11
def S_X14_readingsOf : fr_S := []
theorem fg_X14_readingsOf_28 {w : rf_w} {rec4 : Int32 → Int32 → Int32 → rf_m → Option (Int32 × rf_m)} {a1 : Int32} {a3 : Int32} {s0 : Int32} {s1 : Int32} {m : rf_m} (hr_rec4 : ∀ {x0 : Int32} {x1 : Int32} {x2 : Int32} {m : rf_m} {r : (Int32 × rf_m)}, rec4 x0 x1 x2 m = some r → fr S_X14_readingsOf m r.2) {r : (Int32 × rf_m)} (h : g_X14_readingsOf_28 w rec4 a1 a3 s0 s1 m = some r) : fr S_X14_readingsOf m r.2 := by
  unfold g_X14_readingsOf_28 at h
  exact fr_trans ((fr_refl _ m)) (hr_rec4 h)
theorem fg_X14_readingsOf_4_b {w : rf_w} {rec4 : Int32 → Int32 → Int32 → rf_m → Option (Int32 × rf_m)} {a1 : Int32} {a2 : Int32} {a3 : Int32} {m : rf_m} (hr_rec4 : ∀ {x0 : Int32} {x1 : Int32} {x2 : Int32} {m : rf_m} {r : (Int32 × rf_m)}, rec4 x0 x1 x2 m = some r → fr S_X14_readingsOf m r.2) {r : (Int32 × rf_m)} (h : g_X14_readingsOf_4_b w rec4 a1 a2 a3 m = some r) : fr S_X14_readingsOf m r.2 := by
  unfold g_X14_readingsOf_4_b at h
  rcases rf_ite_some h with ⟨_, h⟩ | ⟨_, h⟩
  · obtain rfl := Option.some.inj h
    exact (fr_refl _ m)
  · obtain ⟨_, h⟩ := rf_g_some h
    rcases rf_ite_some h with ⟨_, h⟩ | ⟨_, h⟩
    · exact fr_trans ((fr_refl _ m)) (fr_mono (fg_X14_readingsOf_28 hr_rec4 h) (by decide))
    · exact fr_trans ((fr_refl _ m)) (fr_mono (fg_X14_readingsOf_28 hr_rec4 h) (by decide))
theorem fg_X14_readingsOf_4 {w : rf_w} (n : Nat) : ∀ {a1 : Int32} {a2 : Int32} {a3 : Int32} {m : rf_m} {r : (Int32 × rf_m)}, g_X14_readingsOf_4 w n a1 a2 a3 m = some r → fr S_X14_readingsOf m r.2 := by
  induction n with
  | zero => intro a1 a2 a3 m r h; cases h
  | succ n ih =>
    intro a1 a2 a3 m r h
    exact fg_X14_readingsOf_4_b ih h
theorem fg_X14_readingsOf {w : rf_w} {m : rf_m} {a1 : Int32} {r : (Int32 × rf_m)} (h : g_X14_readingsOf w m a1 = some r) : fr S_X14_readingsOf m r.2 := by
  unfold g_X14_readingsOf at h
  exact fr_trans ((fr_refl _ m)) (fr_mono (fg_X14_readingsOf_4 _ h) (by decide))
def S_X14_isStruckBy : fr_S := []
theorem fg_X14_isStruckBy_78 {w : rf_w} {rec20 : Int32 → Int32 → Int32 → Int32 → rf_m → Option (Int32 × rf_m)} {a1 : Int32} {a2 : Int32} {a3 : Int32} {a4 : Int32} {m : rf_m} (hr_rec20 : ∀ {x0 : Int32} {x1 : Int32} {x2 : Int32} {x3 : Int32} {m : rf_m} {r : (Int32 × rf_m)}, rec20 x0 x1 x2 x3 m = some r → fr S_X14_isStruckBy m r.2) {r : (Int32 × rf_m)} (h : g_X14_isStruckBy_78 w rec20 a1 a2 a3 a4 m = some r) : fr S_X14_isStruckBy m r.2 := by
  unfold g_X14_isStruckBy_78 at h
  exact fr_trans ((fr_refl _ m)) (hr_rec20 h)
theorem fg_X14_isStruckBy_77 {w : rf_w} {rec20 : Int32 → Int32 → Int32 → Int32 → rf_m → Option (Int32 × rf_m)} {a1 : Int32} {a2 : Int32} {a4 : Int32} {s0 : Int32} {m : rf_m} (hr_rec20 : ∀ {x0 : Int32} {x1 : Int32} {x2 : Int32} {x3 : Int32} {m : rf_m} {r : (Int32 × rf_m)}, rec20 x0 x1 x2 x3 m = some r → fr S_X14_isStruckBy m r.2) {r : (Int32 × rf_m)} (h : g_X14_isStruckBy_77 w rec20 a1 a2 a4 s0 m = some r) : fr S_X14_isStruckBy m r.2 := by
  unfold g_X14_isStruckBy_77 at h
  exact fr_trans ((fr_refl _ m)) (fr_mono (fg_X14_isStruckBy_78 hr_rec20 h) (by decide))
theorem fg_X14_isStruckBy_20_b {w : rf_w} {rec20 : Int32 → Int32 → Int32 → Int32 → rf_m → Option (Int32 × rf_m)} {a1 : Int32} {a2 : Int32} {a3 : Int32} {a4 : Int32} {m : rf_m} (hr_rec20 : ∀ {x0 : Int32} {x1 : Int32} {x2 : Int32} {x3 : Int32} {m : rf_m} {r : (Int32 × rf_m)}, rec20 x0 x1 x2 x3 m = some r → fr S_X14_isStruckBy m r.2) {r : (Int32 × rf_m)} (h : g_X14_isStruckBy_20_b w rec20 a1 a2 a3 a4 m = some r) : fr S_X14_isStruckBy m r.2 := by
  unfold g_X14_isStruckBy_20_b at h
  rcases rf_ite_some h with ⟨_, h⟩ | ⟨_, h⟩
  · obtain ⟨_, h⟩ := rf_g_some h
    obtain rfl := Option.some.inj h
    exact (fr_refl _ m)
  · obtain ⟨k0, _, h⟩ := rf_o_some h
    obtain ⟨k1, _, h⟩ := rf_o_some h
    obtain ⟨_, h⟩ := rf_g_some h
    rcases rf_ite_some h with ⟨_, h⟩ | ⟨_, h⟩
    · obtain ⟨k3, _, h⟩ := rf_o_some h
      obtain ⟨k4, _, h⟩ := rf_o_some h
      obtain ⟨_, h⟩ := rf_g_some h
      rcases rf_ite_some h with ⟨_, h⟩ | ⟨_, h⟩
      · exact fr_trans ((fr_refl _ m)) (fr_mono (fg_X14_isStruckBy_78 hr_rec20 h) (by decide))
      · obtain ⟨k6, _, h⟩ := rf_o_some h
        obtain ⟨k7, _, h⟩ := rf_o_some h
        obtain ⟨_, h⟩ := rf_g_some h
        rcases rf_ite_some h with ⟨_, h⟩ | ⟨_, h⟩
        · exact fr_trans ((fr_refl _ m)) (fr_mono (fg_X14_isStruckBy_77 hr_rec20 h) (by decide))
        · exact fr_trans ((fr_refl _ m)) (fr_mono (fg_X14_isStruckBy_77 hr_rec20 h) (by decide))
    · exact fr_trans ((fr_refl _ m)) (fr_mono (fg_X14_isStruckBy_78 hr_rec20 h) (by decide))
theorem fg_X14_isStruckBy_20 {w : rf_w} (n : Nat) : ∀ {a1 : Int32} {a2 : Int32} {a3 : Int32} {a4 : Int32} {m : rf_m} {r : (Int32 × rf_m)}, g_X14_isStruckBy_20 w n a1 a2 a3 a4 m = some r → fr S_X14_isStruckBy m r.2 := by
  induction n with
  | zero => intro a1 a2 a3 a4 m r h; cases h
  | succ n ih =>
    intro a1 a2 a3 a4 m r h
    exact fg_X14_isStruckBy_20_b ih h
theorem fg_X14_isStruckBy {w : rf_w} {m : rf_m} {a1 : Int32} {a2 : Int32} {r : (Int32 × rf_m)} (h : g_X14_isStruckBy w m a1 a2 = some r) : fr S_X14_isStruckBy m r.2 := by
  unfold g_X14_isStruckBy at h
  rcases rf_ite_some h with ⟨_, h⟩ | ⟨_, h⟩
  · exact fr_trans ((fr_refl _ m)) (fr_mono (fg_X14_isStruckBy_20 _ h) (by decide))
  · obtain ⟨_, h⟩ := rf_g_some h
    obtain ⟨_, h⟩ := rf_g_some h
    obtain rfl := Option.some.inj h
    exact (fr_refl _ m)
def S_X14_isInForce : fr_S := []
theorem fg_X14_isInForce {w : rf_w} {m : rf_m} {a1 : Int32} {a2 : Int32} {r : (Int32 × rf_m)} (h : g_X14_isInForce w m a1 a2 = some r) : fr S_X14_isInForce m r.2 := by
  unfold g_X14_isInForce at h
  obtain ⟨_, h⟩ := rf_g_some h
  obtain ⟨k1, _, h⟩ := rf_o_some h
  obtain ⟨_, h⟩ := rf_g_some h
  obtain ⟨_, h⟩ := rf_g_some h
  obtain ⟨_, h⟩ := rf_g_some h
  obtain ⟨_, h⟩ := rf_g_some h
  obtain ⟨_, h⟩ := rf_g_some h
  obtain ⟨_, h⟩ := rf_g_some h
  obtain ⟨k8, _, h⟩ := rf_o_some h
  obtain ⟨_, h⟩ := rf_g_some h
  obtain ⟨_, h⟩ := rf_g_some h
  obtain ⟨_, h⟩ := rf_g_some h
  obtain ⟨_, h⟩ := rf_g_some h
  obtain ⟨_, h⟩ := rf_g_some h
  obtain ⟨y14, m14, q1, h⟩ := rf_b_some h
  have e1 : fr S_X14_isInForce m m14 := fr_trans ((fr_refl _ m)) (fr_mono (fg_X14_in q1) (by decide))
  obtain ⟨_, h⟩ := rf_g_some h
  obtain rfl := Option.some.inj h
  exact e1
def S_maxL : fr_S := []
theorem fg_maxL {w : rf_w} {m : rf_m} {a0 : Int64} {a2 : Int64} {r : (Int64 × rf_m)} (h : g_maxL w m a0 a2 = some r) : fr S_maxL m r.2 := by
  unfold g_maxL at h
  rcases rf_ite_some h with ⟨_, h⟩ | ⟨_, h⟩
  · obtain rfl := Option.some.inj h
    exact (fr_refl _ m)
  · obtain rfl := Option.some.inj h
    exact (fr_refl _ m)
def S_X14_bound : fr_S := []
theorem fg_X14_bound {w : rf_w} {m : rf_m} {a0 : Int64} {r : (Int32 × rf_m)} (h : g_X14_bound w m a0 = some r) : fr S_X14_bound m r.2 := by
  unfold g_X14_bound at h
  obtain ⟨y0, m0, q1, h⟩ := rf_b_some h
  have e1 : fr S_X14_bound m m0 := fr_trans ((fr_refl _ m)) (fr_mono (fg_minL q1) (by decide))
  obtain ⟨y1, m1, q2, h⟩ := rf_b_some h
  have e2 : fr S_X14_bound m m1 := fr_trans e1 (fr_mono (fg_maxL q2) (by decide))
  obtain rfl := Option.some.inj h
  exact e2
def S_X14_valueOf : fr_S := [(235, 235, none)]
theorem fg_X14_valueOf_309 {w : rf_w} {rec6 : Nat → Int32 → Int32 → Int32 → rf_m → Option (Int32 × rf_m)} {a1 : Nat} {a3 : Int32} {a4 : Int32} {a5 : Int32} {m : rf_m} (hr_rec6 : ∀ {x0 : Nat} {x1 : Int32} {x2 : Int32} {x3 : Int32} {m : rf_m} {r : (Int32 × rf_m)}, rec6 x0 x1 x2 x3 m = some r → fr S_X14_valueOf m r.2) {r : (Int32 × rf_m)} (h : g_X14_valueOf_309 w rec6 a1 a3 a4 a5 m = some r) : fr S_X14_valueOf m r.2 := by
  unfold g_X14_valueOf_309 at h
  obtain ⟨_, h⟩ := rf_g_some h
  obtain ⟨_, h⟩ := rf_g_some h
  obtain ⟨_, h⟩ := rf_g_some h
  obtain ⟨_, h⟩ := rf_g_some h
  obtain ⟨_, h⟩ := rf_g_some h
  exact fr_trans ((fr_refl _ m)) (hr_rec6 h)
theorem fg_X14_valueOf_65 {w : rf_w} {rec6 : Nat → Int32 → Int32 → Int32 → rf_m → Option (Int32 × rf_m)} {a1 : Nat} {a3 : Int32} {a4 : Int32} {a5 : Int32} {s1 : Int32} {s2 : Int32} {m : rf_m} (hr_rec6 : ∀ {x0 : Nat} {x1 : Int32} {x2 : Int32} {x3 : Int32} {m : rf_m} {r : (Int32 × rf_m)}, rec6 x0 x1 x2 x3 m = some r → fr S_X14_valueOf m r.2) {r : (Int32 × rf_m)} (h : g_X14_valueOf_65 w rec6 a1 a3 a4 a5 s1 s2 m = some r) : fr S_X14_valueOf m r.2 := by
  unfold g_X14_valueOf_65 at h
  obtain ⟨_, h⟩ := rf_g_some h
  obtain ⟨_, h⟩ := rf_g_some h
  obtain ⟨_, h⟩ := rf_g_some h
  obtain ⟨_, h⟩ := rf_g_some h
  obtain ⟨_, h⟩ := rf_g_some h
  obtain ⟨_, h⟩ := rf_g_some h
  exact fr_trans (fr_i ((fr_refl _ m)) (fr_c_in (by decide) _)) (fr_mono (fg_X14_valueOf_309 hr_rec6 h) (by decide))
theorem fg_X14_valueOf_32 {w : rf_w} {rec6 : Nat → Int32 → Int32 → Int32 → rf_m → Option (Int32 × rf_m)} {a1 : Nat} {a3 : Int32} {a4 : Int32} {a5 : Int32} {a6 : Int32} {m : rf_m} (hr_rec6 : ∀ {x0 : Nat} {x1 : Int32} {x2 : Int32} {x3 : Int32} {m : rf_m} {r : (Int32 × rf_m)}, rec6 x0 x1 x2 x3 m = some r → fr S_X14_valueOf m r.2) {r : (Int32 × rf_m)} (h : g_X14_valueOf_32 w rec6 a1 a3 a4 a5 a6 m = some r) : fr S_X14_valueOf m r.2 := by
  unfold g_X14_valueOf_32 at h
  obtain ⟨_, h⟩ := rf_g_some h
  obtain ⟨_, h⟩ := rf_g_some h
  obtain ⟨_, h⟩ := rf_g_some h
  obtain ⟨_, h⟩ := rf_g_some h
  obtain ⟨_, h⟩ := rf_g_some h
  rcases rf_ite_some h with ⟨_, h⟩ | ⟨_, h⟩
  · obtain ⟨_, h⟩ := rf_g_some h
    exact fr_trans ((fr_refl _ m)) (fr_mono (fg_X14_valueOf_65 hr_rec6 h) (by decide))
  · obtain ⟨_, h⟩ := rf_g_some h
    obtain ⟨_, h⟩ := rf_g_some h
    exact fr_trans ((fr_refl _ m)) (fr_mono (fg_X14_valueOf_65 hr_rec6 h) (by decide))
theorem fg_X14_valueOf_308 {w : rf_w} {rec6 : Nat → Int32 → Int32 → Int32 → rf_m → Option (Int32 × rf_m)} {a1 : Nat} {a3 : Int32} {a4 : Int32} {a5 : Int32} {s1 : Int32} {s2 : Int32} {m : rf_m} (hr_rec6 : ∀ {x0 : Nat} {x1 : Int32} {x2 : Int32} {x3 : Int32} {m : rf_m} {r : (Int32 × rf_m)}, rec6 x0 x1 x2 x3 m = some r → fr S_X14_valueOf m r.2) {r : (Int32 × rf_m)} (h : g_X14_valueOf_308 w rec6 a1 a3 a4 a5 s1 s2 m = some r) : fr S_X14_valueOf m r.2 := by
  unfold g_X14_valueOf_308 at h
  obtain ⟨_, h⟩ := rf_g_some h
  obtain ⟨_, h⟩ := rf_g_some h
  obtain ⟨_, h⟩ := rf_g_some h
  obtain ⟨_, h⟩ := rf_g_some h
  obtain ⟨_, h⟩ := rf_g_some h
  obtain ⟨_, h⟩ := rf_g_some h
  exact fr_trans (fr_i ((fr_refl _ m)) (fr_c_in (by decide) _)) (fr_mono (fg_X14_valueOf_309 hr_rec6 h) (by decide))
theorem fg_X14_valueOf_237 {w : rf_w} {rec6 : Nat → Int32 → Int32 → Int32 → rf_m → Option (Int32 × rf_m)} {a1 : Nat} {a3 : Int32} {a4 : Int32} {a5 : Int32} {a6 : Int32} {a7 : Int64} {a9 : Int64} {s0 : Int32} {m : rf_m} (hr_rec6 : ∀ {x0 : Nat} {x1 : Int32} {x2 : Int32} {x3 : Int32} {m : rf_m} {r : (Int32 × rf_m)}, rec6 x0 x1 x2 x3 m = some r → fr S_X14_valueOf m r.2) {r : (Int32 × rf_m)} (h : g_X14_valueOf_237 w rec6 a1 a3 a4 a5 a6 a7 a9 s0 m = some r) : fr S_X14_valueOf m r.2 := by
  unfold g_X14_valueOf_237 at h
  obtain ⟨_, h⟩ := rf_g_some h
  obtain ⟨_, h⟩ := rf_g_some h
  obtain ⟨_, h⟩ := rf_g_some h
  obtain ⟨_, h⟩ := rf_g_some h
  obtain ⟨_, h⟩ := rf_g_some h
  rcases rf_ite_some h with ⟨_, h⟩ | ⟨_, h⟩
  · obtain ⟨y7, m7, q1, h⟩ := rf_b_some h
    have e1 : fr S_X14_valueOf m m7 := fr_trans ((fr_refl _ m)) (fr_mono (fg_X14_bound q1) (by decide))
    exact fr_trans e1 (fr_mono (fg_X14_valueOf_308 hr_rec6 h) (by decide))
  · rcases rf_ite_some h with ⟨_, h⟩ | ⟨_, h⟩
    · obtain ⟨y6, m6, q2, h⟩ := rf_b_some h
      have e2 : fr S_X14_valueOf m m6 := fr_trans ((fr_refl _ m)) (fr_mono (fg_X14_bound q2) (by decide))
      exact fr_trans e2 (fr_mono (fg_X14_valueOf_308 hr_rec6 h) (by decide))
    · rcases rf_ite_some h with ⟨_, h⟩ | ⟨_, h⟩
      · obtain ⟨y5, m5, q3, h⟩ := rf_b_some h
        have e3 : fr S_X14_valueOf m m5 := fr_trans ((fr_refl _ m)) (fr_mono (fg_X14_bound q3) (by decide))
        exact fr_trans e3 (fr_mono (fg_X14_valueOf_308 hr_rec6 h) (by decide))
      · rcases rf_ite_some h with ⟨_, h⟩ | ⟨_, h⟩
        · exact fr_trans ((fr_refl _ m)) (fr_mono (fg_X14_valueOf_308 hr_rec6 h) (by decide))
        · exact fr_trans ((fr_refl _ m)) (fr_mono (fg_X14_valueOf_308 hr_rec6 h) (by decide))
theorem fg_X14_valueOf_6_b {w : rf_w} {rec6 : Nat → Int32 → Int32 → Int32 → rf_m → Option (Int32 × rf_m)} {a1 : Nat} {a3 : Int32} {a4 : Int32} {a5 : Int32} {m : rf_m} (hr_rec6 : ∀ {x0 : Nat} {x1 : Int32} {x2 : Int32} {x3 : Int32} {m : rf_m} {r : (Int32 × rf_m)}, rec6 x0 x1 x2 x3 m = some r → fr S_X14_valueOf m r.2) {r : (Int32 × rf_m)} (h : g_X14_valueOf_6_b w rec6 a1 a3 a4 a5 m = some r) : fr S_X14_valueOf m r.2 := by
  unfold g_X14_valueOf_6_b at h
  obtain ⟨_, h⟩ := rf_g_some h
  obtain ⟨_, h⟩ := rf_g_some h
  obtain ⟨_, h⟩ := rf_g_some h
  obtain ⟨_, h⟩ := rf_g_some h
  obtain ⟨_, h⟩ := rf_g_some h
  rcases rf_ite_some h with ⟨_, h⟩ | ⟨_, h⟩
  · obtain rfl := Option.some.inj h
    exact (fr_refl _ m)
  · obtain ⟨_, h⟩ := rf_g_some h
    have h := fr_vi h
    rcases rf_ite_some h with ⟨_, h⟩ | ⟨_, h⟩
    · exact fr_trans ((fr_refl _ m)) (fr_mono (fg_X14_valueOf_32 hr_rec6 h) (by decide))
    · rcases rf_ite_some h with ⟨_, h⟩ | ⟨_, h⟩
      · exact fr_trans ((fr_refl _ m)) (fr_mono (fg_X14_valueOf_32 hr_rec6 h) (by decide))
      · rcases rf_ite_some h with ⟨_, h⟩ | ⟨_, h⟩
        · obtain ⟨_, h⟩ := rf_g_some h
          obtain ⟨_, h⟩ := rf_g_some h
          exact fr_trans (fr_i ((fr_refl _ m)) (fr_c_in (by decide) _)) (fr_mono (fg_X14_valueOf_309 hr_rec6 h) (by decide))
        · obtain ⟨_, h⟩ := rf_g_some h
          have h := fr_vl h
          obtain ⟨_, h⟩ := rf_g_some h
          have h := fr_vl h
          rcases rf_ite_some h with ⟨_, h⟩ | ⟨_, h⟩
          · rcases rf_ite_some h with ⟨_, h⟩ | ⟨_, h⟩
            · exact fr_trans ((fr_refl _ m)) (fr_mono (fg_X14_valueOf_237 hr_rec6 h) (by decide))
            · exact fr_trans ((fr_refl _ m)) (fr_mono (fg_X14_valueOf_237 hr_rec6 h) (by decide))
          · rcases rf_ite_some h with ⟨_, h⟩ | ⟨_, h⟩
            · rcases rf_ite_some h with ⟨_, h⟩ | ⟨_, h⟩
              · exact fr_trans ((fr_refl _ m)) (fr_mono (fg_X14_valueOf_237 hr_rec6 h) (by decide))
              · exact fr_trans ((fr_refl _ m)) (fr_mono (fg_X14_valueOf_237 hr_rec6 h) (by decide))
            · rcases rf_ite_some h with ⟨_, h⟩ | ⟨_, h⟩
              · rcases rf_ite_some h with ⟨_, h⟩ | ⟨_, h⟩
                · exact fr_trans ((fr_refl _ m)) (fr_mono (fg_X14_valueOf_237 hr_rec6 h) (by decide))
                · exact fr_trans ((fr_refl _ m)) (fr_mono (fg_X14_valueOf_237 hr_rec6 h) (by decide))
              · rcases rf_ite_some h with ⟨_, h⟩ | ⟨_, h⟩
                · rcases rf_ite_some h with ⟨_, h⟩ | ⟨_, h⟩
                  · exact fr_trans ((fr_refl _ m)) (fr_mono (fg_X14_valueOf_237 hr_rec6 h) (by decide))
                  · exact fr_trans ((fr_refl _ m)) (fr_mono (fg_X14_valueOf_237 hr_rec6 h) (by decide))
                · rcases rf_ite_some h with ⟨_, h⟩ | ⟨_, h⟩
                  · exact fr_trans ((fr_refl _ m)) (fr_mono (fg_X14_valueOf_237 hr_rec6 h) (by decide))
                  · exact fr_trans ((fr_refl _ m)) (fr_mono (fg_X14_valueOf_237 hr_rec6 h) (by decide))
theorem fg_X14_valueOf_6 {w : rf_w} (n : Nat) : ∀ {a1 : Nat} {a3 : Int32} {a4 : Int32} {a5 : Int32} {m : rf_m} {r : (Int32 × rf_m)}, g_X14_valueOf_6 w n a1 a3 a4 a5 m = some r → fr S_X14_valueOf m r.2 := by
  induction n with
  | zero => intro a1 a3 a4 a5 m r h; cases h
  | succ n ih =>
    intro a1 a3 a4 a5 m r h
    exact fg_X14_valueOf_6_b ih h
theorem fg_X14_valueOf {w : rf_w} {m : rf_m} {a1 : Nat} {a2 : Int32} {a3 : Int32} {r : (Int32 × rf_m)} (h : g_X14_valueOf w m a1 a2 a3 = some r) : fr S_X14_valueOf m r.2 := by
  unfold g_X14_valueOf at h
  obtain ⟨_, h⟩ := rf_g_some h
  obtain ⟨_, h⟩ := rf_g_some h
  obtain ⟨_, h⟩ := rf_g_some h
  obtain ⟨_, h⟩ := rf_g_some h
  obtain ⟨_, h⟩ := rf_g_some h
  exact fr_trans ((fr_refl _ m)) (fr_mono (fg_X14_valueOf_6 _ h) (by decide))
def S_X14_testOf : fr_S := [(235, 235, none)]
theorem fg_X14_testOf {w : rf_w} {m : rf_m} {a1 : Nat} {r : (Int32 × rf_m)} (h : g_X14_testOf w m a1 = some r) : fr S_X14_testOf m r.2 := by
  unfold g_X14_testOf at h
  obtain ⟨_, h⟩ := rf_g_some h
  obtain ⟨_, h⟩ := rf_g_some h
  obtain ⟨_, h⟩ := rf_g_some h
  obtain ⟨_, h⟩ := rf_g_some h
  obtain ⟨_, h⟩ := rf_g_some h
  rcases rf_ite_some h with ⟨_, h⟩ | ⟨_, h⟩
  · obtain rfl := Option.some.inj h
    exact (fr_refl _ m)
  · obtain ⟨y5, m5, q1, h⟩ := rf_b_some h
    have e1 : fr S_X14_testOf m m5 := fr_trans ((fr_refl _ m)) (fr_mono (fg_X14_valueOf q1) (by decide))
    rcases rf_ite_some h with ⟨_, h⟩ | ⟨_, h⟩
    · obtain rfl := Option.some.inj h
      exact e1
    · obtain rfl := Option.some.inj h
      exact e1
def S_X14_strikerOf : fr_S := [(228, 228, none), (235, 235, none)]
theorem fg_X14_strikerOf_144 {w : rf_w} {rec95 : Int32 → Int32 → rf_m → Option (Int32 × rf_m)} {a1 : Int32} {a2 : Int32} {m : rf_m} (hr_rec95 : ∀ {x0 : Int32} {x1 : Int32} {m : rf_m} {r : (Int32 × rf_m)}, rec95 x0 x1 m = some r → fr S_X14_strikerOf m r.2) {r : (Int32 × rf_m)} (h : g_X14_strikerOf_144 w rec95 a1 a2 m = some r) : fr S_X14_strikerOf m r.2 := by
  unfold g_X14_strikerOf_144 at h
  exact fr_trans ((fr_refl _ m)) (hr_rec95 h)
theorem fg_X14_strikerOf_95_b {w : rf_w} {rec95 : Int32 → Int32 → rf_m → Option (Int32 × rf_m)} {a1 : Int32} {a2 : Int32} {m : rf_m} (hr_rec95 : ∀ {x0 : Int32} {x1 : Int32} {m : rf_m} {r : (Int32 × rf_m)}, rec95 x0 x1 m = some r → fr S_X14_strikerOf m r.2) {r : (Int32 × rf_m)} (h : g_X14_strikerOf_95_b w rec95 a1 a2 m = some r) : fr S_X14_strikerOf m r.2 := by
  unfold g_X14_strikerOf_95_b at h
  rcases rf_ite_some h with ⟨_, h⟩ | ⟨_, h⟩
  · obtain rfl := Option.some.inj h
    exact (fr_refl _ m)
  · obtain ⟨_, h⟩ := rf_g_some h
    obtain ⟨k1, _, h⟩ := rf_o_some h
    obtain ⟨_, h⟩ := rf_g_some h
    obtain ⟨_, h⟩ := rf_g_some h
    obtain ⟨_, h⟩ := rf_g_some h
    obtain ⟨_, h⟩ := rf_g_some h
    obtain ⟨_, h⟩ := rf_g_some h
    rcases rf_ite_some h with ⟨_, h⟩ | ⟨_, h⟩
    · obtain ⟨_, h⟩ := rf_g_some h
      obtain ⟨y8, m8, q1, h⟩ := rf_b_some h
      have e1 : fr S_X14_strikerOf m m8 := fr_trans ((fr_refl _ m)) (fr_mono (fg_X14_isInForce q1) (by decide))
      rcases rf_ite_some h with ⟨_, h⟩ | ⟨_, h⟩
      · exact fr_trans e1 (fr_mono (fg_X14_strikerOf_144 hr_rec95 h) (by decide))
      · obtain ⟨_, h⟩ := rf_g_some h
        obtain ⟨k10, _, h⟩ := rf_o_some h
        obtain ⟨_, h⟩ := rf_g_some h
        obtain ⟨_, h⟩ := rf_g_some h
        obtain ⟨_, h⟩ := rf_g_some h
        obtain ⟨_, h⟩ := rf_g_some h
        obtain ⟨_, h⟩ := rf_g_some h
        obtain ⟨y16, m16, q2, h⟩ := rf_b_some h
        have e2 : fr S_X14_strikerOf m m16 := fr_trans e1 (fr_mono (fg_X14_testOf q2) (by decide))
        rcases rf_ite_some h with ⟨_, h⟩ | ⟨_, h⟩
        · exact fr_trans e2 (fr_mono (fg_X14_strikerOf_144 hr_rec95 h) (by decide))
        · obtain rfl := Option.some.inj h
          exact e2
    · exact fr_trans ((fr_refl _ m)) (fr_mono (fg_X14_strikerOf_144 hr_rec95 h) (by decide))
theorem fg_X14_strikerOf_95 {w : rf_w} (n : Nat) : ∀ {a1 : Int32} {a2 : Int32} {m : rf_m} {r : (Int32 × rf_m)}, g_X14_strikerOf_95 w n a1 a2 m = some r → fr S_X14_strikerOf m r.2 := by
  induction n with
  | zero => intro a1 a2 m r h; cases h
  | succ n ih =>
    intro a1 a2 m r h
    exact fg_X14_strikerOf_95_b ih h
theorem fg_X14_strikerOf_2_b {w : rf_w} {rec2 : Int32 → Int32 → rf_m → Option (Int32 × rf_m)} {a1 : Int32} {a2 : Int32} {m : rf_m} (hr_rec2 : ∀ {x0 : Int32} {x1 : Int32} {m : rf_m} {r : (Int32 × rf_m)}, rec2 x0 x1 m = some r → fr S_X14_strikerOf m r.2) {r : (Int32 × rf_m)} (h : g_X14_strikerOf_2_b w rec2 a1 a2 m = some r) : fr S_X14_strikerOf m r.2 := by
  unfold g_X14_strikerOf_2_b at h
  rcases rf_ite_some h with ⟨_, h⟩ | ⟨_, h⟩
  · obtain ⟨_, h⟩ := rf_g_some h
    obtain ⟨y1, m1, q1, h⟩ := rf_b_some h
    have e1 : fr S_X14_strikerOf m m1 := fr_trans ((fr_refl _ m)) (fr_mono (fg_abs q1) (by decide))
    obtain ⟨_, h⟩ := rf_g_some h
    obtain ⟨_, h⟩ := rf_g_some h
    obtain ⟨_, h⟩ := rf_g_some h
    obtain ⟨_, h⟩ := rf_g_some h
    exact fr_trans (fr_i (fr_i (fr_i (fr_i (fr_i e1 (fr_c_in (by decide) _)) (fr_c_in (by decide) _)) (fr_c_in (by decide) _)) (fr_c_in (by decide) _)) (fr_c_in (by decide) _)) (fr_mono (fg_X14_strikerOf_95 _ h) (by decide))
  · obtain ⟨_, h⟩ := rf_g_some h
    exact fr_trans (fr_i ((fr_refl _ m)) (fr_c_in (by decide) _)) (hr_rec2 h)
theorem fg_X14_strikerOf_2 {w : rf_w} (n : Nat) : ∀ {a1 : Int32} {a2 : Int32} {m : rf_m} {r : (Int32 × rf_m)}, g_X14_strikerOf_2 w n a1 a2 m = some r → fr S_X14_strikerOf m r.2 := by
  induction n with
  | zero => intro a1 a2 m r h; cases h
  | succ n ih =>
    intro a1 a2 m r h
    exact fg_X14_strikerOf_2_b ih h
theorem fg_X14_strikerOf {w : rf_w} {m : rf_m} {a1 : Int32} {r : (Int32 × rf_m)} (h : g_X14_strikerOf w m a1 = some r) : fr S_X14_strikerOf m r.2 := by
  unfold g_X14_strikerOf at h
  exact fr_trans ((fr_refl _ m)) (fr_mono (fg_X14_strikerOf_2 _ h) (by decide))
def S_X14_goes : fr_S := [(206, 206, some 33), (206, 206, some 34), (206, 206, some 35), (206, 206, some 36), (206, 206, some 37), (206, 206, some 38), (226, 226, none), (227, 227, none), (228, 228, none), (235, 235, none)]
theorem fg_X14_goes_337 {w : rf_w} {rec168 : Int32 → Int32 → Int64 → Int32 → rf_m → Option (rf_m)} {a1 : Int32} {a2 : Int32} {a3 : Int64} {a5 : Int32} {m : rf_m} (hr_rec168 : ∀ {x0 : Int32} {x1 : Int32} {x2 : Int64} {x3 : Int32} {m : rf_m} {r : (rf_m)}, rec168 x0 x1 x2 x3 m = some r → fr S_X14_goes m r) {r : (rf_m)} (h : g_X14_goes_337 w rec168 a1 a2 a3 a5 m = some r) : fr S_X14_goes m r := by
  unfold g_X14_goes_337 at h
  exact fr_trans ((fr_refl _ m)) (hr_rec168 h)
theorem fg_X14_goes_302 {w : rf_w} {rec168 : Int32 → Int32 → Int64 → Int32 → rf_m → Option (rf_m)} {a1 : Int32} {a2 : Int32} {a3 : Int64} {a5 : Int32} {s1 : Int32} {m : rf_m} (hr_rec168 : ∀ {x0 : Int32} {x1 : Int32} {x2 : Int64} {x3 : Int32} {m : rf_m} {r : (rf_m)}, rec168 x0 x1 x2 x3 m = some r → fr S_X14_goes m r) {r : (rf_m)} (h : g_X14_goes_302 w rec168 a1 a2 a3 a5 s1 m = some r) : fr S_X14_goes m r := by
  unfold g_X14_goes_302 at h
  obtain ⟨_, h⟩ := rf_g_some h
  obtain ⟨_, h⟩ := rf_g_some h
  have h := fr_vl h
  exact fr_trans (fr_i (fr_i (fr_i ((fr_refl _ m)) (by decide)) (fr_c_in (by decide) _)) (by decide)) (fr_mono (fg_X14_goes_337 hr_rec168 h) (by decide))
theorem fg_X14_goes_267 {w : rf_w} {rec168 : Int32 → Int32 → Int64 → Int32 → rf_m → Option (rf_m)} {a1 : Int32} {a2 : Int32} {a3 : Int64} {a5 : Int32} {s1 : Int32} {m : rf_m} (hr_rec168 : ∀ {x0 : Int32} {x1 : Int32} {x2 : Int64} {x3 : Int32} {m : rf_m} {r : (rf_m)}, rec168 x0 x1 x2 x3 m = some r → fr S_X14_goes m r) {r : (rf_m)} (h : g_X14_goes_267 w rec168 a1 a2 a3 a5 s1 m = some r) : fr S_X14_goes m r := by
  unfold g_X14_goes_267 at h
  rcases rf_ite_some h with ⟨_, h⟩ | ⟨_, h⟩
  · obtain ⟨_, h⟩ := rf_g_some h
    exact fr_trans (fr_i ((fr_refl _ m)) (by decide)) (fr_mono (fg_X14_goes_302 hr_rec168 h) (by decide))
  · obtain ⟨_, h⟩ := rf_g_some h
    obtain ⟨y1, m1, q1, h⟩ := rf_b_some h
    have e1 : fr S_X14_goes m m1 := fr_trans (fr_i ((fr_refl _ m)) (by decide)) (fr_mono (fg_max q1) (by decide))
    exact fr_trans e1 (fr_mono (fg_X14_goes_302 hr_rec168 h) (by decide))
theorem fg_X14_goes_168_b {w : rf_w} {rec168 : Int32 → Int32 → Int64 → Int32 → rf_m → Option (rf_m)} {a1 : Int32} {a2 : Int32} {a3 : Int64} {a5 : Int32} {m : rf_m} (hr_rec168 : ∀ {x0 : Int32} {x1 : Int32} {x2 : Int64} {x3 : Int32} {m : rf_m} {r : (rf_m)}, rec168 x0 x1 x2 x3 m = some r → fr S_X14_goes m r) {r : (rf_m)} (h : g_X14_goes_168_b w rec168 a1 a2 a3 a5 m = some r) : fr S_X14_goes m r := by
  unfold g_X14_goes_168_b at h
  rcases rf_ite_some h with ⟨_, h⟩ | ⟨_, h⟩
  · rcases rf_ite_some h with ⟨_, h⟩ | ⟨_, h⟩
    · rcases rf_ite_some h with ⟨_, h⟩ | ⟨_, h⟩
      · obtain rfl := Option.some.inj h
        exact fr_i (fr_i (fr_i ((fr_refl _ m)) (by decide)) (by decide)) (by decide)
      · obtain rfl := Option.some.inj h
        exact fr_i ((fr_refl _ m)) (by decide)
    · obtain ⟨_, h⟩ := rf_g_some h
      rcases rf_ite_some h with ⟨_, h⟩ | ⟨_, h⟩
      · obtain rfl := Option.some.inj h
        exact fr_i (fr_i (fr_i ((fr_refl _ m)) (by decide)) (by decide)) (by decide)
      · obtain rfl := Option.some.inj h
        exact fr_i ((fr_refl _ m)) (by decide)
  · obtain ⟨_, h⟩ := rf_g_some h
    rcases rf_ite_some h with ⟨_, h⟩ | ⟨_, h⟩
    · obtain ⟨_, h⟩ := rf_g_some h
      rcases rf_ite_some h with ⟨_, h⟩ | ⟨_, h⟩
      · exact fr_trans ((fr_refl _ m)) (fr_mono (fg_X14_goes_337 hr_rec168 h) (by decide))
      · obtain ⟨_, h⟩ := rf_g_some h
        rcases rf_ite_some h with ⟨_, h⟩ | ⟨_, h⟩
        · exact fr_trans ((fr_refl _ m)) (fr_mono (fg_X14_goes_337 hr_rec168 h) (by decide))
        · obtain ⟨y4, m4, q1, h⟩ := rf_b_some h
          have e1 : fr S_X14_goes m m4 := fr_trans ((fr_refl _ m)) (fr_mono (fg_X14_isStruckBy q1) (by decide))
          rcases rf_ite_some h with ⟨_, h⟩ | ⟨_, h⟩
          · obtain ⟨y5, m5, q2, h⟩ := rf_b_some h
            have e2 : fr S_X14_goes m m5 := fr_trans e1 (fr_mono (fg_X14_strikerOf q2) (by decide))
            rcases rf_ite_some h with ⟨_, h⟩ | ⟨_, h⟩
            · rcases rf_ite_some h with ⟨_, h⟩ | ⟨_, h⟩
              · obtain ⟨_, h⟩ := rf_g_some h
                exact fr_trans e2 (fr_mono (fg_X14_goes_267 hr_rec168 h) (by decide))
              · obtain ⟨_, h⟩ := rf_g_some h
                obtain ⟨y7, m7, q3, h⟩ := rf_b_some h
                have e3 : fr S_X14_goes m m7 := fr_trans e2 (fr_mono (fg_min q3) (by decide))
                exact fr_trans e3 (fr_mono (fg_X14_goes_267 hr_rec168 h) (by decide))
            · exact fr_trans e2 (fr_mono (fg_X14_goes_337 hr_rec168 h) (by decide))
          · exact fr_trans e1 (fr_mono (fg_X14_goes_337 hr_rec168 h) (by decide))
    · exact fr_trans ((fr_refl _ m)) (fr_mono (fg_X14_goes_337 hr_rec168 h) (by decide))
theorem fg_X14_goes_168 {w : rf_w} (n : Nat) : ∀ {a1 : Int32} {a2 : Int32} {a3 : Int64} {a5 : Int32} {m : rf_m} {r : (rf_m)}, g_X14_goes_168 w n a1 a2 a3 a5 m = some r → fr S_X14_goes m r := by
  induction n with
  | zero => intro a1 a2 a3 a5 m r h; cases h
  | succ n ih =>
    intro a1 a2 a3 a5 m r h
    exact fg_X14_goes_168_b ih h
theorem fg_X14_goes_155 {w : rf_w} {a1 : Int32} {a2 : Int32} {s1 : Int32} {m : rf_m} {r : (rf_m)} (h : g_X14_goes_155 w a1 a2 s1 m = some r) : fr S_X14_goes m r := by
  unfold g_X14_goes_155 at h
  exact fr_trans (fr_i (fr_i ((fr_refl _ m)) (by decide)) (by decide)) (fr_mono (fg_X14_goes_168 _ h) (by decide))
theorem fg_X14_goes_123 {w : rf_w} {rec7 : Int32 → Int32 → Int32 → rf_m → Option (rf_m)} {a1 : Int32} {a2 : Int32} {a3 : Int32} {m : rf_m} (hr_rec7 : ∀ {x0 : Int32} {x1 : Int32} {x2 : Int32} {m : rf_m} {r : (rf_m)}, rec7 x0 x1 x2 m = some r → fr S_X14_goes m r) {r : (rf_m)} (h : g_X14_goes_123 w rec7 a1 a2 a3 m = some r) : fr S_X14_goes m r := by
  unfold g_X14_goes_123 at h
  exact fr_trans ((fr_refl _ m)) (hr_rec7 h)
theorem fg_X14_goes_100 {w : rf_w} {rec7 : Int32 → Int32 → Int32 → rf_m → Option (rf_m)} {a1 : Int32} {a2 : Int32} {a3 : Int32} {a4 : Int32} {m : rf_m} (hr_rec7 : ∀ {x0 : Int32} {x1 : Int32} {x2 : Int32} {m : rf_m} {r : (rf_m)}, rec7 x0 x1 x2 m = some r → fr S_X14_goes m r) {r : (rf_m)} (h : g_X14_goes_100 w rec7 a1 a2 a3 a4 m = some r) : fr S_X14_goes m r := by
  unfold g_X14_goes_100 at h
  obtain ⟨_, h⟩ := rf_g_some h
  obtain ⟨_, h⟩ := rf_g_some h
  exact fr_trans (fr_i (fr_i ((fr_refl _ m)) (fr_c_in (by decide) _)) (by decide)) (fr_mono (fg_X14_goes_123 hr_rec7 h) (by decide))
theorem fg_X14_goes_55_b {w : rf_w} {rec7 : Int32 → Int32 → Int32 → rf_m → Option (rf_m)} {rec55 : Int32 → Int32 → Int32 → Int32 → rf_m → Option (rf_m)} {a1 : Int32} {a2 : Int32} {a3 : Int32} {a4 : Int32} {m : rf_m} (hr_rec7 : ∀ {x0 : Int32} {x1 : Int32} {x2 : Int32} {m : rf_m} {r : (rf_m)}, rec7 x0 x1 x2 m = some r → fr S_X14_goes m r) (hr_rec55 : ∀ {x0 : Int32} {x1 : Int32} {x2 : Int32} {x3 : Int32} {m : rf_m} {r : (rf_m)}, rec55 x0 x1 x2 x3 m = some r → fr S_X14_goes m r) {r : (rf_m)} (h : g_X14_goes_55_b w rec7 rec55 a1 a2 a3 a4 m = some r) : fr S_X14_goes m r := by
  unfold g_X14_goes_55_b at h
  rcases rf_ite_some h with ⟨_, h⟩ | ⟨_, h⟩
  · exact fr_trans ((fr_refl _ m)) (fr_mono (fg_X14_goes_100 hr_rec7 h) (by decide))
  · obtain ⟨_, h⟩ := rf_g_some h
    obtain ⟨_, h⟩ := rf_g_some h
    rcases rf_ite_some h with ⟨_, h⟩ | ⟨_, h⟩
    · exact fr_trans ((fr_refl _ m)) (fr_mono (fg_X14_goes_100 hr_rec7 h) (by decide))
    · obtain ⟨_, h⟩ := rf_g_some h
      obtain ⟨_, h⟩ := rf_g_some h
      exact fr_trans (fr_i ((fr_refl _ m)) (fr_c_in (by decide) _)) (hr_rec55 h)
theorem fg_X14_goes_55 {w : rf_w} {rec7 : Int32 → Int32 → Int32 → rf_m → Option (rf_m)} (hr_rec7 : ∀ {x0 : Int32} {x1 : Int32} {x2 : Int32} {m : rf_m} {r : (rf_m)}, rec7 x0 x1 x2 m = some r → fr S_X14_goes m r) (n : Nat) : ∀ {a1 : Int32} {a2 : Int32} {a3 : Int32} {a4 : Int32} {m : rf_m} {r : (rf_m)}, g_X14_goes_55 w rec7 n a1 a2 a3 a4 m = some r → fr S_X14_goes m r := by
  induction n with
  | zero => intro a1 a2 a3 a4 m r h; cases h
  | succ n ih =>
    intro a1 a2 a3 a4 m r h
    exact fg_X14_goes_55_b hr_rec7 ih h
theorem fg_X14_goes_7_b {w : rf_w} {rec7 : Int32 → Int32 → Int32 → rf_m → Option (rf_m)} {a1 : Int32} {a2 : Int32} {a3 : Int32} {m : rf_m} (hr_rec7 : ∀ {x0 : Int32} {x1 : Int32} {x2 : Int32} {m : rf_m} {r : (rf_m)}, rec7 x0 x1 x2 m = some r → fr S_X14_goes m r) {r : (rf_m)} (h : g_X14_goes_7_b w rec7 a1 a2 a3 m = some r) : fr S_X14_goes m r := by
  unfold g_X14_goes_7_b at h
  rcases rf_ite_some h with ⟨_, h⟩ | ⟨_, h⟩
  · rcases rf_ite_some h with ⟨_, h⟩ | ⟨_, h⟩
    · exact fr_trans ((fr_refl _ m)) (fr_mono (fg_X14_goes_155 h) (by decide))
    · obtain ⟨_, h⟩ := rf_g_some h
      exact fr_trans ((fr_refl _ m)) (fr_mono (fg_X14_goes_155 h) (by decide))
  · obtain ⟨_, h⟩ := rf_g_some h
    rcases rf_ite_some h with ⟨_, h⟩ | ⟨_, h⟩
    · obtain ⟨_, h⟩ := rf_g_some h
      rcases rf_ite_some h with ⟨_, h⟩ | ⟨_, h⟩
      · exact fr_trans ((fr_refl _ m)) (fr_mono (fg_X14_goes_123 hr_rec7 h) (by decide))
      · obtain ⟨_, h⟩ := rf_g_some h
        rcases rf_ite_some h with ⟨_, h⟩ | ⟨_, h⟩
        · exact fr_trans ((fr_refl _ m)) (fr_mono (fg_X14_goes_55 hr_rec7 _ h) (by decide))
        · exact fr_trans ((fr_refl _ m)) (fr_mono (fg_X14_goes_123 hr_rec7 h) (by decide))
    · exact fr_trans ((fr_refl _ m)) (fr_mono (fg_X14_goes_123 hr_rec7 h) (by decide))
theorem fg_X14_goes_7 {w : rf_w} (n : Nat) : ∀ {a1 : Int32} {a2 : Int32} {a3 : Int32} {m : rf_m} {r : (rf_m)}, g_X14_goes_7 w n a1 a2 a3 m = some r → fr S_X14_goes m r := by
  induction n with
  | zero => intro a1 a2 a3 m r h; cases h
  | succ n ih =>
    intro a1 a2 a3 m r h
    exact fg_X14_goes_7_b ih h
theorem fg_X14_goes {w : rf_w} {m : rf_m} {a1 : Int32} {a2 : Int32} {r : (rf_m)} (h : g_X14_goes w m a1 a2 = some r) : fr S_X14_goes m r := by
  unfold g_X14_goes at h
  exact fr_trans (fr_i ((fr_refl _ m)) (by decide)) (fr_mono (fg_X14_goes_7 _ h) (by decide))
def S_X14_now : fr_S := [(206, 206, some 33), (206, 206, some 34), (206, 206, some 35), (206, 206, some 36), (206, 206, some 37), (206, 206, some 38), (226, 226, none), (227, 227, none), (228, 228, none), (235, 235, none)]
theorem fg_X14_now {w : rf_w} {m : rf_m} {a1 : Int32} {r : (rf_m)} (h : g_X14_now w m a1 = some r) : fr S_X14_now m r := by
  unfold g_X14_now at h
  obtain ⟨m0, q1, h⟩ := rf_bv_some h
  have e1 : fr S_X14_now m m0 := fr_trans ((fr_refl _ m)) (fr_mono (fg_X14_goes q1) (by decide))
  obtain rfl := Option.some.inj h
  exact e1
def S_X14_meanOf : fr_S := [(206, 206, some 33), (206, 206, some 34), (206, 206, some 35), (206, 206, some 36), (206, 206, some 37), (206, 206, some 38), (226, 226, none), (227, 227, none), (228, 228, none), (235, 235, none)]
theorem fg_X14_meanOf {w : rf_w} {m : rf_m} {a1 : Int32} {r : (Int32 × rf_m)} (h : g_X14_meanOf w m a1 = some r) : fr S_X14_meanOf m r.2 := by
  unfold g_X14_meanOf at h
  obtain ⟨m0, q1, h⟩ := rf_bv_some h
  have e1 : fr S_X14_meanOf m m0 := fr_trans ((fr_refl _ m)) (fr_mono (fg_X14_now q1) (by decide))
  obtain rfl := Option.some.inj h
  exact e1
def S_X14_reading : fr_S := [(206, 206, some 0), (206, 206, some 33), (206, 206, some 34), (206, 206, some 35), (206, 206, some 36), (206, 206, some 37), (206, 206, some 38), (226, 226, none), (227, 227, none), (228, 228, none), (235, 235, none)]
theorem fg_X14_reading_56 {w : rf_w} {a1 : Int32} {a2 : Int32} {a3 : Int32} {s0 : Int32} {m : rf_m} {r : (Int32 × rf_m)} (h : g_X14_reading_56 w a1 a2 a3 s0 m = some r) : fr S_X14_reading m r.2 := by
  unfold g_X14_reading_56 at h
  rcases rf_ite_some h with ⟨_, h⟩ | ⟨_, h⟩
  · obtain ⟨_, h⟩ := rf_g_some h
    obtain rfl := Option.some.inj h
    exact (fr_refl _ m)
  · rcases rf_ite_some h with ⟨_, h⟩ | ⟨_, h⟩
    · obtain ⟨_, h⟩ := rf_g_some h
      obtain rfl := Option.some.inj h
      exact (fr_refl _ m)
    · rcases rf_ite_some h with ⟨_, h⟩ | ⟨_, h⟩
      · obtain ⟨_, h⟩ := rf_g_some h
        obtain rfl := Option.some.inj h
        exact (fr_refl _ m)
      · rcases rf_ite_some h with ⟨_, h⟩ | ⟨_, h⟩
        · obtain ⟨_, h⟩ := rf_g_some h
          obtain rfl := Option.some.inj h
          exact (fr_refl _ m)
        · rcases rf_ite_some h with ⟨_, h⟩ | ⟨_, h⟩
          · obtain ⟨_, h⟩ := rf_g_some h
            obtain rfl := Option.some.inj h
            exact (fr_refl _ m)
          · rcases rf_ite_some h with ⟨_, h⟩ | ⟨_, h⟩
            · obtain ⟨_, h⟩ := rf_g_some h
              rcases rf_ite_some h with ⟨_, h⟩ | ⟨_, h⟩
              · obtain rfl := Option.some.inj h
                exact (fr_refl _ m)
              · obtain rfl := Option.some.inj h
                exact (fr_refl _ m)
            · rcases rf_ite_some h with ⟨_, h⟩ | ⟨_, h⟩
              · obtain rfl := Option.some.inj h
                exact (fr_refl _ m)
              · rcases rf_ite_some h with ⟨_, h⟩ | ⟨_, h⟩
                · rcases rf_ite_some h with ⟨_, h⟩ | ⟨_, h⟩
                  · obtain rfl := Option.some.inj h
                    exact (fr_refl _ m)
                  · obtain ⟨_, h⟩ := rf_g_some h
                    rcases rf_ite_some h with ⟨_, h⟩ | ⟨_, h⟩
                    · rcases rf_ite_some h with ⟨_, h⟩ | ⟨_, h⟩
                      · obtain rfl := Option.some.inj h
                        exact (fr_refl _ m)
                      · obtain rfl := Option.some.inj h
                        exact (fr_refl _ m)
                    · obtain rfl := Option.some.inj h
                      exact (fr_refl _ m)
                · rcases rf_ite_some h with ⟨_, h⟩ | ⟨_, h⟩
                  · rcases rf_ite_some h with ⟨_, h⟩ | ⟨_, h⟩
                    · obtain rfl := Option.some.inj h
                      exact (fr_refl _ m)
                    · obtain ⟨_, h⟩ := rf_g_some h
                      obtain ⟨y8, m8, q1, h⟩ := rf_b_some h
                      have e1 : fr S_X14_reading m m8 := fr_trans ((fr_refl _ m)) (fr_mono (fg_abs q1) (by decide))
                      obtain rfl := Option.some.inj h
                      exact e1
                  · obtain rfl := Option.some.inj h
                    exact (fr_refl _ m)
theorem fg_X14_reading_41 {w : rf_w} {a1 : Int32} {a2 : Int32} {s0 : Int32} {m : rf_m} {r : (Int32 × rf_m)} (h : g_X14_reading_41 w a1 a2 s0 m = some r) : fr S_X14_reading m r.2 := by
  unfold g_X14_reading_41 at h
  rcases rf_ite_some h with ⟨_, h⟩ | ⟨_, h⟩
  · exact fr_trans ((fr_refl _ m)) (fr_mono (fg_X14_reading_56 h) (by decide))
  · obtain ⟨y0, m0, q1, h⟩ := rf_b_some h
    have e1 : fr S_X14_reading m m0 := fr_trans ((fr_refl _ m)) (fr_mono (fg_X14_strikerOf q1) (by decide))
    exact fr_trans e1 (fr_mono (fg_X14_reading_56 h) (by decide))
theorem fg_X14_reading {w : rf_w} {m : rf_m} {a1 : Int32} {a2 : Int32} {r : (Int32 × rf_m)} (h : g_X14_reading w m a1 a2 = some r) : fr S_X14_reading m r.2 := by
  unfold g_X14_reading at h
  obtain ⟨y0, m0, q1, h⟩ := rf_b_some h
  have e1 : fr S_X14_reading m m0 := fr_trans (fr_i ((fr_refl _ m)) (by decide)) (fr_mono (fg_X14_isReading q1) (by decide))
  rcases rf_ite_some h with ⟨_, h⟩ | ⟨_, h⟩
  · obtain rfl := Option.some.inj h
    exact e1
  · obtain ⟨_, h⟩ := rf_g_some h
    obtain ⟨m2, q2, h⟩ := rf_bv_some h
    have e2 : fr S_X14_reading m m2 := fr_trans e1 (fr_mono (fg_X14_now q2) (by decide))
    obtain ⟨_, h⟩ := rf_g_some h
    rcases rf_ite_some h with ⟨_, h⟩ | ⟨_, h⟩
    · exact fr_trans e2 (fr_mono (fg_X14_reading_41 h) (by decide))
    · exact fr_trans e2 (fr_mono (fg_X14_reading_41 h) (by decide))
def S_X14_namesOf : fr_S := [(228, 228, none)]
theorem fg_X14_namesOf_56 {w : rf_w} {a1 : Int32} {s1 : Int32} {s2 : Int32} {m : rf_m} {r : (rf_m)} (h : g_X14_namesOf_56 w a1 s1 s2 m = some r) : fr S_X14_namesOf m r := by
  unfold g_X14_namesOf_56 at h
  obtain ⟨_, h⟩ := rf_g_some h
  obtain ⟨_, h⟩ := rf_g_some h
  obtain rfl := Option.some.inj h
  exact fr_i (fr_i (fr_i ((fr_refl _ m)) (fr_c_in (by decide) _)) (fr_c_in (by decide) _)) (fr_c_in (by decide) _)
theorem fg_X14_namesOf_2_b {w : rf_w} {rec2 : Int32 → Int32 → rf_m → Option (rf_m)} {a1 : Int32} {a2 : Int32} {m : rf_m} (hr_rec2 : ∀ {x0 : Int32} {x1 : Int32} {m : rf_m} {r : (rf_m)}, rec2 x0 x1 m = some r → fr S_X14_namesOf m r) {r : (rf_m)} (h : g_X14_namesOf_2_b w rec2 a1 a2 m = some r) : fr S_X14_namesOf m r := by
  unfold g_X14_namesOf_2_b at h
  rcases rf_ite_some h with ⟨_, h⟩ | ⟨_, h⟩
  · rcases rf_ite_some h with ⟨_, h⟩ | ⟨_, h⟩
    · exact fr_trans (fr_i ((fr_refl _ m)) (fr_c_in (by decide) _)) (fr_mono (fg_X14_namesOf_56 h) (by decide))
    · exact fr_trans (fr_i ((fr_refl _ m)) (fr_c_in (by decide) _)) (fr_mono (fg_X14_namesOf_56 h) (by decide))
  · obtain ⟨_, h⟩ := rf_g_some h
    exact fr_trans (fr_i ((fr_refl _ m)) (fr_c_in (by decide) _)) (hr_rec2 h)
theorem fg_X14_namesOf_2 {w : rf_w} (n : Nat) : ∀ {a1 : Int32} {a2 : Int32} {m : rf_m} {r : (rf_m)}, g_X14_namesOf_2 w n a1 a2 m = some r → fr S_X14_namesOf m r := by
  induction n with
  | zero => intro a1 a2 m r h; cases h
  | succ n ih =>
    intro a1 a2 m r h
    exact fg_X14_namesOf_2_b ih h
theorem fg_X14_namesOf {w : rf_w} {m : rf_m} {a1 : Int32} {r : (rf_m)} (h : g_X14_namesOf w m a1 = some r) : fr S_X14_namesOf m r := by
  unfold g_X14_namesOf at h
  exact fr_trans ((fr_refl _ m)) (fr_mono (fg_X14_namesOf_2 _ h) (by decide))
def S_X14_sumOf : fr_S := [(235, 235, none)]
theorem fg_X14_sumOf {w : rf_w} {m : rf_m} {a1 : Nat} {r : (Int32 × rf_m)} (h : g_X14_sumOf w m a1 = some r) : fr S_X14_sumOf m r.2 := by
  unfold g_X14_sumOf at h
  obtain ⟨_, h⟩ := rf_g_some h
  obtain ⟨_, h⟩ := rf_g_some h
  obtain ⟨_, h⟩ := rf_g_some h
  obtain ⟨_, h⟩ := rf_g_some h
  obtain ⟨_, h⟩ := rf_g_some h
  obtain ⟨y5, m5, q1, h⟩ := rf_b_some h
  have e1 : fr S_X14_sumOf m m5 := fr_trans ((fr_refl _ m)) (fr_mono (fg_X14_valueOf q1) (by decide))
  obtain rfl := Option.some.inj h
  exact e1
def S_X14_weightOf : fr_S := [(206, 206, some 33), (206, 206, some 34), (206, 206, some 35), (206, 206, some 36), (206, 206, some 37), (206, 206, some 38), (226, 226, none), (227, 227, none), (228, 228, none), (235, 235, none)]
theorem fg_X14_weightOf_78 {w : rf_w} {rec12 : Int32 → rf_m → Option (Int32 × rf_m)} {a2 : Int32} {m : rf_m} (hr_rec12 : ∀ {x0 : Int32} {m : rf_m} {r : (Int32 × rf_m)}, rec12 x0 m = some r → fr S_X14_weightOf m r.2) {r : (Int32 × rf_m)} (h : g_X14_weightOf_78 w rec12 a2 m = some r) : fr S_X14_weightOf m r.2 := by
  unfold g_X14_weightOf_78 at h
  exact fr_trans ((fr_refl _ m)) (hr_rec12 h)
theorem fg_X14_weightOf_12_b {w : rf_w} {rec12 : Int32 → rf_m → Option (Int32 × rf_m)} {a2 : Int32} {m : rf_m} (hr_rec12 : ∀ {x0 : Int32} {m : rf_m} {r : (Int32 × rf_m)}, rec12 x0 m = some r → fr S_X14_weightOf m r.2) {r : (Int32 × rf_m)} (h : g_X14_weightOf_12_b w rec12 a2 m = some r) : fr S_X14_weightOf m r.2 := by
  unfold g_X14_weightOf_12_b at h
  rcases rf_ite_some h with ⟨_, h⟩ | ⟨_, h⟩
  · obtain rfl := Option.some.inj h
    exact (fr_refl _ m)
  · obtain ⟨_, h⟩ := rf_g_some h
    obtain ⟨k1, _, h⟩ := rf_o_some h
    obtain ⟨_, h⟩ := rf_g_some h
    obtain ⟨_, h⟩ := rf_g_some h
    obtain ⟨_, h⟩ := rf_g_some h
    obtain ⟨_, h⟩ := rf_g_some h
    obtain ⟨_, h⟩ := rf_g_some h
    rcases rf_ite_some h with ⟨_, h⟩ | ⟨_, h⟩
    · obtain ⟨y7, m7, q1, h⟩ := rf_b_some h
      have e1 : fr S_X14_weightOf m m7 := fr_trans ((fr_refl _ m)) (fr_mono (fg_X14_isInForce q1) (by decide))
      rcases rf_ite_some h with ⟨_, h⟩ | ⟨_, h⟩
      · exact fr_trans e1 (fr_mono (fg_X14_weightOf_78 hr_rec12 h) (by decide))
      · obtain ⟨_, h⟩ := rf_g_some h
        obtain ⟨k9, _, h⟩ := rf_o_some h
        obtain ⟨_, h⟩ := rf_g_some h
        obtain ⟨_, h⟩ := rf_g_some h
        obtain ⟨_, h⟩ := rf_g_some h
        obtain ⟨_, h⟩ := rf_g_some h
        obtain ⟨_, h⟩ := rf_g_some h
        obtain ⟨y15, m15, q2, h⟩ := rf_b_some h
        have e2 : fr S_X14_weightOf m m15 := fr_trans e1 (fr_mono (fg_X14_testOf q2) (by decide))
        rcases rf_ite_some h with ⟨_, h⟩ | ⟨_, h⟩
        · exact fr_trans e2 (fr_mono (fg_X14_weightOf_78 hr_rec12 h) (by decide))
        · obtain ⟨_, h⟩ := rf_g_some h
          obtain ⟨k17, _, h⟩ := rf_o_some h
          obtain ⟨_, h⟩ := rf_g_some h
          obtain ⟨_, h⟩ := rf_g_some h
          obtain ⟨_, h⟩ := rf_g_some h
          obtain ⟨_, h⟩ := rf_g_some h
          obtain ⟨_, h⟩ := rf_g_some h
          obtain ⟨y23, m23, q3, h⟩ := rf_b_some h
          have e3 : fr S_X14_weightOf m m23 := fr_trans e2 (fr_mono (fg_X14_sumOf q3) (by decide))
          obtain ⟨y24, m24, q4, h⟩ := rf_b_some h
          have e4 : fr S_X14_weightOf m m24 := fr_trans e3 (fr_mono (fg_min q4) (by decide))
          obtain ⟨y25, m25, q5, h⟩ := rf_b_some h
          have e5 : fr S_X14_weightOf m m25 := fr_trans e4 (fr_mono (fg_max q5) (by decide))
          obtain rfl := Option.some.inj h
          exact e5
    · exact fr_trans ((fr_refl _ m)) (fr_mono (fg_X14_weightOf_78 hr_rec12 h) (by decide))
theorem fg_X14_weightOf_12 {w : rf_w} (n : Nat) : ∀ {a2 : Int32} {m : rf_m} {r : (Int32 × rf_m)}, g_X14_weightOf_12 w n a2 m = some r → fr S_X14_weightOf m r.2 := by
  induction n with
  | zero => intro a2 m r h; cases h
  | succ n ih =>
    intro a2 m r h
    exact fg_X14_weightOf_12_b ih h
theorem fg_X14_weightOf {w : rf_w} {m : rf_m} {a1 : Int32} {r : (Int32 × rf_m)} (h : g_X14_weightOf w m a1 = some r) : fr S_X14_weightOf m r.2 := by
  unfold g_X14_weightOf at h
  obtain ⟨m0, q1, h⟩ := rf_bv_some h
  have e1 : fr S_X14_weightOf m m0 := fr_trans ((fr_refl _ m)) (fr_mono (fg_X14_now q1) (by decide))
  obtain ⟨m1, q2, h⟩ := rf_bv_some h
  have e2 : fr S_X14_weightOf m m1 := fr_trans e1 (fr_mono (fg_X14_namesOf q2) (by decide))
  exact fr_trans e2 (fr_mono (fg_X14_weightOf_12 _ h) (by decide))
def S_X14_isAgain : fr_S := [(206, 206, some 33), (206, 206, some 34), (206, 206, some 35), (206, 206, some 36), (206, 206, some 37), (206, 206, some 38), (226, 226, none), (227, 227, none), (228, 228, none), (235, 235, none)]
theorem fg_X14_isAgain_69 {w : rf_w} {rec21 : Int32 → rf_m → Option (Int32 × rf_m)} {a2 : Int32} {m : rf_m} (hr_rec21 : ∀ {x0 : Int32} {m : rf_m} {r : (Int32 × rf_m)}, rec21 x0 m = some r → fr S_X14_isAgain m r.2) {r : (Int32 × rf_m)} (h : g_X14_isAgain_69 w rec21 a2 m = some r) : fr S_X14_isAgain m r.2 := by
  unfold g_X14_isAgain_69 at h
  exact fr_trans ((fr_refl _ m)) (hr_rec21 h)
theorem fg_X14_isAgain_21_b {w : rf_w} {rec21 : Int32 → rf_m → Option (Int32 × rf_m)} {a2 : Int32} {m : rf_m} (hr_rec21 : ∀ {x0 : Int32} {m : rf_m} {r : (Int32 × rf_m)}, rec21 x0 m = some r → fr S_X14_isAgain m r.2) {r : (Int32 × rf_m)} (h : g_X14_isAgain_21_b w rec21 a2 m = some r) : fr S_X14_isAgain m r.2 := by
  unfold g_X14_isAgain_21_b at h
  rcases rf_ite_some h with ⟨_, h⟩ | ⟨_, h⟩
  · obtain rfl := Option.some.inj h
    exact (fr_refl _ m)
  · obtain ⟨_, h⟩ := rf_g_some h
    obtain ⟨k1, _, h⟩ := rf_o_some h
    obtain ⟨_, h⟩ := rf_g_some h
    obtain ⟨_, h⟩ := rf_g_some h
    obtain ⟨_, h⟩ := rf_g_some h
    obtain ⟨_, h⟩ := rf_g_some h
    obtain ⟨_, h⟩ := rf_g_some h
    rcases rf_ite_some h with ⟨_, h⟩ | ⟨_, h⟩
    · obtain ⟨y7, m7, q1, h⟩ := rf_b_some h
      have e1 : fr S_X14_isAgain m m7 := fr_trans ((fr_refl _ m)) (fr_mono (fg_X14_isInForce q1) (by decide))
      rcases rf_ite_some h with ⟨_, h⟩ | ⟨_, h⟩
      · exact fr_trans e1 (fr_mono (fg_X14_isAgain_69 hr_rec21 h) (by decide))
      · obtain ⟨_, h⟩ := rf_g_some h
        obtain ⟨k9, _, h⟩ := rf_o_some h
        obtain ⟨_, h⟩ := rf_g_some h
        obtain ⟨_, h⟩ := rf_g_some h
        obtain ⟨_, h⟩ := rf_g_some h
        obtain ⟨_, h⟩ := rf_g_some h
        obtain ⟨_, h⟩ := rf_g_some h
        obtain ⟨y15, m15, q2, h⟩ := rf_b_some h
        have e2 : fr S_X14_isAgain m m15 := fr_trans e1 (fr_mono (fg_X14_testOf q2) (by decide))
        rcases rf_ite_some h with ⟨_, h⟩ | ⟨_, h⟩
        · exact fr_trans e2 (fr_mono (fg_X14_isAgain_69 hr_rec21 h) (by decide))
        · obtain rfl := Option.some.inj h
          exact e2
    · exact fr_trans ((fr_refl _ m)) (fr_mono (fg_X14_isAgain_69 hr_rec21 h) (by decide))
theorem fg_X14_isAgain_21 {w : rf_w} (n : Nat) : ∀ {a2 : Int32} {m : rf_m} {r : (Int32 × rf_m)}, g_X14_isAgain_21 w n a2 m = some r → fr S_X14_isAgain m r.2 := by
  induction n with
  | zero => intro a2 m r h; cases h
  | succ n ih =>
    intro a2 m r h
    exact fg_X14_isAgain_21_b ih h
theorem fg_X14_isAgain {w : rf_w} {m : rf_m} {a1 : Int32} {r : (Int32 × rf_m)} (h : g_X14_isAgain w m a1 = some r) : fr S_X14_isAgain m r.2 := by
  unfold g_X14_isAgain at h
  obtain ⟨m0, q1, h⟩ := rf_bv_some h
  have e1 : fr S_X14_isAgain m m0 := fr_trans ((fr_refl _ m)) (fr_mono (fg_X14_now q1) (by decide))
  rcases rf_ite_some h with ⟨_, h⟩ | ⟨_, h⟩
  · obtain rfl := Option.some.inj h
    exact e1
  · obtain ⟨m1, q2, h⟩ := rf_bv_some h
    have e2 : fr S_X14_isAgain m m1 := fr_trans e1 (fr_mono (fg_X14_namesOf q2) (by decide))
    exact fr_trans e2 (fr_mono (fg_X14_isAgain_21 _ h) (by decide))
def S_X14_angleOf : fr_S := [(206, 206, some 0), (206, 206, some 33), (206, 206, some 34), (206, 206, some 35), (206, 206, some 36), (206, 206, some 37), (206, 206, some 38), (226, 226, none), (227, 227, none), (228, 228, none), (235, 235, none)]
theorem fg_X14_angleOf {w : rf_w} {m : rf_m} {a1 : Int32} {a2 : Int32} {r : (Int32 × rf_m)} (h : g_X14_angleOf w m a1 a2 = some r) : fr S_X14_angleOf m r.2 := by
  unfold g_X14_angleOf at h
  obtain ⟨y0, m0, q1, h⟩ := rf_b_some h
  have e1 : fr S_X14_angleOf m m0 := fr_trans (fr_i ((fr_refl _ m)) (by decide)) (fr_mono (fg_X14_isAngle q1) (by decide))
  rcases rf_ite_some h with ⟨_, h⟩ | ⟨_, h⟩
  · obtain rfl := Option.some.inj h
    exact e1
  · obtain ⟨m1, q2, h⟩ := rf_bv_some h
    have e2 : fr S_X14_angleOf m m1 := fr_trans e1 (fr_mono (fg_X14_now q2) (by decide))
    rcases rf_ite_some h with ⟨_, h⟩ | ⟨_, h⟩
    · obtain rfl := Option.some.inj h
      exact e2
    · rcases rf_ite_some h with ⟨_, h⟩ | ⟨_, h⟩
      · rcases rf_ite_some h with ⟨_, h⟩ | ⟨_, h⟩
        · obtain rfl := Option.some.inj h
          exact e2
        · obtain rfl := Option.some.inj h
          exact e2
      · rcases rf_ite_some h with ⟨_, h⟩ | ⟨_, h⟩
        · obtain rfl := Option.some.inj h
          exact e2
        · rcases rf_ite_some h with ⟨_, h⟩ | ⟨_, h⟩
          · obtain rfl := Option.some.inj h
            exact e2
          · rcases rf_ite_some h with ⟨_, h⟩ | ⟨_, h⟩
            · obtain rfl := Option.some.inj h
              exact e2
            · rcases rf_ite_some h with ⟨_, h⟩ | ⟨_, h⟩
              · obtain rfl := Option.some.inj h
                exact e2
              · rcases rf_ite_some h with ⟨_, h⟩ | ⟨_, h⟩
                · obtain ⟨y2, m2, q3, h⟩ := rf_b_some h
                  have e3 : fr S_X14_angleOf m m2 := fr_trans e2 (fr_mono (fg_X14_readingsOf q3) (by decide))
                  obtain rfl := Option.some.inj h
                  exact e3
                · rcases rf_ite_some h with ⟨_, h⟩ | ⟨_, h⟩
                  · obtain rfl := Option.some.inj h
                    exact e2
                  · rcases rf_ite_some h with ⟨_, h⟩ | ⟨_, h⟩
                    · obtain ⟨y3, m3, q4, h⟩ := rf_b_some h
                      have e4 : fr S_X14_angleOf m m3 := fr_trans e2 (fr_mono (fg_X14_weightOf q4) (by decide))
                      obtain rfl := Option.some.inj h
                      exact e4
                    · rcases rf_ite_some h with ⟨_, h⟩ | ⟨_, h⟩
                      · obtain ⟨y4, m4, q5, h⟩ := rf_b_some h
                        have e5 : fr S_X14_angleOf m m4 := fr_trans e2 (fr_mono (fg_X14_isAgain q5) (by decide))
                        rcases rf_ite_some h with ⟨_, h⟩ | ⟨_, h⟩
                        · obtain rfl := Option.some.inj h
                          exact e5
                        · obtain rfl := Option.some.inj h
                          exact e5
                      · rcases rf_ite_some h with ⟨_, h⟩ | ⟨_, h⟩
                        · obtain ⟨_, h⟩ := rf_g_some h
                          obtain rfl := Option.some.inj h
                          exact e2
                        · obtain rfl := Option.some.inj h
                          exact e2
def S_X14_known : fr_S := [(206, 206, some 0), (206, 206, some 33), (206, 206, some 34), (206, 206, some 35), (206, 206, some 36), (206, 206, some 37), (206, 206, some 38), (226, 226, none), (227, 227, none), (228, 228, none), (235, 235, none)]
theorem fg_X14_known {w : rf_w} {m : rf_m} {a1 : Int32} {a2 : Int32} {r : (Int32 × rf_m)} (h : g_X14_known w m a1 a2 = some r) : fr S_X14_known m r.2 := by
  unfold g_X14_known at h
  obtain ⟨y0, m0, q1, h⟩ := rf_b_some h
  have e1 : fr S_X14_known m m0 := fr_trans (fr_i ((fr_refl _ m)) (by decide)) (fr_mono (fg_X14_isAngle q1) (by decide))
  rcases rf_ite_some h with ⟨_, h⟩ | ⟨_, h⟩
  · obtain rfl := Option.some.inj h
    exact e1
  · obtain ⟨y1, m1, q2, h⟩ := rf_b_some h
    have e2 : fr S_X14_known m m1 := fr_trans e1 (fr_mono (fg_X14_in q2) (by decide))
    rcases rf_ite_some h with ⟨_, h⟩ | ⟨_, h⟩
    · obtain rfl := Option.some.inj h
      exact e2
    · obtain ⟨m2, q3, h⟩ := rf_bv_some h
      have e3 : fr S_X14_known m m2 := fr_trans e2 (fr_mono (fg_X14_goes q3) (by decide))
      obtain rfl := Option.some.inj h
      exact e3
def S_X14_led : fr_S := [(206, 206, some 0), (206, 206, some 33), (206, 206, some 34), (206, 206, some 35), (206, 206, some 36), (206, 206, some 37), (206, 206, some 38), (226, 226, none), (227, 227, none), (228, 228, none), (235, 235, none)]
theorem fg_X14_led_33 {w : rf_w} {a2 : Int32} {m : rf_m} {r : (Int32 × rf_m)} (h : g_X14_led_33 w a2 m = some r) : fr S_X14_led m r.2 := by
  unfold g_X14_led_33 at h
  rcases rf_ite_some h with ⟨_, h⟩ | ⟨_, h⟩
  · obtain ⟨_, h⟩ := rf_g_some h
    obtain rfl := Option.some.inj h
    exact fr_i ((fr_refl _ m)) (by decide)
  · obtain rfl := Option.some.inj h
    exact fr_i ((fr_refl _ m)) (by decide)
theorem fg_X14_led {w : rf_w} {m : rf_m} {a1 : Int32} {a2 : Int32} {r : (Int32 × rf_m)} (h : g_X14_led w m a1 a2 = some r) : fr S_X14_led m r.2 := by
  unfold g_X14_led at h
  obtain ⟨y0, m0, q1, h⟩ := rf_b_some h
  have e1 : fr S_X14_led m m0 := fr_trans (fr_i ((fr_refl _ m)) (by decide)) (fr_mono (fg_X14_isAngle q1) (by decide))
  rcases rf_ite_some h with ⟨_, h⟩ | ⟨_, h⟩
  · obtain rfl := Option.some.inj h
    exact e1
  · obtain ⟨m1, q2, h⟩ := rf_bv_some h
    have e2 : fr S_X14_led m m1 := fr_trans e1 (fr_mono (fg_X14_now q2) (by decide))
    rcases rf_ite_some h with ⟨_, h⟩ | ⟨_, h⟩
    · exact fr_trans e2 (fr_mono (fg_X14_led_33 h) (by decide))
    · rcases rf_ite_some h with ⟨_, h⟩ | ⟨_, h⟩
      · rcases rf_ite_some h with ⟨_, h⟩ | ⟨_, h⟩
        · obtain ⟨_, h⟩ := rf_g_some h
          obtain rfl := Option.some.inj h
          exact fr_i e2 (by decide)
        · obtain rfl := Option.some.inj h
          exact fr_i e2 (by decide)
      · exact fr_trans e2 (fr_mono (fg_X14_led_33 h) (by decide))
def S_X14_byteAt : fr_S := []
theorem fg_X14_byteAt {w : rf_w} {m : rf_m} {a1 : Int32} {r : (Int32 × rf_m)} (h : g_X14_byteAt w m a1 = some r) : fr S_X14_byteAt m r.2 := by
  unfold g_X14_byteAt at h
  rcases rf_ite_some h with ⟨_, h⟩ | ⟨_, h⟩
  · obtain rfl := Option.some.inj h
    exact (fr_refl _ m)
  · obtain ⟨_, h⟩ := rf_g_some h
    obtain rfl := Option.some.inj h
    exact (fr_refl _ m)
def S_X14_isLetter : fr_S := []
theorem fg_X14_isLetter {w : rf_w} {m : rf_m} {a0 : Int32} {r : (Int32 × rf_m)} (h : g_X14_isLetter w m a0 = some r) : fr S_X14_isLetter m r.2 := by
  unfold g_X14_isLetter at h
  rcases rf_ite_some h with ⟨_, h⟩ | ⟨_, h⟩
  · obtain rfl := Option.some.inj h
    exact (fr_refl _ m)
  · rcases rf_ite_some h with ⟨_, h⟩ | ⟨_, h⟩
    · obtain rfl := Option.some.inj h
      exact (fr_refl _ m)
    · obtain rfl := Option.some.inj h
      exact (fr_refl _ m)
def S_X14_isDigit : fr_S := []
theorem fg_X14_isDigit {w : rf_w} {m : rf_m} {a0 : Int32} {r : (Int32 × rf_m)} (h : g_X14_isDigit w m a0 = some r) : fr S_X14_isDigit m r.2 := by
  unfold g_X14_isDigit at h
  rcases rf_ite_some h with ⟨_, h⟩ | ⟨_, h⟩
  · obtain rfl := Option.some.inj h
    exact (fr_refl _ m)
  · rcases rf_ite_some h with ⟨_, h⟩ | ⟨_, h⟩
    · obtain rfl := Option.some.inj h
      exact (fr_refl _ m)
    · obtain rfl := Option.some.inj h
      exact (fr_refl _ m)
def S_X14_isMarkByte : fr_S := []
theorem fg_X14_isMarkByte {w : rf_w} {m : rf_m} {a0 : Int32} {r : (Int32 × rf_m)} (h : g_X14_isMarkByte w m a0 = some r) : fr S_X14_isMarkByte m r.2 := by
  unfold g_X14_isMarkByte at h
  rcases rf_ite_some h with ⟨_, h⟩ | ⟨_, h⟩
  · obtain rfl := Option.some.inj h
    exact (fr_refl _ m)
  · rcases rf_ite_some h with ⟨_, h⟩ | ⟨_, h⟩
    · obtain rfl := Option.some.inj h
      exact (fr_refl _ m)
    · rcases rf_ite_some h with ⟨_, h⟩ | ⟨_, h⟩
      · obtain rfl := Option.some.inj h
        exact (fr_refl _ m)
      · rcases rf_ite_some h with ⟨_, h⟩ | ⟨_, h⟩
        · obtain rfl := Option.some.inj h
          exact (fr_refl _ m)
        · rcases rf_ite_some h with ⟨_, h⟩ | ⟨_, h⟩
          · obtain rfl := Option.some.inj h
            exact (fr_refl _ m)
          · rcases rf_ite_some h with ⟨_, h⟩ | ⟨_, h⟩
            · obtain rfl := Option.some.inj h
              exact (fr_refl _ m)
            · rcases rf_ite_some h with ⟨_, h⟩ | ⟨_, h⟩
              · obtain rfl := Option.some.inj h
                exact (fr_refl _ m)
              · rcases rf_ite_some h with ⟨_, h⟩ | ⟨_, h⟩
                · obtain rfl := Option.some.inj h
                  exact (fr_refl _ m)
                · obtain rfl := Option.some.inj h
                  exact (fr_refl _ m)
def S_X14_next : fr_S := [(206, 206, some 46), (206, 206, some 47), (206, 206, some 48), (206, 206, some 49), (206, 206, some 50), (206, 206, some 53)]
theorem fg_X14_next_212 {w : rf_w} {rec169 : Int32 → rf_m → Option (rf_m)} {a2 : Int32} {m : rf_m} (hr_rec169 : ∀ {x0 : Int32} {m : rf_m} {r : (rf_m)}, rec169 x0 m = some r → fr S_X14_next m r) {r : (rf_m)} (h : g_X14_next_212 w rec169 a2 m = some r) : fr S_X14_next m r := by
  unfold g_X14_next_212 at h
  exact fr_trans (fr_i ((fr_refl _ m)) (by decide)) (hr_rec169 h)
theorem fg_X14_next_169_b {w : rf_w} {rec169 : Int32 → rf_m → Option (rf_m)} {a2 : Int32} {m : rf_m} (hr_rec169 : ∀ {x0 : Int32} {m : rf_m} {r : (rf_m)}, rec169 x0 m = some r → fr S_X14_next m r) {r : (rf_m)} (h : g_X14_next_169_b w rec169 a2 m = some r) : fr S_X14_next m r := by
  unfold g_X14_next_169_b at h
  obtain ⟨y0, m0, q1, h⟩ := rf_b_some h
  have e1 : fr S_X14_next m m0 := fr_trans ((fr_refl _ m)) (fr_mono (fg_X14_byteAt q1) (by decide))
  obtain ⟨y1, m1, q2, h⟩ := rf_b_some h
  have e2 : fr S_X14_next m m1 := fr_trans e1 (fr_mono (fg_X14_isDigit q2) (by decide))
  rcases rf_ite_some h with ⟨_, h⟩ | ⟨_, h⟩
  · rcases rf_ite_some h with ⟨_, h⟩ | ⟨_, h⟩
    · obtain rfl := Option.some.inj h
      exact e2
    · obtain rfl := Option.some.inj h
      exact fr_i e2 (by decide)
  · rcases rf_ite_some h with ⟨_, h⟩ | ⟨_, h⟩
    · exact fr_trans e2 (fr_mono (fg_X14_next_212 hr_rec169 h) (by decide))
    · obtain ⟨y2, m2, q3, h⟩ := rf_b_some h
      have e3 : fr S_X14_next m m2 := fr_trans e2 (fr_mono (fg_X14_byteAt q3) (by decide))
      exact fr_trans (fr_i e3 (by decide)) (fr_mono (fg_X14_next_212 hr_rec169 h) (by decide))
theorem fg_X14_next_169 {w : rf_w} (n : Nat) : ∀ {a2 : Int32} {m : rf_m} {r : (rf_m)}, g_X14_next_169 w n a2 m = some r → fr S_X14_next m r := by
  induction n with
  | zero => intro a2 m r h; cases h
  | succ n ih =>
    intro a2 m r h
    exact fg_X14_next_169_b ih h
theorem fg_X14_next_127 {w : rf_w} {rec80 : Int32 → rf_m → Option (rf_m)} {a2 : Int32} {m : rf_m} (hr_rec80 : ∀ {x0 : Int32} {m : rf_m} {r : (rf_m)}, rec80 x0 m = some r → fr S_X14_next m r) {r : (rf_m)} (h : g_X14_next_127 w rec80 a2 m = some r) : fr S_X14_next m r := by
  unfold g_X14_next_127 at h
  exact fr_trans (fr_i ((fr_refl _ m)) (by decide)) (hr_rec80 h)
theorem fg_X14_next_80_b {w : rf_w} {rec80 : Int32 → rf_m → Option (rf_m)} {a2 : Int32} {m : rf_m} (hr_rec80 : ∀ {x0 : Int32} {m : rf_m} {r : (rf_m)}, rec80 x0 m = some r → fr S_X14_next m r) {r : (rf_m)} (h : g_X14_next_80_b w rec80 a2 m = some r) : fr S_X14_next m r := by
  unfold g_X14_next_80_b at h
  obtain ⟨y0, m0, q1, h⟩ := rf_b_some h
  have e1 : fr S_X14_next m m0 := fr_trans ((fr_refl _ m)) (fr_mono (fg_X14_byteAt q1) (by decide))
  obtain ⟨y1, m1, q2, h⟩ := rf_b_some h
  have e2 : fr S_X14_next m m1 := fr_trans e1 (fr_mono (fg_X14_isLetter q2) (by decide))
  rcases rf_ite_some h with ⟨_, h⟩ | ⟨_, h⟩
  · rcases rf_ite_some h with ⟨_, h⟩ | ⟨_, h⟩
    · obtain rfl := Option.some.inj h
      exact e2
    · obtain rfl := Option.some.inj h
      exact fr_i e2 (by decide)
  · rcases rf_ite_some h with ⟨_, h⟩ | ⟨_, h⟩
    · exact fr_trans e2 (fr_mono (fg_X14_next_127 hr_rec80 h) (by decide))
    · obtain ⟨y2, m2, q3, h⟩ := rf_b_some h
      have e3 : fr S_X14_next m m2 := fr_trans e2 (fr_mono (fg_X14_byteAt q3) (by decide))
      exact fr_trans (fr_l e3 (by decide)) (fr_mono (fg_X14_next_127 hr_rec80 h) (by decide))
theorem fg_X14_next_80 {w : rf_w} (n : Nat) : ∀ {a2 : Int32} {m : rf_m} {r : (rf_m)}, g_X14_next_80 w n a2 m = some r → fr S_X14_next m r := by
  induction n with
  | zero => intro a2 m r h; cases h
  | succ n ih =>
    intro a2 m r h
    exact fg_X14_next_80_b ih h
theorem fg_X14_next_0_b {w : rf_w} {rec0 : rf_m → Option (rf_m)} {m : rf_m} (hr_rec0 : ∀ {m : rf_m} {r : (rf_m)}, rec0 m = some r → fr S_X14_next m r) {r : (rf_m)} (h : g_X14_next_0_b w rec0 m = some r) : fr S_X14_next m r := by
  unfold g_X14_next_0_b at h
  obtain ⟨y0, m0, q1, h⟩ := rf_b_some h
  have e1 : fr S_X14_next m m0 := fr_trans ((fr_refl _ m)) (fr_mono (fg_X14_byteAt q1) (by decide))
  rcases rf_ite_some h with ⟨_, h⟩ | ⟨_, h⟩
  · exact fr_trans (fr_i e1 (by decide)) (hr_rec0 h)
  · obtain ⟨y1, m1, q2, h⟩ := rf_b_some h
    have e2 : fr S_X14_next m m1 := fr_trans (fr_i (fr_i (fr_i e1 (by decide)) (by decide)) (by decide)) (fr_mono (fg_X14_byteAt q2) (by decide))
    rcases rf_ite_some h with ⟨_, h⟩ | ⟨_, h⟩
    · obtain rfl := Option.some.inj h
      exact fr_i e2 (by decide)
    · obtain ⟨y2, m2, q3, h⟩ := rf_b_some h
      have e3 : fr S_X14_next m m2 := fr_trans e2 (fr_mono (fg_X14_isLetter q3) (by decide))
      rcases rf_ite_some h with ⟨_, h⟩ | ⟨_, h⟩
      · obtain ⟨y3, m3, q4, h⟩ := rf_b_some h
        have e4 : fr S_X14_next m m3 := fr_trans e3 (fr_mono (fg_X14_isDigit q4) (by decide))
        rcases rf_ite_some h with ⟨_, h⟩ | ⟨_, h⟩
        · obtain ⟨y4, m4, q5, h⟩ := rf_b_some h
          have e5 : fr S_X14_next m m4 := fr_trans e4 (fr_mono (fg_X14_isMarkByte q5) (by decide))
          rcases rf_ite_some h with ⟨_, h⟩ | ⟨_, h⟩
          · obtain rfl := Option.some.inj h
            exact e5
          · obtain rfl := Option.some.inj h
            exact fr_i (fr_i (fr_i e5 (by decide)) (by decide)) (by decide)
        · exact fr_trans (fr_i e4 (by decide)) (fr_mono (fg_X14_next_169 _ h) (by decide))
      · exact fr_trans (fr_l e3 (by decide)) (fr_mono (fg_X14_next_80 _ h) (by decide))
theorem fg_X14_next_0 {w : rf_w} (n : Nat) : ∀ {m : rf_m} {r : (rf_m)}, g_X14_next_0 w n m = some r → fr S_X14_next m r := by
  induction n with
  | zero => intro m r h; cases h
  | succ n ih =>
    intro m r h
    exact fg_X14_next_0_b ih h
theorem fg_X14_next {w : rf_w} {m : rf_m} {r : (rf_m)} (h : g_X14_next w m = some r) : fr S_X14_next m r := by
  unfold g_X14_next at h
  exact fr_trans ((fr_refl _ m)) (fr_mono (fg_X14_next_0 _ h) (by decide))
def S_X14_is : fr_S := []
theorem fg_X14_is {w : rf_w} {m : rf_m} {a1 : Int32} {r : (Int32 × rf_m)} (h : g_X14_is w m a1 = some r) : fr S_X14_is m r.2 := by
  unfold g_X14_is at h
  rcases rf_ite_some h with ⟨_, h⟩ | ⟨_, h⟩
  · rcases rf_ite_some h with ⟨_, h⟩ | ⟨_, h⟩
    · obtain rfl := Option.some.inj h
      exact (fr_refl _ m)
    · obtain rfl := Option.some.inj h
      exact (fr_refl _ m)
  · obtain rfl := Option.some.inj h
    exact (fr_refl _ m)
def S_X14_feed : fr_S := [(206, 206, some 0), (206, 206, some 44), (234, 234, none)]
theorem fg_X14_feed_76 {w : rf_w} {rec23 : Int32 → Int32 → Int32 → Int32 → Int32 → Int32 → rf_m → Option (Int32 × rf_m)} {a1 : Int32} {a2 : Int32} {a3 : Int32} {a4 : Int32} {a5 : Int32} {a6 : Int32} {s0 : Int32} {m : rf_m} (hr_rec23 : ∀ {x0 : Int32} {x1 : Int32} {x2 : Int32} {x3 : Int32} {x4 : Int32} {x5 : Int32} {m : rf_m} {r : (Int32 × rf_m)}, rec23 x0 x1 x2 x3 x4 x5 m = some r → fr S_X14_feed m r.2) {r : (Int32 × rf_m)} (h : g_X14_feed_76 w rec23 a1 a2 a3 a4 a5 a6 s0 m = some r) : fr S_X14_feed m r.2 := by
  unfold g_X14_feed_76 at h
  obtain ⟨_, h⟩ := rf_g_some h
  exact fr_trans (fr_i (fr_i ((fr_refl _ m)) (fr_c_in (by decide) _)) (by decide)) (hr_rec23 h)
theorem fg_X14_feed_23_b {w : rf_w} {rec23 : Int32 → Int32 → Int32 → Int32 → Int32 → Int32 → rf_m → Option (Int32 × rf_m)} {a1 : Int32} {a2 : Int32} {a3 : Int32} {a4 : Int32} {a5 : Int32} {a6 : Int32} {m : rf_m} (hr_rec23 : ∀ {x0 : Int32} {x1 : Int32} {x2 : Int32} {x3 : Int32} {x4 : Int32} {x5 : Int32} {m : rf_m} {r : (Int32 × rf_m)}, rec23 x0 x1 x2 x3 x4 x5 m = some r → fr S_X14_feed m r.2) {r : (Int32 × rf_m)} (h : g_X14_feed_23_b w rec23 a1 a2 a3 a4 a5 a6 m = some r) : fr S_X14_feed m r.2 := by
  unfold g_X14_feed_23_b at h
  rcases rf_ite_some h with ⟨_, h⟩ | ⟨_, h⟩
  · obtain rfl := Option.some.inj h
    exact (fr_refl _ m)
  · rcases rf_ite_some h with ⟨_, h⟩ | ⟨_, h⟩
    · rcases rf_ite_some h with ⟨_, h⟩ | ⟨_, h⟩
      · rcases rf_ite_some h with ⟨_, h⟩ | ⟨_, h⟩
        · rcases rf_ite_some h with ⟨_, h⟩ | ⟨_, h⟩
          · exact fr_trans ((fr_refl _ m)) (fr_mono (fg_X14_feed_76 hr_rec23 h) (by decide))
          · exact fr_trans ((fr_refl _ m)) (fr_mono (fg_X14_feed_76 hr_rec23 h) (by decide))
        · exact fr_trans ((fr_refl _ m)) (fr_mono (fg_X14_feed_76 hr_rec23 h) (by decide))
      · exact fr_trans ((fr_refl _ m)) (fr_mono (fg_X14_feed_76 hr_rec23 h) (by decide))
    · exact fr_trans ((fr_refl _ m)) (fr_mono (fg_X14_feed_76 hr_rec23 h) (by decide))
theorem fg_X14_feed_23 {w : rf_w} (n : Nat) : ∀ {a1 : Int32} {a2 : Int32} {a3 : Int32} {a4 : Int32} {a5 : Int32} {a6 : Int32} {m : rf_m} {r : (Int32 × rf_m)}, g_X14_feed_23 w n a1 a2 a3 a4 a5 a6 m = some r → fr S_X14_feed m r.2 := by
  induction n with
  | zero => intro a1 a2 a3 a4 a5 a6 m r h; cases h
  | succ n ih =>
    intro a1 a2 a3 a4 a5 a6 m r h
    exact fg_X14_feed_23_b ih h
theorem fg_X14_feed {w : rf_w} {m : rf_m} {a1 : Int32} {a2 : Int32} {a3 : Int32} {a4 : Int32} {a5 : Int32} {r : (Int32 × rf_m)} (h : g_X14_feed w m a1 a2 a3 a4 a5 = some r) : fr S_X14_feed m r.2 := by
  unfold g_X14_feed at h
  rcases rf_ite_some h with ⟨_, h⟩ | ⟨_, h⟩
  · exact fr_trans (fr_i ((fr_refl _ m)) (by decide)) (fr_mono (fg_X14_feed_23 _ h) (by decide))
  · obtain rfl := Option.some.inj h
    exact fr_i ((fr_refl _ m)) (by decide)
def S_X14_fault : fr_S := [(206, 206, some 0)]
theorem fg_X14_fault {w : rf_w} {m : rf_m} {r : (Int32 × rf_m)} (h : g_X14_fault w m = some r) : fr S_X14_fault m r.2 := by
  unfold g_X14_fault at h
  obtain rfl := Option.some.inj h
  exact fr_i ((fr_refl _ m)) (by decide)
def S_X14_where : fr_S := [(206, 206, some 0)]
theorem fg_X14_where {w : rf_w} {m : rf_m} {r : (Int32 × rf_m)} (h : g_X14_where w m = some r) : fr S_X14_where m r.2 := by
  unfold g_X14_where at h
  obtain rfl := Option.some.inj h
  exact fr_i ((fr_refl _ m)) (by decide)
def S_X14_latest : fr_S := [(228, 228, none), (235, 235, none)]
theorem fg_X14_latest_68 {w : rf_w} {rec28 : Int32 → Int32 → Int32 → rf_m → Option (Int32 × rf_m)} {a1 : Int32} {a2 : Int32} {a3 : Int32} {m : rf_m} (hr_rec28 : ∀ {x0 : Int32} {x1 : Int32} {x2 : Int32} {m : rf_m} {r : (Int32 × rf_m)}, rec28 x0 x1 x2 m = some r → fr S_X14_latest m r.2) {r : (Int32 × rf_m)} (h : g_X14_latest_68 w rec28 a1 a2 a3 m = some r) : fr S_X14_latest m r.2 := by
  unfold g_X14_latest_68 at h
  exact fr_trans ((fr_refl _ m)) (hr_rec28 h)
theorem fg_X14_latest_28_b {w : rf_w} {rec28 : Int32 → Int32 → Int32 → rf_m → Option (Int32 × rf_m)} {a1 : Int32} {a2 : Int32} {a3 : Int32} {m : rf_m} (hr_rec28 : ∀ {x0 : Int32} {x1 : Int32} {x2 : Int32} {m : rf_m} {r : (Int32 × rf_m)}, rec28 x0 x1 x2 m = some r → fr S_X14_latest m r.2) {r : (Int32 × rf_m)} (h : g_X14_latest_28_b w rec28 a1 a2 a3 m = some r) : fr S_X14_latest m r.2 := by
  unfold g_X14_latest_28_b at h
  rcases rf_ite_some h with ⟨_, h⟩ | ⟨_, h⟩
  · obtain rfl := Option.some.inj h
    exact (fr_refl _ m)
  · obtain ⟨_, h⟩ := rf_g_some h
    obtain ⟨k1, _, h⟩ := rf_o_some h
    obtain ⟨_, h⟩ := rf_g_some h
    obtain ⟨_, h⟩ := rf_g_some h
    obtain ⟨_, h⟩ := rf_g_some h
    obtain ⟨_, h⟩ := rf_g_some h
    obtain ⟨_, h⟩ := rf_g_some h
    rcases rf_ite_some h with ⟨_, h⟩ | ⟨_, h⟩
    · obtain ⟨y7, m7, q1, h⟩ := rf_b_some h
      have e1 : fr S_X14_latest m m7 := fr_trans ((fr_refl _ m)) (fr_mono (fg_X14_isInForce q1) (by decide))
      rcases rf_ite_some h with ⟨_, h⟩ | ⟨_, h⟩
      · exact fr_trans e1 (fr_mono (fg_X14_latest_68 hr_rec28 h) (by decide))
      · obtain ⟨_, h⟩ := rf_g_some h
        obtain ⟨k9, _, h⟩ := rf_o_some h
        obtain ⟨_, h⟩ := rf_g_some h
        obtain ⟨_, h⟩ := rf_g_some h
        obtain ⟨_, h⟩ := rf_g_some h
        obtain ⟨_, h⟩ := rf_g_some h
        obtain ⟨_, h⟩ := rf_g_some h
        obtain ⟨y15, m15, q2, h⟩ := rf_b_some h
        have e2 : fr S_X14_latest m m15 := fr_trans e1 (fr_mono (fg_X14_sumOf q2) (by decide))
        obtain rfl := Option.some.inj h
        exact e2
    · exact fr_trans ((fr_refl _ m)) (fr_mono (fg_X14_latest_68 hr_rec28 h) (by decide))
theorem fg_X14_latest_28 {w : rf_w} (n : Nat) : ∀ {a1 : Int32} {a2 : Int32} {a3 : Int32} {m : rf_m} {r : (Int32 × rf_m)}, g_X14_latest_28 w n a1 a2 a3 m = some r → fr S_X14_latest m r.2 := by
  induction n with
  | zero => intro a1 a2 a3 m r h; cases h
  | succ n ih =>
    intro a1 a2 a3 m r h
    exact fg_X14_latest_28_b ih h
theorem fg_X14_latest_2_b {w : rf_w} {rec2 : Int32 → Int32 → Int32 → rf_m → Option (Int32 × rf_m)} {a1 : Int32} {a2 : Int32} {a3 : Int32} {m : rf_m} (hr_rec2 : ∀ {x0 : Int32} {x1 : Int32} {x2 : Int32} {m : rf_m} {r : (Int32 × rf_m)}, rec2 x0 x1 x2 m = some r → fr S_X14_latest m r.2) {r : (Int32 × rf_m)} (h : g_X14_latest_2_b w rec2 a1 a2 a3 m = some r) : fr S_X14_latest m r.2 := by
  unfold g_X14_latest_2_b at h
  rcases rf_ite_some h with ⟨_, h⟩ | ⟨_, h⟩
  · exact fr_trans ((fr_refl _ m)) (fr_mono (fg_X14_latest_28 _ h) (by decide))
  · obtain ⟨_, h⟩ := rf_g_some h
    exact fr_trans (fr_i ((fr_refl _ m)) (fr_c_in (by decide) _)) (hr_rec2 h)
theorem fg_X14_latest_2 {w : rf_w} (n : Nat) : ∀ {a1 : Int32} {a2 : Int32} {a3 : Int32} {m : rf_m} {r : (Int32 × rf_m)}, g_X14_latest_2 w n a1 a2 a3 m = some r → fr S_X14_latest m r.2 := by
  induction n with
  | zero => intro a1 a2 a3 m r h; cases h
  | succ n ih =>
    intro a1 a2 a3 m r h
    exact fg_X14_latest_2_b ih h
theorem fg_X14_latest {w : rf_w} {m : rf_m} {a1 : Int32} {a2 : Int32} {r : (Int32 × rf_m)} (h : g_X14_latest w m a1 a2 = some r) : fr S_X14_latest m r.2 := by
  unfold g_X14_latest at h
  exact fr_trans ((fr_refl _ m)) (fr_mono (fg_X14_latest_2 _ h) (by decide))
def S_X14_allowed : fr_S := [(228, 228, none), (235, 235, none)]
theorem fg_X14_allowed {w : rf_w} {m : rf_m} {r : (Int32 × rf_m)} (h : g_X14_allowed w m = some r) : fr S_X14_allowed m r.2 := by
  unfold g_X14_allowed at h
  obtain ⟨y0, m0, q1, h⟩ := rf_b_some h
  have e1 : fr S_X14_allowed m m0 := fr_trans ((fr_refl _ m)) (fr_mono (fg_X14_latest q1) (by decide))
  obtain ⟨y1, m1, q2, h⟩ := rf_b_some h
  have e2 : fr S_X14_allowed m m1 := fr_trans e1 (fr_mono (fg_max q2) (by decide))
  obtain rfl := Option.some.inj h
  exact e2
def S_X14_told : fr_S := [(206, 206, some 0), (228, 228, none), (235, 235, none)]
theorem fg_X14_told {w : rf_w} {m : rf_m} {a1 : Int32} {r : (Int32 × rf_m)} (h : g_X14_told w m a1 = some r) : fr S_X14_told m r.2 := by
  unfold g_X14_told at h
  rcases rf_ite_some h with ⟨_, h⟩ | ⟨_, h⟩
  · obtain ⟨y1, m1, q1, h⟩ := rf_b_some h
    have e1 : fr S_X14_told m m1 := fr_trans (fr_i ((fr_refl _ m)) (by decide)) (fr_mono (fg_X14_latest q1) (by decide))
    obtain rfl := Option.some.inj h
    exact e1
  · rcases rf_ite_some h with ⟨_, h⟩ | ⟨_, h⟩
    · obtain ⟨y0, m0, q2, h⟩ := rf_b_some h
      have e2 : fr S_X14_told m m0 := fr_trans (fr_i ((fr_refl _ m)) (by decide)) (fr_mono (fg_X14_allowed q2) (by decide))
      obtain rfl := Option.some.inj h
      exact e2
    · obtain rfl := Option.some.inj h
      exact fr_i ((fr_refl _ m)) (by decide)
def S_X14_isBase : fr_S := []
theorem fg_X14_isBase {w : rf_w} {m : rf_m} {a1 : Int32} {r : (Int32 × rf_m)} (h : g_X14_isBase w m a1 = some r) : fr S_X14_isBase m r.2 := by
  unfold g_X14_isBase at h
  rcases rf_ite_some h with ⟨_, h⟩ | ⟨_, h⟩
  · obtain rfl := Option.some.inj h
    exact (fr_refl _ m)
  · rcases rf_ite_some h with ⟨_, h⟩ | ⟨_, h⟩
    · obtain rfl := Option.some.inj h
      exact (fr_refl _ m)
    · obtain rfl := Option.some.inj h
      exact (fr_refl _ m)
def S_X14_isOf : fr_S := []
theorem fg_X14_isOf_20 {w : rf_w} {a1 : Int32} {a2 : Int32} {a3 : Int32} {m : rf_m} {r : (Int32 × rf_m)} (h : g_X14_isOf_20 w a1 a2 a3 m = some r) : fr S_X14_isOf m r.2 := by
  unfold g_X14_isOf_20 at h
  obtain ⟨_, h⟩ := rf_g_some h
  rcases rf_ite_some h with ⟨_, h⟩ | ⟨_, h⟩
  · obtain ⟨_, h⟩ := rf_g_some h
    rcases rf_ite_some h with ⟨_, h⟩ | ⟨_, h⟩
    · obtain rfl := Option.some.inj h
      exact (fr_refl _ m)
    · obtain rfl := Option.some.inj h
      exact (fr_refl _ m)
  · obtain rfl := Option.some.inj h
    exact (fr_refl _ m)
theorem fg_X14_isOf {w : rf_w} {m : rf_m} {a1 : Int32} {a2 : Int32} {a3 : Int32} {r : (Int32 × rf_m)} (h : g_X14_isOf w m a1 a2 a3 = some r) : fr S_X14_isOf m r.2 := by
  unfold g_X14_isOf at h
  obtain ⟨_, h⟩ := rf_g_some h
  rcases rf_ite_some h with ⟨_, h⟩ | ⟨_, h⟩
  · obtain ⟨_, h⟩ := rf_g_some h
    rcases rf_ite_some h with ⟨_, h⟩ | ⟨_, h⟩
    · obtain rfl := Option.some.inj h
      exact (fr_refl _ m)
    · exact fr_trans ((fr_refl _ m)) (fr_mono (fg_X14_isOf_20 h) (by decide))
  · exact fr_trans ((fr_refl _ m)) (fr_mono (fg_X14_isOf_20 h) (by decide))
def S_X14_base : fr_S := [(206, 206, some 0), (206, 206, some 1), (206, 206, some 2), (206, 206, some 55), (236, 236, none), (237, 237, none), (238, 238, none)]
theorem fg_X14_base_102 {w : rf_w} {rec53 : Int32 → Int32 → Int32 → Int32 → Int32 → Int32 → rf_m → Option (Int32 × rf_m)} {a1 : Int32} {a2 : Int32} {a3 : Int32} {a4 : Int32} {a5 : Int32} {a6 : Int32} {m : rf_m} (hr_rec53 : ∀ {x0 : Int32} {x1 : Int32} {x2 : Int32} {x3 : Int32} {x4 : Int32} {x5 : Int32} {m : rf_m} {r : (Int32 × rf_m)}, rec53 x0 x1 x2 x3 x4 x5 m = some r → fr S_X14_base m r.2) {r : (Int32 × rf_m)} (h : g_X14_base_102 w rec53 a1 a2 a3 a4 a5 a6 m = some r) : fr S_X14_base m r.2 := by
  unfold g_X14_base_102 at h
  exact fr_trans ((fr_refl _ m)) (hr_rec53 h)
theorem fg_X14_base_100 {w : rf_w} {rec53 : Int32 → Int32 → Int32 → Int32 → Int32 → Int32 → rf_m → Option (Int32 × rf_m)} {a1 : Int32} {a2 : Int32} {a3 : Int32} {a4 : Int32} {a6 : Int32} {s0 : Int32} {m : rf_m} (hr_rec53 : ∀ {x0 : Int32} {x1 : Int32} {x2 : Int32} {x3 : Int32} {x4 : Int32} {x5 : Int32} {m : rf_m} {r : (Int32 × rf_m)}, rec53 x0 x1 x2 x3 x4 x5 m = some r → fr S_X14_base m r.2) {r : (Int32 × rf_m)} (h : g_X14_base_100 w rec53 a1 a2 a3 a4 a6 s0 m = some r) : fr S_X14_base m r.2 := by
  unfold g_X14_base_100 at h
  exact fr_trans ((fr_refl _ m)) (fr_mono (fg_X14_base_102 hr_rec53 h) (by decide))
theorem fg_X14_base_95 {w : rf_w} {rec53 : Int32 → Int32 → Int32 → Int32 → Int32 → Int32 → rf_m → Option (Int32 × rf_m)} {a1 : Int32} {a2 : Int32} {a3 : Int32} {a4 : Int32} {a6 : Int32} {m : rf_m} (hr_rec53 : ∀ {x0 : Int32} {x1 : Int32} {x2 : Int32} {x3 : Int32} {x4 : Int32} {x5 : Int32} {m : rf_m} {r : (Int32 × rf_m)}, rec53 x0 x1 x2 x3 x4 x5 m = some r → fr S_X14_base m r.2) {r : (Int32 × rf_m)} (h : g_X14_base_95 w rec53 a1 a2 a3 a4 a6 m = some r) : fr S_X14_base m r.2 := by
  unfold g_X14_base_95 at h
  exact fr_trans ((fr_refl _ m)) (fr_mono (fg_X14_base_100 hr_rec53 h) (by decide))
theorem fg_X14_base_53_b {w : rf_w} {rec53 : Int32 → Int32 → Int32 → Int32 → Int32 → Int32 → rf_m → Option (Int32 × rf_m)} {a1 : Int32} {a2 : Int32} {a3 : Int32} {a4 : Int32} {a5 : Int32} {a6 : Int32} {m : rf_m} (hr_rec53 : ∀ {x0 : Int32} {x1 : Int32} {x2 : Int32} {x3 : Int32} {x4 : Int32} {x5 : Int32} {m : rf_m} {r : (Int32 × rf_m)}, rec53 x0 x1 x2 x3 x4 x5 m = some r → fr S_X14_base m r.2) {r : (Int32 × rf_m)} (h : g_X14_base_53_b w rec53 a1 a2 a3 a4 a5 a6 m = some r) : fr S_X14_base m r.2 := by
  unfold g_X14_base_53_b at h
  rcases rf_ite_some h with ⟨_, h⟩ | ⟨_, h⟩
  · rcases rf_ite_some h with ⟨_, h⟩ | ⟨_, h⟩
    · rcases rf_ite_some h with ⟨_, h⟩ | ⟨_, h⟩
      · rcases rf_ite_some h with ⟨_, h⟩ | ⟨_, h⟩
        · obtain ⟨y5, m5, q1, h⟩ := rf_b_some h
          have e1 : fr S_X14_base m m5 := fr_trans ((fr_refl _ m)) (fr_mono (fg_X14_refused q1) (by decide))
          obtain rfl := Option.some.inj h
          exact e1
        · obtain ⟨_, h⟩ := rf_g_some h
          obtain ⟨_, h⟩ := rf_g_some h
          obtain ⟨_, h⟩ := rf_g_some h
          obtain ⟨y4, m4, q2, h⟩ := rf_b_some h
          have e2 : fr S_X14_base m m4 := fr_trans (fr_i (fr_i (fr_i (fr_i ((fr_refl _ m)) (fr_c_in (by decide) _)) (fr_c_in (by decide) _)) (fr_c_in (by decide) _)) (by decide)) (fr_mono (fg_X14_done q2) (by decide))
          obtain rfl := Option.some.inj h
          exact e2
      · obtain ⟨y6, m6, q3, h⟩ := rf_b_some h
        have e3 : fr S_X14_base m m6 := fr_trans ((fr_refl _ m)) (fr_mono (fg_X14_refused q3) (by decide))
        obtain rfl := Option.some.inj h
        exact e3
    · obtain ⟨y0, m0, q4, h⟩ := rf_b_some h
      have e4 : fr S_X14_base m m0 := fr_trans ((fr_refl _ m)) (fr_mono (fg_X14_refused q4) (by decide))
      obtain rfl := Option.some.inj h
      exact e4
  · obtain ⟨y7, m7, q5, h⟩ := rf_b_some h
    have e5 : fr S_X14_base m m7 := fr_trans ((fr_refl _ m)) (fr_mono (fg_X14_isOf q5) (by decide))
    rcases rf_ite_some h with ⟨_, h⟩ | ⟨_, h⟩
    · exact fr_trans e5 (fr_mono (fg_X14_base_102 hr_rec53 h) (by decide))
    · rcases rf_ite_some h with ⟨_, h⟩ | ⟨_, h⟩
      · obtain ⟨_, h⟩ := rf_g_some h
        rcases rf_ite_some h with ⟨_, h⟩ | ⟨_, h⟩
        · exact fr_trans e5 (fr_mono (fg_X14_base_95 hr_rec53 h) (by decide))
        · exact fr_trans e5 (fr_mono (fg_X14_base_100 hr_rec53 h) (by decide))
      · exact fr_trans e5 (fr_mono (fg_X14_base_95 hr_rec53 h) (by decide))
theorem fg_X14_base_53 {w : rf_w} (n : Nat) : ∀ {a1 : Int32} {a2 : Int32} {a3 : Int32} {a4 : Int32} {a5 : Int32} {a6 : Int32} {m : rf_m} {r : (Int32 × rf_m)}, g_X14_base_53 w n a1 a2 a3 a4 a5 a6 m = some r → fr S_X14_base m r.2 := by
  induction n with
  | zero => intro a1 a2 a3 a4 a5 a6 m r h; cases h
  | succ n ih =>
    intro a1 a2 a3 a4 a5 a6 m r h
    exact fg_X14_base_53_b ih h
theorem fg_X14_base_48 {w : rf_w} {a1 : Int32} {a2 : Int32} {a3 : Int32} {a4 : Int32} {s0 : Int32} {m : rf_m} {r : (Int32 × rf_m)} (h : g_X14_base_48 w a1 a2 a3 a4 s0 m = some r) : fr S_X14_base m r.2 := by
  unfold g_X14_base_48 at h
  exact fr_trans ((fr_refl _ m)) (fr_mono (fg_X14_base_53 _ h) (by decide))
theorem fg_X14_base {w : rf_w} {m : rf_m} {a1 : Int32} {a2 : Int32} {a3 : Int32} {r : (Int32 × rf_m)} (h : g_X14_base w m a1 a2 a3 = some r) : fr S_X14_base m r.2 := by
  unfold g_X14_base at h
  obtain ⟨y0, m0, q1, h⟩ := rf_b_some h
  have e1 : fr S_X14_base m m0 := fr_trans (fr_i ((fr_refl _ m)) (by decide)) (fr_mono (fg_X14_isMark q1) (by decide))
  rcases rf_ite_some h with ⟨_, h⟩ | ⟨_, h⟩
  · obtain ⟨y1, m1, q2, h⟩ := rf_b_some h
    have e2 : fr S_X14_base m m1 := fr_trans e1 (fr_mono (fg_X14_refused q2) (by decide))
    obtain rfl := Option.some.inj h
    exact e2
  · obtain ⟨y2, m2, q3, h⟩ := rf_b_some h
    have e3 : fr S_X14_base m m2 := fr_trans e1 (fr_mono (fg_X14_isMark q3) (by decide))
    rcases rf_ite_some h with ⟨_, h⟩ | ⟨_, h⟩
    · obtain ⟨y3, m3, q4, h⟩ := rf_b_some h
      have e4 : fr S_X14_base m m3 := fr_trans e3 (fr_mono (fg_X14_refused q4) (by decide))
      obtain rfl := Option.some.inj h
      exact e4
    · obtain ⟨y4, m4, q5, h⟩ := rf_b_some h
      have e5 : fr S_X14_base m m4 := fr_trans e3 (fr_mono (fg_X14_isParty q5) (by decide))
      rcases rf_ite_some h with ⟨_, h⟩ | ⟨_, h⟩
      · obtain ⟨y5, m5, q6, h⟩ := rf_b_some h
        have e6 : fr S_X14_base m m5 := fr_trans e5 (fr_mono (fg_X14_refused q6) (by decide))
        obtain rfl := Option.some.inj h
        exact e6
      · rcases rf_ite_some h with ⟨_, h⟩ | ⟨_, h⟩
        · exact fr_trans e5 (fr_mono (fg_X14_base_48 h) (by decide))
        · exact fr_trans e5 (fr_mono (fg_X14_base_48 h) (by decide))
def S_X14_bar : fr_S := [(206, 206, some 0), (206, 206, some 1), (206, 206, some 2), (239, 239, none), (240, 240, none), (241, 241, none), (242, 242, none)]
theorem fg_X14_bar {w : rf_w} {m : rf_m} {a1 : Int32} {a2 : Int32} {a3 : Int32} {a4 : Int32} {r : (Int32 × rf_m)} (h : g_X14_bar w m a1 a2 a3 a4 = some r) : fr S_X14_bar m r.2 := by
  unfold g_X14_bar at h
  obtain ⟨y0, m0, q1, h⟩ := rf_b_some h
  have e1 : fr S_X14_bar m m0 := fr_trans (fr_i ((fr_refl _ m)) (by decide)) (fr_mono (fg_X14_isBase q1) (by decide))
  rcases rf_ite_some h with ⟨_, h⟩ | ⟨_, h⟩
  · obtain ⟨y19, m19, q2, h⟩ := rf_b_some h
    have e2 : fr S_X14_bar m m19 := fr_trans e1 (fr_mono (fg_X14_refused q2) (by decide))
    obtain rfl := Option.some.inj h
    exact e2
  · obtain ⟨y1, m1, q3, h⟩ := rf_b_some h
    have e3 : fr S_X14_bar m m1 := fr_trans e1 (fr_mono (fg_X14_in q3) (by decide))
    rcases rf_ite_some h with ⟨_, h⟩ | ⟨_, h⟩
    · obtain ⟨y2, m2, q4, h⟩ := rf_b_some h
      have e4 : fr S_X14_bar m m2 := fr_trans e3 (fr_mono (fg_X14_refused q4) (by decide))
      obtain rfl := Option.some.inj h
      exact e4
    · obtain ⟨y3, m3, q5, h⟩ := rf_b_some h
      have e5 : fr S_X14_bar m m3 := fr_trans e3 (fr_mono (fg_X14_in q5) (by decide))
      rcases rf_ite_some h with ⟨_, h⟩ | ⟨_, h⟩
      · obtain ⟨y4, m4, q6, h⟩ := rf_b_some h
        have e6 : fr S_X14_bar m m4 := fr_trans e5 (fr_mono (fg_X14_refused q6) (by decide))
        obtain rfl := Option.some.inj h
        exact e6
      · obtain ⟨y5, m5, q7, h⟩ := rf_b_some h
        have e7 : fr S_X14_bar m m5 := fr_trans e5 (fr_mono (fg_X14_in q7) (by decide))
        rcases rf_ite_some h with ⟨_, h⟩ | ⟨_, h⟩
        · obtain ⟨y6, m6, q8, h⟩ := rf_b_some h
          have e8 : fr S_X14_bar m m6 := fr_trans e7 (fr_mono (fg_X14_refused q8) (by decide))
          obtain rfl := Option.some.inj h
          exact e8
        · rcases rf_ite_some h with ⟨_, h⟩ | ⟨_, h⟩
          · obtain ⟨_, h⟩ := rf_g_some h
            rcases rf_ite_some h with ⟨_, h⟩ | ⟨_, h⟩
            · obtain ⟨y17, m17, q9, h⟩ := rf_b_some h
              have e9 : fr S_X14_bar m m17 := fr_trans e7 (fr_mono (fg_X14_refused q9) (by decide))
              obtain rfl := Option.some.inj h
              exact e9
            · obtain ⟨_, h⟩ := rf_g_some h
              have h := fr_vi h
              obtain ⟨_, h⟩ := rf_g_some h
              obtain ⟨_, h⟩ := rf_g_some h
              obtain ⟨_, h⟩ := rf_g_some h
              obtain ⟨_, h⟩ := rf_g_some h
              obtain ⟨_, h⟩ := rf_g_some h
              obtain ⟨_, h⟩ := rf_g_some h
              obtain ⟨y16, m16, q10, h⟩ := rf_b_some h
              have e10 : fr S_X14_bar m m16 := fr_trans (fr_i (fr_i (fr_i (fr_i e7 (fr_c_in (by decide) _)) (fr_c_in (by decide) _)) (fr_c_in (by decide) _)) (fr_c_in (by decide) _)) (fr_mono (fg_X14_done q10) (by decide))
              obtain rfl := Option.some.inj h
              exact e10
          · obtain ⟨y18, m18, q11, h⟩ := rf_b_some h
            have e11 : fr S_X14_bar m m18 := fr_trans e7 (fr_mono (fg_X14_refused q11) (by decide))
            obtain rfl := Option.some.inj h
            exact e11
def S_X14_growth : fr_S := [(206, 206, some 0), (206, 206, some 1), (206, 206, some 2), (206, 206, some 56)]
theorem fg_X14_growth {w : rf_w} {m : rf_m} {a1 : Int32} {r : (Int32 × rf_m)} (h : g_X14_growth w m a1 = some r) : fr S_X14_growth m r.2 := by
  unfold g_X14_growth at h
  obtain ⟨y0, m0, q1, h⟩ := rf_b_some h
  have e1 : fr S_X14_growth m m0 := fr_trans (fr_i ((fr_refl _ m)) (by decide)) (fr_mono (fg_X14_in q1) (by decide))
  rcases rf_ite_some h with ⟨_, h⟩ | ⟨_, h⟩
  · obtain ⟨y2, m2, q2, h⟩ := rf_b_some h
    have e2 : fr S_X14_growth m m2 := fr_trans e1 (fr_mono (fg_X14_denied q2) (by decide))
    obtain ⟨_, h⟩ := rf_g_some h
    obtain rfl := Option.some.inj h
    exact e2
  · obtain ⟨y1, m1, q3, h⟩ := rf_b_some h
    have e3 : fr S_X14_growth m m1 := fr_trans (fr_i e1 (by decide)) (fr_mono (fg_X14_granted q3) (by decide))
    obtain ⟨_, h⟩ := rf_g_some h
    obtain rfl := Option.some.inj h
    exact e3
def S_X14_lengthOf : fr_S := []
theorem fg_X14_lengthOf_7_b {w : rf_w} {rec7 : Int32 → Int32 → Int32 → rf_m → Option (Int32 × rf_m)} {a1 : Int32} {a2 : Int32} {a3 : Int32} {m : rf_m} (hr_rec7 : ∀ {x0 : Int32} {x1 : Int32} {x2 : Int32} {m : rf_m} {r : (Int32 × rf_m)}, rec7 x0 x1 x2 m = some r → fr S_X14_lengthOf m r.2) {r : (Int32 × rf_m)} (h : g_X14_lengthOf_7_b w rec7 a1 a2 a3 m = some r) : fr S_X14_lengthOf m r.2 := by
  unfold g_X14_lengthOf_7_b at h
  obtain ⟨_, h⟩ := rf_g_some h
  rcases rf_ite_some h with ⟨_, h⟩ | ⟨_, h⟩
  · obtain rfl := Option.some.inj h
    exact (fr_refl _ m)
  · obtain ⟨_, h⟩ := rf_g_some h
    obtain ⟨_, h⟩ := rf_g_some h
    obtain ⟨_, h⟩ := rf_g_some h
    obtain ⟨_, h⟩ := rf_g_some h
    obtain ⟨_, h⟩ := rf_g_some h
    obtain ⟨_, h⟩ := rf_g_some h
    obtain ⟨_, h⟩ := rf_g_some h
    have h := fr_vi h
    exact fr_trans ((fr_refl _ m)) (hr_rec7 h)
theorem fg_X14_lengthOf_7 {w : rf_w} (n : Nat) : ∀ {a1 : Int32} {a2 : Int32} {a3 : Int32} {m : rf_m} {r : (Int32 × rf_m)}, g_X14_lengthOf_7 w n a1 a2 a3 m = some r → fr S_X14_lengthOf m r.2 := by
  induction n with
  | zero => intro a1 a2 a3 m r h; cases h
  | succ n ih =>
    intro a1 a2 a3 m r h
    exact fg_X14_lengthOf_7_b ih h
theorem fg_X14_lengthOf {w : rf_w} {m : rf_m} {a1 : Int32} {r : (Int32 × rf_m)} (h : g_X14_lengthOf w m a1 = some r) : fr S_X14_lengthOf m r.2 := by
  unfold g_X14_lengthOf at h
  exact fr_trans ((fr_refl _ m)) (fr_mono (fg_X14_lengthOf_7 _ h) (by decide))
def S_X14_twinOf : fr_S := []
theorem fg_X14_twinOf_37 {w : rf_w} {rec2 : Int32 → Int32 → rf_m → Option (Int32 × rf_m)} {a1 : Int32} {a2 : Int32} {m : rf_m} (hr_rec2 : ∀ {x0 : Int32} {x1 : Int32} {m : rf_m} {r : (Int32 × rf_m)}, rec2 x0 x1 m = some r → fr S_X14_twinOf m r.2) {r : (Int32 × rf_m)} (h : g_X14_twinOf_37 w rec2 a1 a2 m = some r) : fr S_X14_twinOf m r.2 := by
  unfold g_X14_twinOf_37 at h
  exact fr_trans ((fr_refl _ m)) (hr_rec2 h)
theorem fg_X14_twinOf_2_b {w : rf_w} {rec2 : Int32 → Int32 → rf_m → Option (Int32 × rf_m)} {a1 : Int32} {a2 : Int32} {m : rf_m} (hr_rec2 : ∀ {x0 : Int32} {x1 : Int32} {m : rf_m} {r : (Int32 × rf_m)}, rec2 x0 x1 m = some r → fr S_X14_twinOf m r.2) {r : (Int32 × rf_m)} (h : g_X14_twinOf_2_b w rec2 a1 a2 m = some r) : fr S_X14_twinOf m r.2 := by
  unfold g_X14_twinOf_2_b at h
  rcases rf_ite_some h with ⟨_, h⟩ | ⟨_, h⟩
  · obtain rfl := Option.some.inj h
    exact (fr_refl _ m)
  · rcases rf_ite_some h with ⟨_, h⟩ | ⟨_, h⟩
    · exact fr_trans ((fr_refl _ m)) (fr_mono (fg_X14_twinOf_37 hr_rec2 h) (by decide))
    · obtain ⟨_, h⟩ := rf_g_some h
      obtain ⟨_, h⟩ := rf_g_some h
      obtain ⟨y2, m2, q1, h⟩ := rf_b_some h
      have e1 : fr S_X14_twinOf m m2 := fr_trans ((fr_refl _ m)) (fr_mono (fg_X14_isOf q1) (by decide))
      rcases rf_ite_some h with ⟨_, h⟩ | ⟨_, h⟩
      · exact fr_trans e1 (fr_mono (fg_X14_twinOf_37 hr_rec2 h) (by decide))
      · obtain rfl := Option.some.inj h
        exact e1
theorem fg_X14_twinOf_2 {w : rf_w} (n : Nat) : ∀ {a1 : Int32} {a2 : Int32} {m : rf_m} {r : (Int32 × rf_m)}, g_X14_twinOf_2 w n a1 a2 m = some r → fr S_X14_twinOf m r.2 := by
  induction n with
  | zero => intro a1 a2 m r h; cases h
  | succ n ih =>
    intro a1 a2 m r h
    exact fg_X14_twinOf_2_b ih h
theorem fg_X14_twinOf {w : rf_w} {m : rf_m} {a1 : Int32} {r : (Int32 × rf_m)} (h : g_X14_twinOf w m a1 = some r) : fr S_X14_twinOf m r.2 := by
  unfold g_X14_twinOf at h
  exact fr_trans ((fr_refl _ m)) (fr_mono (fg_X14_twinOf_2 _ h) (by decide))
def S_X14_isTorn : fr_S := []
theorem fg_X14_isTorn {w : rf_w} {m : rf_m} {a1 : Int32} {a2 : Int32} {r : (Int32 × rf_m)} (h : g_X14_isTorn w m a1 a2 = some r) : fr S_X14_isTorn m r.2 := by
  unfold g_X14_isTorn at h
  obtain ⟨y0, m0, q1, h⟩ := rf_b_some h
  have e1 : fr S_X14_isTorn m m0 := fr_trans ((fr_refl _ m)) (fr_mono (fg_X14_lengthOf q1) (by decide))
  obtain ⟨_, h⟩ := rf_g_some h
  obtain ⟨y2, m2, q2, h⟩ := rf_b_some h
  have e2 : fr S_X14_isTorn m m2 := fr_trans e1 (fr_mono (fg_X14_lengthOf q2) (by decide))
  obtain ⟨_, h⟩ := rf_g_some h
  obtain ⟨y4, m4, q3, h⟩ := rf_b_some h
  have e3 : fr S_X14_isTorn m m4 := fr_trans e2 (fr_mono (fg_max q3) (by decide))
  obtain ⟨y5, m5, q4, h⟩ := rf_b_some h
  have e4 : fr S_X14_isTorn m m5 := fr_trans e3 (fr_mono (fg_X14_lengthOf q4) (by decide))
  obtain ⟨_, h⟩ := rf_g_some h
  obtain ⟨y7, m7, q5, h⟩ := rf_b_some h
  have e5 : fr S_X14_isTorn m m7 := fr_trans e4 (fr_mono (fg_X14_lengthOf q5) (by decide))
  obtain ⟨_, h⟩ := rf_g_some h
  obtain ⟨y9, m9, q6, h⟩ := rf_b_some h
  have e6 : fr S_X14_isTorn m m9 := fr_trans e5 (fr_mono (fg_min q6) (by decide))
  rcases rf_ite_some h with ⟨_, h⟩ | ⟨_, h⟩
  · obtain rfl := Option.some.inj h
    exact e6
  · obtain rfl := Option.some.inj h
    exact e6
def S_X14_spanOf : fr_S := []
theorem fg_X14_spanOf_78 {w : rf_w} {a1 : Int32} {a2 : Int32} {a3 : Int32} {a4 : Int32} {s0 : Int32} {m : rf_m} {r : (Int32 × rf_m)} (h : g_X14_spanOf_78 w a1 a2 a3 a4 s0 m = some r) : fr S_X14_spanOf m r.2 := by
  unfold g_X14_spanOf_78 at h
  obtain ⟨y0, m0, q1, h⟩ := rf_b_some h
  have e1 : fr S_X14_spanOf m m0 := fr_trans ((fr_refl _ m)) (fr_mono (fg_X14_isTorn q1) (by decide))
  rcases rf_ite_some h with ⟨_, h⟩ | ⟨_, h⟩
  · obtain ⟨y2, m2, q2, h⟩ := rf_b_some h
    have e2 : fr S_X14_spanOf m m2 := fr_trans e1 (fr_mono (fg_max q2) (by decide))
    obtain rfl := Option.some.inj h
    exact e2
  · obtain ⟨y1, m1, q3, h⟩ := rf_b_some h
    have e3 : fr S_X14_spanOf m m1 := fr_trans e1 (fr_mono (fg_min q3) (by decide))
    obtain rfl := Option.some.inj h
    exact e3
theorem fg_X14_spanOf_37 {w : rf_w} {a1 : Int32} {a2 : Int32} {a3 : Int32} {s0 : Int32} {m : rf_m} {r : (Int32 × rf_m)} (h : g_X14_spanOf_37 w a1 a2 a3 s0 m = some r) : fr S_X14_spanOf m r.2 := by
  unfold g_X14_spanOf_37 at h
  rcases rf_ite_some h with ⟨_, h⟩ | ⟨_, h⟩
  · obtain rfl := Option.some.inj h
    exact (fr_refl _ m)
  · rcases rf_ite_some h with ⟨_, h⟩ | ⟨_, h⟩
    · obtain ⟨y0, m0, q1, h⟩ := rf_b_some h
      have e1 : fr S_X14_spanOf m m0 := fr_trans ((fr_refl _ m)) (fr_mono (fg_X14_lengthOf q1) (by decide))
      obtain ⟨_, h⟩ := rf_g_some h
      exact fr_trans e1 (fr_mono (fg_X14_spanOf_78 h) (by decide))
    · obtain ⟨y2, m2, q2, h⟩ := rf_b_some h
      have e2 : fr S_X14_spanOf m m2 := fr_trans ((fr_refl _ m)) (fr_mono (fg_X14_lengthOf q2) (by decide))
      obtain ⟨_, h⟩ := rf_g_some h
      exact fr_trans e2 (fr_mono (fg_X14_spanOf_78 h) (by decide))
theorem fg_X14_spanOf {w : rf_w} {m : rf_m} {a1 : Int32} {a2 : Int32} {r : (Int32 × rf_m)} (h : g_X14_spanOf w m a1 a2 = some r) : fr S_X14_spanOf m r.2 := by
  unfold g_X14_spanOf at h
  obtain ⟨y0, m0, q1, h⟩ := rf_b_some h
  have e1 : fr S_X14_spanOf m m0 := fr_trans ((fr_refl _ m)) (fr_mono (fg_X14_twinOf q1) (by decide))
  rcases rf_ite_some h with ⟨_, h⟩ | ⟨_, h⟩
  · obtain ⟨y1, m1, q2, h⟩ := rf_b_some h
    have e2 : fr S_X14_spanOf m m1 := fr_trans e1 (fr_mono (fg_X14_lengthOf q2) (by decide))
    obtain ⟨_, h⟩ := rf_g_some h
    exact fr_trans e2 (fr_mono (fg_X14_spanOf_37 h) (by decide))
  · obtain ⟨y3, m3, q3, h⟩ := rf_b_some h
    have e3 : fr S_X14_spanOf m m3 := fr_trans e1 (fr_mono (fg_X14_lengthOf q3) (by decide))
    obtain ⟨_, h⟩ := rf_g_some h
    exact fr_trans e3 (fr_mono (fg_X14_spanOf_37 h) (by decide))
def S_X14_baseOf : fr_S := [(206, 206, some 0)]
theorem fg_X14_baseOf {w : rf_w} {m : rf_m} {a1 : Int32} {a2 : Int32} {r : (Int32 × rf_m)} (h : g_X14_baseOf w m a1 a2 = some r) : fr S_X14_baseOf m r.2 := by
  unfold g_X14_baseOf at h
  obtain ⟨y0, m0, q1, h⟩ := rf_b_some h
  have e1 : fr S_X14_baseOf m m0 := fr_trans (fr_i ((fr_refl _ m)) (by decide)) (fr_mono (fg_X14_isBase q1) (by decide))
  rcases rf_ite_some h with ⟨_, h⟩ | ⟨_, h⟩
  · obtain rfl := Option.some.inj h
    exact e1
  · rcases rf_ite_some h with ⟨_, h⟩ | ⟨_, h⟩
    · obtain ⟨y1, m1, q2, h⟩ := rf_b_some h
      have e2 : fr S_X14_baseOf m m1 := fr_trans e1 (fr_mono (fg_X14_lengthOf q2) (by decide))
      obtain rfl := Option.some.inj h
      exact e2
    · rcases rf_ite_some h with ⟨_, h⟩ | ⟨_, h⟩
      · obtain ⟨_, h⟩ := rf_g_some h
        obtain rfl := Option.some.inj h
        exact e1
      · rcases rf_ite_some h with ⟨_, h⟩ | ⟨_, h⟩
        · obtain ⟨y3, m3, q3, h⟩ := rf_b_some h
          have e3 : fr S_X14_baseOf m m3 := fr_trans e1 (fr_mono (fg_X14_spanOf q3) (by decide))
          obtain rfl := Option.some.inj h
          exact e3
        · rcases rf_ite_some h with ⟨_, h⟩ | ⟨_, h⟩
          · obtain ⟨y4, m4, q4, h⟩ := rf_b_some h
            have e4 : fr S_X14_baseOf m m4 := fr_trans e1 (fr_mono (fg_X14_spanOf q4) (by decide))
            obtain rfl := Option.some.inj h
            exact e4
          · rcases rf_ite_some h with ⟨_, h⟩ | ⟨_, h⟩
            · obtain ⟨y5, m5, q5, h⟩ := rf_b_some h
              have e5 : fr S_X14_baseOf m m5 := fr_trans e1 (fr_mono (fg_X14_twinOf q5) (by decide))
              rcases rf_ite_some h with ⟨_, h⟩ | ⟨_, h⟩
              · obtain rfl := Option.some.inj h
                exact e5
              · obtain ⟨y6, m6, q6, h⟩ := rf_b_some h
                have e6 : fr S_X14_baseOf m m6 := fr_trans e5 (fr_mono (fg_X14_twinOf q6) (by decide))
                obtain ⟨y7, m7, q7, h⟩ := rf_b_some h
                have e7 : fr S_X14_baseOf m m7 := fr_trans e6 (fr_mono (fg_X14_isTorn q7) (by decide))
                rcases rf_ite_some h with ⟨_, h⟩ | ⟨_, h⟩
                · obtain rfl := Option.some.inj h
                  exact e7
                · obtain rfl := Option.some.inj h
                  exact e7
            · obtain rfl := Option.some.inj h
              exact e1
def S_X14_isTriangle : fr_S := []
theorem fg_X14_isTriangle {w : rf_w} {m : rf_m} {a1 : Int32} {r : (Int32 × rf_m)} (h : g_X14_isTriangle w m a1 = some r) : fr S_X14_isTriangle m r.2 := by
  unfold g_X14_isTriangle at h
  rcases rf_ite_some h with ⟨_, h⟩ | ⟨_, h⟩
  · obtain rfl := Option.some.inj h
    exact (fr_refl _ m)
  · rcases rf_ite_some h with ⟨_, h⟩ | ⟨_, h⟩
    · obtain rfl := Option.some.inj h
      exact (fr_refl _ m)
    · obtain rfl := Option.some.inj h
      exact (fr_refl _ m)
def S_X14_isBetween : fr_S := []
theorem fg_X14_isBetween_20 {w : rf_w} {a1 : Int32} {a2 : Int32} {a3 : Int32} {m : rf_m} {r : (Int32 × rf_m)} (h : g_X14_isBetween_20 w a1 a2 a3 m = some r) : fr S_X14_isBetween m r.2 := by
  unfold g_X14_isBetween_20 at h
  obtain ⟨_, h⟩ := rf_g_some h
  rcases rf_ite_some h with ⟨_, h⟩ | ⟨_, h⟩
  · obtain ⟨_, h⟩ := rf_g_some h
    rcases rf_ite_some h with ⟨_, h⟩ | ⟨_, h⟩
    · obtain rfl := Option.some.inj h
      exact (fr_refl _ m)
    · obtain rfl := Option.some.inj h
      exact (fr_refl _ m)
  · obtain rfl := Option.some.inj h
    exact (fr_refl _ m)
theorem fg_X14_isBetween {w : rf_w} {m : rf_m} {a1 : Int32} {a2 : Int32} {a3 : Int32} {r : (Int32 × rf_m)} (h : g_X14_isBetween w m a1 a2 a3 = some r) : fr S_X14_isBetween m r.2 := by
  unfold g_X14_isBetween at h
  obtain ⟨_, h⟩ := rf_g_some h
  rcases rf_ite_some h with ⟨_, h⟩ | ⟨_, h⟩
  · obtain ⟨_, h⟩ := rf_g_some h
    rcases rf_ite_some h with ⟨_, h⟩ | ⟨_, h⟩
    · obtain rfl := Option.some.inj h
      exact (fr_refl _ m)
    · exact fr_trans ((fr_refl _ m)) (fr_mono (fg_X14_isBetween_20 h) (by decide))
  · exact fr_trans ((fr_refl _ m)) (fr_mono (fg_X14_isBetween_20 h) (by decide))
def S_X14_triangle : fr_S := [(206, 206, some 0), (206, 206, some 1), (206, 206, some 2), (206, 206, some 64), (243, 243, none), (244, 244, none)]
theorem fg_X14_triangle {w : rf_w} {m : rf_m} {a1 : Int32} {a2 : Int32} {a3 : Int32} {a4 : Int32} {r : (Int32 × rf_m)} (h : g_X14_triangle w m a1 a2 a3 a4 = some r) : fr S_X14_triangle m r.2 := by
  unfold g_X14_triangle at h
  obtain ⟨y0, m0, q1, h⟩ := rf_b_some h
  have e1 : fr S_X14_triangle m m0 := fr_trans (fr_i ((fr_refl _ m)) (by decide)) (fr_mono (fg_X14_isAngle q1) (by decide))
  rcases rf_ite_some h with ⟨_, h⟩ | ⟨_, h⟩
  · obtain ⟨y1, m1, q2, h⟩ := rf_b_some h
    have e2 : fr S_X14_triangle m m1 := fr_trans e1 (fr_mono (fg_X14_refused q2) (by decide))
    obtain rfl := Option.some.inj h
    exact e2
  · obtain ⟨y2, m2, q3, h⟩ := rf_b_some h
    have e3 : fr S_X14_triangle m m2 := fr_trans e1 (fr_mono (fg_X14_isAngle q3) (by decide))
    rcases rf_ite_some h with ⟨_, h⟩ | ⟨_, h⟩
    · obtain ⟨y3, m3, q4, h⟩ := rf_b_some h
      have e4 : fr S_X14_triangle m m3 := fr_trans e3 (fr_mono (fg_X14_refused q4) (by decide))
      obtain rfl := Option.some.inj h
      exact e4
    · obtain ⟨y4, m4, q5, h⟩ := rf_b_some h
      have e5 : fr S_X14_triangle m m4 := fr_trans e3 (fr_mono (fg_X14_isAngle q5) (by decide))
      rcases rf_ite_some h with ⟨_, h⟩ | ⟨_, h⟩
      · obtain ⟨y28, m28, q6, h⟩ := rf_b_some h
        have e6 : fr S_X14_triangle m m28 := fr_trans e5 (fr_mono (fg_X14_refused q6) (by decide))
        obtain rfl := Option.some.inj h
        exact e6
      · obtain ⟨y5, m5, q7, h⟩ := rf_b_some h
        have e7 : fr S_X14_triangle m m5 := fr_trans e5 (fr_mono (fg_X14_in q7) (by decide))
        rcases rf_ite_some h with ⟨_, h⟩ | ⟨_, h⟩
        · obtain ⟨y27, m27, q8, h⟩ := rf_b_some h
          have e8 : fr S_X14_triangle m m27 := fr_trans e7 (fr_mono (fg_X14_refused q8) (by decide))
          obtain rfl := Option.some.inj h
          exact e8
        · obtain ⟨_, h⟩ := rf_g_some h
          have h := fr_vi h
          obtain ⟨_, h⟩ := rf_g_some h
          have h := fr_vi h
          obtain ⟨_, h⟩ := rf_g_some h
          have h := fr_vi h
          rcases rf_ite_some h with ⟨_, h⟩ | ⟨_, h⟩
          · obtain ⟨y12, m12, q9, h⟩ := rf_b_some h
            have e9 : fr S_X14_triangle m m12 := fr_trans e7 (fr_mono (fg_X14_refused q9) (by decide))
            obtain rfl := Option.some.inj h
            exact e9
          · rcases rf_ite_some h with ⟨_, h⟩ | ⟨_, h⟩
            · obtain ⟨y13, m13, q10, h⟩ := rf_b_some h
              have e10 : fr S_X14_triangle m m13 := fr_trans e7 (fr_mono (fg_X14_refused q10) (by decide))
              obtain rfl := Option.some.inj h
              exact e10
            · rcases rf_ite_some h with ⟨_, h⟩ | ⟨_, h⟩
              · obtain ⟨y14, m14, q11, h⟩ := rf_b_some h
                have e11 : fr S_X14_triangle m m14 := fr_trans e7 (fr_mono (fg_X14_refused q11) (by decide))
                obtain rfl := Option.some.inj h
                exact e11
              · obtain ⟨y15, m15, q12, h⟩ := rf_b_some h
                have e12 : fr S_X14_triangle m m15 := fr_trans e7 (fr_mono (fg_X14_isBetween q12) (by decide))
                rcases rf_ite_some h with ⟨_, h⟩ | ⟨_, h⟩
                · obtain ⟨y16, m16, q13, h⟩ := rf_b_some h
                  have e13 : fr S_X14_triangle m m16 := fr_trans e12 (fr_mono (fg_X14_refused q13) (by decide))
                  obtain rfl := Option.some.inj h
                  exact e13
                · obtain ⟨y17, m17, q14, h⟩ := rf_b_some h
                  have e14 : fr S_X14_triangle m m17 := fr_trans e12 (fr_mono (fg_X14_isBetween q14) (by decide))
                  rcases rf_ite_some h with ⟨_, h⟩ | ⟨_, h⟩
                  · obtain ⟨y18, m18, q15, h⟩ := rf_b_some h
                    have e15 : fr S_X14_triangle m m18 := fr_trans e14 (fr_mono (fg_X14_refused q15) (by decide))
                    obtain rfl := Option.some.inj h
                    exact e15
                  · obtain ⟨y19, m19, q16, h⟩ := rf_b_some h
                    have e16 : fr S_X14_triangle m m19 := fr_trans e14 (fr_mono (fg_X14_isBetween q16) (by decide))
                    rcases rf_ite_some h with ⟨_, h⟩ | ⟨_, h⟩
                    · obtain ⟨y26, m26, q17, h⟩ := rf_b_some h
                      have e17 : fr S_X14_triangle m m26 := fr_trans e16 (fr_mono (fg_X14_refused q17) (by decide))
                      obtain rfl := Option.some.inj h
                      exact e17
                    · rcases rf_ite_some h with ⟨_, h⟩ | ⟨_, h⟩
                      · obtain ⟨y25, m25, q18, h⟩ := rf_b_some h
                        have e18 : fr S_X14_triangle m m25 := fr_trans e16 (fr_mono (fg_X14_refused q18) (by decide))
                        obtain rfl := Option.some.inj h
                        exact e18
                      · obtain ⟨_, h⟩ := rf_g_some h
                        obtain ⟨_, h⟩ := rf_g_some h
                        obtain ⟨_, h⟩ := rf_g_some h
                        obtain ⟨_, h⟩ := rf_g_some h
                        obtain ⟨y24, m24, q19, h⟩ := rf_b_some h
                        have e19 : fr S_X14_triangle m m24 := fr_trans (fr_i (fr_i (fr_i (fr_i (fr_i e16 (fr_c_in (by decide) _)) (fr_c_in (by decide) _)) (fr_c_in (by decide) _)) (fr_c_in (by decide) _)) (by decide)) (fr_mono (fg_X14_done q19) (by decide))
                        obtain rfl := Option.some.inj h
                        exact e19
def S_X14_round : fr_S := [(206, 206, some 0), (206, 206, some 1), (206, 206, some 2), (206, 206, some 65), (245, 245, none), (246, 246, none), (247, 247, none)]
theorem fg_X14_round_283_b {w : rf_w} {rec283 : Int32 → Int32 → rf_m → Option (Int32 × rf_m)} {a7 : Int32} {a9 : Int32} {m : rf_m} (hr_rec283 : ∀ {x0 : Int32} {x1 : Int32} {m : rf_m} {r : (Int32 × rf_m)}, rec283 x0 x1 m = some r → fr S_X14_round m r.2) {r : (Int32 × rf_m)} (h : g_X14_round_283_b w rec283 a7 a9 m = some r) : fr S_X14_round m r.2 := by
  unfold g_X14_round_283_b at h
  rcases rf_ite_some h with ⟨_, h⟩ | ⟨_, h⟩
  · obtain ⟨_, h⟩ := rf_g_some h
    obtain ⟨y1, m1, q1, h⟩ := rf_b_some h
    have e1 : fr S_X14_round m m1 := fr_trans (fr_i (fr_i ((fr_refl _ m)) (fr_c_in (by decide) _)) (by decide)) (fr_mono (fg_X14_done q1) (by decide))
    obtain rfl := Option.some.inj h
    exact e1
  · obtain ⟨_, h⟩ := rf_g_some h
    obtain ⟨_, h⟩ := rf_g_some h
    exact fr_trans (fr_i ((fr_refl _ m)) (fr_c_in (by decide) _)) (hr_rec283 h)
theorem fg_X14_round_283 {w : rf_w} (n : Nat) : ∀ {a7 : Int32} {a9 : Int32} {m : rf_m} {r : (Int32 × rf_m)}, g_X14_round_283 w n a7 a9 m = some r → fr S_X14_round m r.2 := by
  induction n with
  | zero => intro a7 a9 m r h; cases h
  | succ n ih =>
    intro a7 a9 m r h
    exact fg_X14_round_283_b ih h
theorem fg_X14_round_240 {w : rf_w} {rec113 : Int32 → Int32 → Int32 → rf_m → Option (Int32 × rf_m)} {rec206 : Int32 → Int32 → Int32 → Int32 → rf_m → Option (Int32 × rf_m)} {a7 : Int32} {a9 : Int32} {a11 : Int32} {s0 : Int32} {m : rf_m} (hr_rec113 : ∀ {x0 : Int32} {x1 : Int32} {x2 : Int32} {m : rf_m} {r : (Int32 × rf_m)}, rec113 x0 x1 x2 m = some r → fr S_X14_round m r.2) (hr_rec206 : ∀ {x0 : Int32} {x1 : Int32} {x2 : Int32} {x3 : Int32} {m : rf_m} {r : (Int32 × rf_m)}, rec206 x0 x1 x2 x3 m = some r → fr S_X14_round m r.2) {r : (Int32 × rf_m)} (h : g_X14_round_240 w rec113 rec206 a7 a9 a11 s0 m = some r) : fr S_X14_round m r.2 := by
  unfold g_X14_round_240 at h
  exact fr_trans ((fr_refl _ m)) (hr_rec206 h)
theorem fg_X14_round_239 {w : rf_w} {rec113 : Int32 → Int32 → Int32 → rf_m → Option (Int32 × rf_m)} {rec206 : Int32 → Int32 → Int32 → Int32 → rf_m → Option (Int32 × rf_m)} {a7 : Int32} {a9 : Int32} {a11 : Int32} {m : rf_m} (hr_rec113 : ∀ {x0 : Int32} {x1 : Int32} {x2 : Int32} {m : rf_m} {r : (Int32 × rf_m)}, rec113 x0 x1 x2 m = some r → fr S_X14_round m r.2) (hr_rec206 : ∀ {x0 : Int32} {x1 : Int32} {x2 : Int32} {x3 : Int32} {m : rf_m} {r : (Int32 × rf_m)}, rec206 x0 x1 x2 x3 m = some r → fr S_X14_round m r.2) {r : (Int32 × rf_m)} (h : g_X14_round_239 w rec113 rec206 a7 a9 a11 m = some r) : fr S_X14_round m r.2 := by
  unfold g_X14_round_239 at h
  exact fr_trans ((fr_refl _ m)) (fr_mono (fg_X14_round_240 hr_rec113 hr_rec206 h) (by decide))
theorem fg_X14_round_206_b {w : rf_w} {rec113 : Int32 → Int32 → Int32 → rf_m → Option (Int32 × rf_m)} {rec206 : Int32 → Int32 → Int32 → Int32 → rf_m → Option (Int32 × rf_m)} {a7 : Int32} {a8 : Int32} {a9 : Int32} {a11 : Int32} {m : rf_m} (hr_rec113 : ∀ {x0 : Int32} {x1 : Int32} {x2 : Int32} {m : rf_m} {r : (Int32 × rf_m)}, rec113 x0 x1 x2 m = some r → fr S_X14_round m r.2) (hr_rec206 : ∀ {x0 : Int32} {x1 : Int32} {x2 : Int32} {x3 : Int32} {m : rf_m} {r : (Int32 × rf_m)}, rec206 x0 x1 x2 x3 m = some r → fr S_X14_round m r.2) {r : (Int32 × rf_m)} (h : g_X14_round_206_b w rec113 rec206 a7 a8 a9 a11 m = some r) : fr S_X14_round m r.2 := by
  unfold g_X14_round_206_b at h
  rcases rf_ite_some h with ⟨_, h⟩ | ⟨_, h⟩
  · exact fr_trans ((fr_refl _ m)) (hr_rec113 h)
  · rcases rf_ite_some h with ⟨_, h⟩ | ⟨_, h⟩
    · exact fr_trans ((fr_refl _ m)) (fr_mono (fg_X14_round_239 hr_rec113 hr_rec206 h) (by decide))
    · obtain ⟨_, h⟩ := rf_g_some h
      obtain ⟨_, h⟩ := rf_g_some h
      rcases rf_ite_some h with ⟨_, h⟩ | ⟨_, h⟩
      · exact fr_trans ((fr_refl _ m)) (fr_mono (fg_X14_round_239 hr_rec113 hr_rec206 h) (by decide))
      · exact fr_trans ((fr_refl _ m)) (fr_mono (fg_X14_round_240 hr_rec113 hr_rec206 h) (by decide))
theorem fg_X14_round_206 {w : rf_w} {rec113 : Int32 → Int32 → Int32 → rf_m → Option (Int32 × rf_m)} (hr_rec113 : ∀ {x0 : Int32} {x1 : Int32} {x2 : Int32} {m : rf_m} {r : (Int32 × rf_m)}, rec113 x0 x1 x2 m = some r → fr S_X14_round m r.2) (n : Nat) : ∀ {a7 : Int32} {a8 : Int32} {a9 : Int32} {a11 : Int32} {m : rf_m} {r : (Int32 × rf_m)}, g_X14_round_206 w rec113 n a7 a8 a9 a11 m = some r → fr S_X14_round m r.2 := by
  induction n with
  | zero => intro a7 a8 a9 a11 m r h; cases h
  | succ n ih =>
    intro a7 a8 a9 a11 m r h
    exact fg_X14_round_206_b hr_rec113 ih h
theorem fg_X14_round_201 {w : rf_w} {rec113 : Int32 → Int32 → Int32 → rf_m → Option (Int32 × rf_m)} {a7 : Int32} {a9 : Int32} {s0 : Int32} {m : rf_m} (hr_rec113 : ∀ {x0 : Int32} {x1 : Int32} {x2 : Int32} {m : rf_m} {r : (Int32 × rf_m)}, rec113 x0 x1 x2 m = some r → fr S_X14_round m r.2) {r : (Int32 × rf_m)} (h : g_X14_round_201 w rec113 a7 a9 s0 m = some r) : fr S_X14_round m r.2 := by
  unfold g_X14_round_201 at h
  exact fr_trans ((fr_refl _ m)) (fr_mono (fg_X14_round_206 hr_rec113 _ h) (by decide))
theorem fg_X14_round_200 {w : rf_w} {rec113 : Int32 → Int32 → Int32 → rf_m → Option (Int32 × rf_m)} {a7 : Int32} {a9 : Int32} {m : rf_m} (hr_rec113 : ∀ {x0 : Int32} {x1 : Int32} {x2 : Int32} {m : rf_m} {r : (Int32 × rf_m)}, rec113 x0 x1 x2 m = some r → fr S_X14_round m r.2) {r : (Int32 × rf_m)} (h : g_X14_round_200 w rec113 a7 a9 m = some r) : fr S_X14_round m r.2 := by
  unfold g_X14_round_200 at h
  exact fr_trans ((fr_refl _ m)) (fr_mono (fg_X14_round_201 hr_rec113 h) (by decide))
theorem fg_X14_round_140 {w : rf_w} {rec113 : Int32 → Int32 → Int32 → rf_m → Option (Int32 × rf_m)} {a7 : Int32} {a8 : Int32} {a9 : Int32} {s1 : Int32} {m : rf_m} (hr_rec113 : ∀ {x0 : Int32} {x1 : Int32} {x2 : Int32} {m : rf_m} {r : (Int32 × rf_m)}, rec113 x0 x1 x2 m = some r → fr S_X14_round m r.2) {r : (Int32 × rf_m)} (h : g_X14_round_140 w rec113 a7 a8 a9 s1 m = some r) : fr S_X14_round m r.2 := by
  unfold g_X14_round_140 at h
  obtain ⟨_, h⟩ := rf_g_some h
  have h := fr_vi h
  rcases rf_ite_some h with ⟨_, h⟩ | ⟨_, h⟩
  · exact fr_trans ((fr_refl _ m)) (fr_mono (fg_X14_round_200 hr_rec113 h) (by decide))
  · obtain ⟨_, h⟩ := rf_g_some h
    obtain ⟨_, h⟩ := rf_g_some h
    obtain ⟨_, h⟩ := rf_g_some h
    rcases rf_ite_some h with ⟨_, h⟩ | ⟨_, h⟩
    · obtain ⟨_, h⟩ := rf_g_some h
      obtain ⟨_, h⟩ := rf_g_some h
      obtain ⟨_, h⟩ := rf_g_some h
      rcases rf_ite_some h with ⟨_, h⟩ | ⟨_, h⟩
      · exact fr_trans ((fr_refl _ m)) (fr_mono (fg_X14_round_201 hr_rec113 h) (by decide))
      · exact fr_trans ((fr_refl _ m)) (fr_mono (fg_X14_round_200 hr_rec113 h) (by decide))
    · exact fr_trans ((fr_refl _ m)) (fr_mono (fg_X14_round_200 hr_rec113 h) (by decide))
theorem fg_X14_round_113_b {w : rf_w} {rec113 : Int32 → Int32 → Int32 → rf_m → Option (Int32 × rf_m)} {a7 : Int32} {a8 : Int32} {a9 : Int32} {m : rf_m} (hr_rec113 : ∀ {x0 : Int32} {x1 : Int32} {x2 : Int32} {m : rf_m} {r : (Int32 × rf_m)}, rec113 x0 x1 x2 m = some r → fr S_X14_round m r.2) {r : (Int32 × rf_m)} (h : g_X14_round_113_b w rec113 a7 a8 a9 m = some r) : fr S_X14_round m r.2 := by
  unfold g_X14_round_113_b at h
  rcases rf_ite_some h with ⟨_, h⟩ | ⟨_, h⟩
  · rcases rf_ite_some h with ⟨_, h⟩ | ⟨_, h⟩
    · obtain ⟨y1, m1, q1, h⟩ := rf_b_some h
      have e1 : fr S_X14_round m m1 := fr_trans ((fr_refl _ m)) (fr_mono (fg_X14_refused q1) (by decide))
      obtain rfl := Option.some.inj h
      exact e1
    · rcases rf_ite_some h with ⟨_, h⟩ | ⟨_, h⟩
      · obtain ⟨y0, m0, q2, h⟩ := rf_b_some h
        have e2 : fr S_X14_round m m0 := fr_trans ((fr_refl _ m)) (fr_mono (fg_X14_refused q2) (by decide))
        obtain rfl := Option.some.inj h
        exact e2
      · exact fr_trans ((fr_refl _ m)) (fr_mono (fg_X14_round_283 _ h) (by decide))
  · rcases rf_ite_some h with ⟨_, h⟩ | ⟨_, h⟩
    · exact fr_trans ((fr_refl _ m)) (fr_mono (fg_X14_round_140 hr_rec113 h) (by decide))
    · exact fr_trans ((fr_refl _ m)) (fr_mono (fg_X14_round_140 hr_rec113 h) (by decide))
theorem fg_X14_round_113 {w : rf_w} (n : Nat) : ∀ {a7 : Int32} {a8 : Int32} {a9 : Int32} {m : rf_m} {r : (Int32 × rf_m)}, g_X14_round_113 w n a7 a8 a9 m = some r → fr S_X14_round m r.2 := by
  induction n with
  | zero => intro a7 a8 a9 m r h; cases h
  | succ n ih =>
    intro a7 a8 a9 m r h
    exact fg_X14_round_113_b ih h
theorem fg_X14_round_108 {w : rf_w} {a7 : Int32} {s0 : Int32} {m : rf_m} {r : (Int32 × rf_m)} (h : g_X14_round_108 w a7 s0 m = some r) : fr S_X14_round m r.2 := by
  unfold g_X14_round_108 at h
  exact fr_trans ((fr_refl _ m)) (fr_mono (fg_X14_round_113 _ h) (by decide))
theorem fg_X14_round_97 {w : rf_w} {a7 : Int32} {m : rf_m} {r : (Int32 × rf_m)} (h : g_X14_round_97 w a7 m = some r) : fr S_X14_round m r.2 := by
  unfold g_X14_round_97 at h
  rcases rf_ite_some h with ⟨_, h⟩ | ⟨_, h⟩
  · exact fr_trans ((fr_refl _ m)) (fr_mono (fg_X14_round_108 h) (by decide))
  · exact fr_trans ((fr_refl _ m)) (fr_mono (fg_X14_round_108 h) (by decide))
theorem fg_X14_round_53_b {w : rf_w} {rec53 : Int32 → rf_m → Option (Int32 × rf_m)} {a7 : Int32} {m : rf_m} (hr_rec53 : ∀ {x0 : Int32} {m : rf_m} {r : (Int32 × rf_m)}, rec53 x0 m = some r → fr S_X14_round m r.2) {r : (Int32 × rf_m)} (h : g_X14_round_53_b w rec53 a7 m = some r) : fr S_X14_round m r.2 := by
  unfold g_X14_round_53_b at h
  rcases rf_ite_some h with ⟨_, h⟩ | ⟨_, h⟩
  · exact fr_trans ((fr_refl _ m)) (fr_mono (fg_X14_round_97 h) (by decide))
  · obtain ⟨_, h⟩ := rf_g_some h
    rcases rf_ite_some h with ⟨_, h⟩ | ⟨_, h⟩
    · exact fr_trans ((fr_refl _ m)) (fr_mono (fg_X14_round_97 h) (by decide))
    · obtain ⟨_, h⟩ := rf_g_some h
      obtain ⟨y2, m2, q1, h⟩ := rf_b_some h
      have e1 : fr S_X14_round m m2 := fr_trans ((fr_refl _ m)) (fr_mono (fg_X14_isAngle q1) (by decide))
      rcases rf_ite_some h with ⟨_, h⟩ | ⟨_, h⟩
      · obtain ⟨y3, m3, q2, h⟩ := rf_b_some h
        have e2 : fr S_X14_round m m3 := fr_trans e1 (fr_mono (fg_X14_refused q2) (by decide))
        obtain rfl := Option.some.inj h
        exact e2
      · exact fr_trans e1 (hr_rec53 h)
theorem fg_X14_round_53 {w : rf_w} (n : Nat) : ∀ {a7 : Int32} {m : rf_m} {r : (Int32 × rf_m)}, g_X14_round_53 w n a7 m = some r → fr S_X14_round m r.2 := by
  induction n with
  | zero => intro a7 m r h; cases h
  | succ n ih =>
    intro a7 m r h
    exact fg_X14_round_53_b ih h
theorem fg_X14_round {w : rf_w} {m : rf_m} {a1 : Int32} {a2 : Int32} {a3 : Int32} {a4 : Int32} {a5 : Int32} {a6 : Int32} {r : (Int32 × rf_m)} (h : g_X14_round w m a1 a2 a3 a4 a5 a6 = some r) : fr S_X14_round m r.2 := by
  unfold g_X14_round at h
  exact fr_trans (fr_i (fr_i (fr_i (fr_i (fr_i (fr_i (fr_i ((fr_refl _ m)) (by decide)) (fr_c_in (by decide) _)) (fr_c_in (by decide) _)) (fr_c_in (by decide) _)) (fr_c_in (by decide) _)) (fr_c_in (by decide) _)) (fr_c_in (by decide) _)) (fr_mono (fg_X14_round_53 _ h) (by decide))
def S_X14_allMeans : fr_S := [(206, 206, some 33), (206, 206, some 34), (206, 206, some 35), (206, 206, some 36), (206, 206, some 37), (206, 206, some 38), (226, 226, none), (227, 227, none), (228, 228, none), (235, 235, none), (248, 248, none)]
theorem fg_X14_allMeans_2_b {w : rf_w} {rec2 : Int32 → rf_m → Option (rf_m)} {a1 : Int32} {m : rf_m} (hr_rec2 : ∀ {x0 : Int32} {m : rf_m} {r : (rf_m)}, rec2 x0 m = some r → fr S_X14_allMeans m r) {r : (rf_m)} (h : g_X14_allMeans_2_b w rec2 a1 m = some r) : fr S_X14_allMeans m r := by
  unfold g_X14_allMeans_2_b at h
  rcases rf_ite_some h with ⟨_, h⟩ | ⟨_, h⟩
  · obtain rfl := Option.some.inj h
    exact (fr_refl _ m)
  · obtain ⟨y0, m0, q1, h⟩ := rf_b_some h
    have e1 : fr S_X14_allMeans m m0 := fr_trans ((fr_refl _ m)) (fr_mono (fg_X14_meanOf q1) (by decide))
    obtain ⟨_, h⟩ := rf_g_some h
    exact fr_trans (fr_i e1 (fr_c_in (by decide) _)) (hr_rec2 h)
end FRL
