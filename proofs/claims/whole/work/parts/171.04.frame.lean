section FRL
def S_X14_copies__266_250 : fr_S := [(266, 266, none)]
theorem fg_X14_copies__266_250_3_b {w : rf_w} {rec3 : Int32 → Int32 → Int32 → rf_m → Option (rf_m)} {a1 : Int32} {a3 : Int32} {a4 : Int32} {m : rf_m} (hr_rec3 : ∀ {x0 : Int32} {x1 : Int32} {x2 : Int32} {m : rf_m} {r : (rf_m)}, rec3 x0 x1 x2 m = some r → fr S_X14_copies__266_250 m r) {r : (rf_m)} (h : g_X14_copies__266_250_3_b w rec3 a1 a3 a4 m = some r) : fr S_X14_copies__266_250 m r := by
  unfold g_X14_copies__266_250_3_b at h
  rcases rf_ite_some h with ⟨_, h⟩ | ⟨_, h⟩
  · obtain rfl := Option.some.inj h
    exact (fr_refl _ m)
  · obtain ⟨_, h⟩ := rf_g_some h
    obtain ⟨_, h⟩ := rf_g_some h
    exact fr_trans (fr_i ((fr_refl _ m)) (fr_c_in (by decide) _)) (hr_rec3 h)
theorem fg_X14_copies__266_250_3 {w : rf_w} (n : Nat) : ∀ {a1 : Int32} {a3 : Int32} {a4 : Int32} {m : rf_m} {r : (rf_m)}, g_X14_copies__266_250_3 w n a1 a3 a4 m = some r → fr S_X14_copies__266_250 m r := by
  induction n with
  | zero => intro a1 a3 a4 m r h; cases h
  | succ n ih =>
    intro a1 a3 a4 m r h
    exact fg_X14_copies__266_250_3_b ih h
theorem fg_X14_copies__266_250 {w : rf_w} {m : rf_m} {a1 : Int32} {a3 : Int32} {r : (rf_m)} (h : g_X14_copies__266_250 w m a1 a3 = some r) : fr S_X14_copies__266_250 m r := by
  unfold g_X14_copies__266_250 at h
  exact fr_trans ((fr_refl _ m)) (fr_mono (fg_X14_copies__266_250_3 _ h) (by decide))
def S_X14_copies__267_259 : fr_S := [(267, 267, none)]
theorem fg_X14_copies__267_259_3_b {w : rf_w} {rec3 : Int32 → Int32 → Int32 → rf_m → Option (rf_m)} {a1 : Int32} {a3 : Int32} {a4 : Int32} {m : rf_m} (hr_rec3 : ∀ {x0 : Int32} {x1 : Int32} {x2 : Int32} {m : rf_m} {r : (rf_m)}, rec3 x0 x1 x2 m = some r → fr S_X14_copies__267_259 m r) {r : (rf_m)} (h : g_X14_copies__267_259_3_b w rec3 a1 a3 a4 m = some r) : fr S_X14_copies__267_259 m r := by
  unfold g_X14_copies__267_259_3_b at h
  rcases rf_ite_some h with ⟨_, h⟩ | ⟨_, h⟩
  · obtain rfl := Option.some.inj h
    exact (fr_refl _ m)
  · obtain ⟨_, h⟩ := rf_g_some h
    obtain ⟨_, h⟩ := rf_g_some h
    exact fr_trans (fr_i ((fr_refl _ m)) (fr_c_in (by decide) _)) (hr_rec3 h)
theorem fg_X14_copies__267_259_3 {w : rf_w} (n : Nat) : ∀ {a1 : Int32} {a3 : Int32} {a4 : Int32} {m : rf_m} {r : (rf_m)}, g_X14_copies__267_259_3 w n a1 a3 a4 m = some r → fr S_X14_copies__267_259 m r := by
  induction n with
  | zero => intro a1 a3 a4 m r h; cases h
  | succ n ih =>
    intro a1 a3 a4 m r h
    exact fg_X14_copies__267_259_3_b ih h
theorem fg_X14_copies__267_259 {w : rf_w} {m : rf_m} {a1 : Int32} {a3 : Int32} {r : (rf_m)} (h : g_X14_copies__267_259 w m a1 a3 = some r) : fr S_X14_copies__267_259 m r := by
  unfold g_X14_copies__267_259 at h
  exact fr_trans ((fr_refl _ m)) (fr_mono (fg_X14_copies__267_259_3 _ h) (by decide))
def S_X14_isBelow__266 : fr_S := []
theorem fg_X14_isBelow__266 {w : rf_w} {m : rf_m} {a1 : Int32} {r : (Int32 × rf_m)} (h : g_X14_isBelow__266 w m a1 = some r) : fr S_X14_isBelow__266 m r.2 := by
  unfold g_X14_isBelow__266 at h
  obtain ⟨_, h⟩ := rf_g_some h
  rcases rf_ite_some h with ⟨_, h⟩ | ⟨_, h⟩
  · obtain rfl := Option.some.inj h
    exact (fr_refl _ m)
  · obtain rfl := Option.some.inj h
    exact (fr_refl _ m)
def S_X14_part : fr_S := [(206, 206, some 0), (249, 249, none), (250, 250, none), (251, 251, none), (266, 266, none), (267, 267, none)]
theorem fg_X14_part_253 {w : rf_w} {a2 : Int32} {a3 : Int32} {a5 : Int32} {s0 : Int32} {m : rf_m} {r : (Int32 × rf_m)} (h : g_X14_part_253 w a2 a3 a5 s0 m = some r) : fr S_X14_part m r.2 := by
  unfold g_X14_part_253 at h
  rcases rf_ite_some h with ⟨_, h⟩ | ⟨_, h⟩
  · obtain rfl := Option.some.inj h
    exact (fr_refl _ m)
  · rcases rf_ite_some h with ⟨_, h⟩ | ⟨_, h⟩
    · rcases rf_ite_some h with ⟨_, h⟩ | ⟨_, h⟩
      · obtain rfl := Option.some.inj h
        exact (fr_refl _ m)
      · obtain rfl := Option.some.inj h
        exact (fr_refl _ m)
    · obtain ⟨y0, m0, q1, h⟩ := rf_b_some h
      have e1 : fr S_X14_part m m0 := fr_trans ((fr_refl _ m)) (fr_mono (fg_X14_quotientLong q1) (by decide))
      obtain rfl := Option.some.inj h
      exact e1
theorem fg_X14_part_252 {w : rf_w} {a2 : Int32} {a3 : Int32} {a5 : Int32} {m : rf_m} {r : (Int32 × rf_m)} (h : g_X14_part_252 w a2 a3 a5 m = some r) : fr S_X14_part m r.2 := by
  unfold g_X14_part_252 at h
  exact fr_trans ((fr_refl _ m)) (fr_mono (fg_X14_part_253 h) (by decide))
theorem fg_X14_part_202 {w : rf_w} {a2 : Int32} {a3 : Int32} {s0 : Int32} {m : rf_m} {r : (Int32 × rf_m)} (h : g_X14_part_202 w a2 a3 s0 m = some r) : fr S_X14_part m r.2 := by
  unfold g_X14_part_202 at h
  obtain ⟨y0, m0, q1, h⟩ := rf_b_some h
  have e1 : fr S_X14_part m m0 := fr_trans ((fr_refl _ m)) (fr_mono (fg_X14_quotientLong q1) (by decide))
  obtain ⟨m1, q2, h⟩ := rf_bv_some h
  have e2 : fr S_X14_part m m1 := fr_trans e1 (fr_mono (fg_X14_divides__259_267 q2) (by decide))
  rcases rf_ite_some h with ⟨_, h⟩ | ⟨_, h⟩
  · exact fr_trans e2 (fr_mono (fg_X14_part_252 h) (by decide))
  · obtain ⟨y2, m2, q3, h⟩ := rf_b_some h
    have e3 : fr S_X14_part m m2 := fr_trans e2 (fr_mono (fg_X14_isLong q3) (by decide))
    rcases rf_ite_some h with ⟨_, h⟩ | ⟨_, h⟩
    · exact fr_trans e3 (fr_mono (fg_X14_part_252 h) (by decide))
    · obtain ⟨y3, m3, q4, h⟩ := rf_b_some h
      have e4 : fr S_X14_part m m3 := fr_trans e3 (fr_mono (fg_X14_quotientLong q4) (by decide))
      rcases rf_ite_some h with ⟨_, h⟩ | ⟨_, h⟩
      · exact fr_trans e4 (fr_mono (fg_X14_part_252 h) (by decide))
      · exact fr_trans e4 (fr_mono (fg_X14_part_253 h) (by decide))
theorem fg_X14_part_201 {w : rf_w} {a2 : Int32} {a3 : Int32} {m : rf_m} {r : (Int32 × rf_m)} (h : g_X14_part_201 w a2 a3 m = some r) : fr S_X14_part m r.2 := by
  unfold g_X14_part_201 at h
  exact fr_trans ((fr_refl _ m)) (fr_mono (fg_X14_part_202 h) (by decide))
theorem fg_X14_part_165 {w : rf_w} {a2 : Int32} {a3 : Int32} {m : rf_m} {r : (Int32 × rf_m)} (h : g_X14_part_165 w a2 a3 m = some r) : fr S_X14_part m r.2 := by
  unfold g_X14_part_165 at h
  obtain ⟨m0, q1, h⟩ := rf_bv_some h
  have e1 : fr S_X14_part m m0 := fr_trans ((fr_refl _ m)) (fr_mono (fg_X14_divides__266_267 q1) (by decide))
  obtain ⟨y1, m1, q2, h⟩ := rf_b_some h
  have e2 : fr S_X14_part m m1 := fr_trans e1 (fr_mono (fg_X14_isLong q2) (by decide))
  rcases rf_ite_some h with ⟨_, h⟩ | ⟨_, h⟩
  · exact fr_trans e2 (fr_mono (fg_X14_part_201 h) (by decide))
  · obtain ⟨y2, m2, q3, h⟩ := rf_b_some h
    have e3 : fr S_X14_part m m2 := fr_trans e2 (fr_mono (fg_X14_quotientLong q3) (by decide))
    rcases rf_ite_some h with ⟨_, h⟩ | ⟨_, h⟩
    · exact fr_trans e3 (fr_mono (fg_X14_part_201 h) (by decide))
    · exact fr_trans e3 (fr_mono (fg_X14_part_202 h) (by decide))
theorem fg_X14_part_83_b {w : rf_w} {rec83 : Int32 → Int32 → Int32 → rf_m → Option (Int32 × rf_m)} {a1 : Int32} {a2 : Int32} {a3 : Int32} {m : rf_m} (hr_rec83 : ∀ {x0 : Int32} {x1 : Int32} {x2 : Int32} {m : rf_m} {r : (Int32 × rf_m)}, rec83 x0 x1 x2 m = some r → fr S_X14_part m r.2) {r : (Int32 × rf_m)} (h : g_X14_part_83_b w rec83 a1 a2 a3 m = some r) : fr S_X14_part m r.2 := by
  unfold g_X14_part_83_b at h
  obtain ⟨y0, m0, q1, h⟩ := rf_b_some h
  have e1 : fr S_X14_part m m0 := fr_trans ((fr_refl _ m)) (fr_mono (fg_X14_isZero__266 q1) (by decide))
  rcases rf_ite_some h with ⟨_, h⟩ | ⟨_, h⟩
  · obtain ⟨m3, q2, h⟩ := rf_bv_some h
    have e2 : fr S_X14_part m m3 := fr_trans e1 (fr_mono (fg_X14_divides__267_266 q2) (by decide))
    obtain ⟨m4, q3, h⟩ := rf_bv_some h
    have e3 : fr S_X14_part m m4 := fr_trans e2 (fr_mono (fg_X14_copies__267_266 q3) (by decide))
    obtain ⟨m5, q4, h⟩ := rf_bv_some h
    have e4 : fr S_X14_part m m5 := fr_trans e3 (fr_mono (fg_X14_copies__266_250 q4) (by decide))
    exact fr_trans e4 (hr_rec83 h)
  · obtain ⟨m1, q5, h⟩ := rf_bv_some h
    have e5 : fr S_X14_part m m1 := fr_trans e1 (fr_mono (fg_X14_copies__266_264 q5) (by decide))
    rcases rf_ite_some h with ⟨_, h⟩ | ⟨_, h⟩
    · exact fr_trans e5 (fr_mono (fg_X14_part_165 h) (by decide))
    · obtain ⟨m2, q6, h⟩ := rf_bv_some h
      have e6 : fr S_X14_part m m2 := fr_trans e5 (fr_mono (fg_X14_turns__266 q6) (by decide))
      exact fr_trans e6 (fr_mono (fg_X14_part_165 h) (by decide))
theorem fg_X14_part_83 {w : rf_w} (n : Nat) : ∀ {a1 : Int32} {a2 : Int32} {a3 : Int32} {m : rf_m} {r : (Int32 × rf_m)}, g_X14_part_83 w n a1 a2 a3 m = some r → fr S_X14_part m r.2 := by
  induction n with
  | zero => intro a1 a2 a3 m r h; cases h
  | succ n ih =>
    intro a1 a2 a3 m r h
    exact fg_X14_part_83_b ih h
theorem fg_X14_part_70 {w : rf_w} {a1 : Int32} {a2 : Int32} {a3 : Int32} {m : rf_m} {r : (Int32 × rf_m)} (h : g_X14_part_70 w a1 a2 a3 m = some r) : fr S_X14_part m r.2 := by
  unfold g_X14_part_70 at h
  obtain ⟨m0, q1, h⟩ := rf_bv_some h
  have e1 : fr S_X14_part m m0 := fr_trans ((fr_refl _ m)) (fr_mono (fg_X14_copies__267_259 q1) (by decide))
  exact fr_trans e1 (fr_mono (fg_X14_part_83 _ h) (by decide))
theorem fg_X14_part {w : rf_w} {m : rf_m} {a1 : Int32} {a2 : Int32} {r : (Int32 × rf_m)} (h : g_X14_part w m a1 a2 = some r) : fr S_X14_part m r.2 := by
  unfold g_X14_part at h
  obtain ⟨y0, m0, q1, h⟩ := rf_b_some h
  have e1 : fr S_X14_part m m0 := fr_trans (fr_i ((fr_refl _ m)) (by decide)) (fr_mono (fg_X14_isAngle q1) (by decide))
  rcases rf_ite_some h with ⟨_, h⟩ | ⟨_, h⟩
  · obtain rfl := Option.some.inj h
    exact e1
  · rcases rf_ite_some h with ⟨_, h⟩ | ⟨_, h⟩
    · obtain rfl := Option.some.inj h
      exact e1
    · obtain ⟨_, h⟩ := rf_g_some h
      rcases rf_ite_some h with ⟨_, h⟩ | ⟨_, h⟩
      · obtain rfl := Option.some.inj h
        exact e1
      · obtain ⟨m2, q2, h⟩ := rf_bv_some h
        have e2 : fr S_X14_part m m2 := fr_trans e1 (fr_mono (fg_X14_copies__266_264 q2) (by decide))
        obtain ⟨y3, m3, q3, h⟩ := rf_b_some h
        have e3 : fr S_X14_part m m3 := fr_trans e2 (fr_mono (fg_X14_isBelow__266 q3) (by decide))
        rcases rf_ite_some h with ⟨_, h⟩ | ⟨_, h⟩
        · exact fr_trans e3 (fr_mono (fg_X14_part_70 h) (by decide))
        · obtain ⟨m4, q4, h⟩ := rf_bv_some h
          have e4 : fr S_X14_part m m4 := fr_trans e3 (fr_mono (fg_X14_turns__266 q4) (by decide))
          exact fr_trans e4 (fr_mono (fg_X14_part_70 h) (by decide))
def S_X14_cost : fr_S := [(206, 206, some 0)]
theorem fg_X14_cost {w : rf_w} {m : rf_m} {r : (Int64 × rf_m)} (h : g_X14_cost w m = some r) : fr S_X14_cost m r.2 := by
  unfold g_X14_cost at h
  obtain rfl := Option.some.inj h
  exact fr_i ((fr_refl _ m)) (by decide)
def S_X14_sineOf : fr_S := []
theorem fg_X14_sineOf {w : rf_w} {m : rf_m} {a0 : Int32} {r : (Int32 × rf_m)} (h : g_X14_sineOf w m a0 = some r) : fr S_X14_sineOf m r.2 := by
  unfold g_X14_sineOf at h
  have h := fr_vl h
  obtain ⟨_, h⟩ := rf_g_some h
  obtain rfl := Option.some.inj h
  exact (fr_refl _ m)
def S_X14_sine : fr_S := [(206, 206, some 0)]
theorem fg_X14_sine {w : rf_w} {m : rf_m} {a1 : Int32} {r : (Int32 × rf_m)} (h : g_X14_sine w m a1 = some r) : fr S_X14_sine m r.2 := by
  unfold g_X14_sine at h
  obtain ⟨y0, m0, q1, h⟩ := rf_b_some h
  have e1 : fr S_X14_sine m m0 := fr_trans (fr_i ((fr_refl _ m)) (by decide)) (fr_mono (fg_X14_in q1) (by decide))
  rcases rf_ite_some h with ⟨_, h⟩ | ⟨_, h⟩
  · obtain rfl := Option.some.inj h
    exact e1
  · obtain ⟨y1, m1, q2, h⟩ := rf_b_some h
    have e2 : fr S_X14_sine m m1 := fr_trans e1 (fr_mono (fg_X14_sineOf q2) (by decide))
    obtain rfl := Option.some.inj h
    exact e2
def S_X14_allSines : fr_S := [(206, 206, some 33), (206, 206, some 34), (206, 206, some 35), (206, 206, some 36), (206, 206, some 37), (206, 206, some 38), (226, 226, none), (227, 227, none), (228, 228, none), (235, 235, none), (268, 268, none), (269, 269, none), (270, 270, none)]
theorem fg_X14_allSines_146 {w : rf_w} {rec2 : Int32 → rf_m → Option (rf_m)} {a1 : Int32} {m : rf_m} (hr_rec2 : ∀ {x0 : Int32} {m : rf_m} {r : (rf_m)}, rec2 x0 m = some r → fr S_X14_allSines m r) {r : (rf_m)} (h : g_X14_allSines_146 w rec2 a1 m = some r) : fr S_X14_allSines m r := by
  unfold g_X14_allSines_146 at h
  exact fr_trans ((fr_refl _ m)) (hr_rec2 h)
theorem fg_X14_allSines_145 {w : rf_w} {rec2 : Int32 → rf_m → Option (rf_m)} {a1 : Int32} {s1 : Int32} {s2 : Int32} {m : rf_m} (hr_rec2 : ∀ {x0 : Int32} {m : rf_m} {r : (rf_m)}, rec2 x0 m = some r → fr S_X14_allSines m r) {r : (rf_m)} (h : g_X14_allSines_145 w rec2 a1 s1 s2 m = some r) : fr S_X14_allSines m r := by
  unfold g_X14_allSines_145 at h
  obtain ⟨_, h⟩ := rf_g_some h
  exact fr_trans (fr_i ((fr_refl _ m)) (fr_c_in (by decide) _)) (fr_mono (fg_X14_allSines_146 hr_rec2 h) (by decide))
theorem fg_X14_allSines_128 {w : rf_w} {rec2 : Int32 → rf_m → Option (rf_m)} {a1 : Int32} {s1 : Int32} {m : rf_m} (hr_rec2 : ∀ {x0 : Int32} {m : rf_m} {r : (rf_m)}, rec2 x0 m = some r → fr S_X14_allSines m r) {r : (rf_m)} (h : g_X14_allSines_128 w rec2 a1 s1 m = some r) : fr S_X14_allSines m r := by
  unfold g_X14_allSines_128 at h
  obtain ⟨y0, m0, q1, h⟩ := rf_b_some h
  have e1 : fr S_X14_allSines m m0 := fr_trans ((fr_refl _ m)) (fr_mono (fg_X14_sineOf q1) (by decide))
  obtain ⟨y1, m1, q2, h⟩ := rf_b_some h
  have e2 : fr S_X14_allSines m m1 := fr_trans e1 (fr_mono (fg_X14_sineOf q2) (by decide))
  obtain ⟨y2, m2, q3, h⟩ := rf_b_some h
  have e3 : fr S_X14_allSines m m2 := fr_trans e2 (fr_mono (fg_max q3) (by decide))
  exact fr_trans e3 (fr_mono (fg_X14_allSines_145 hr_rec2 h) (by decide))
theorem fg_X14_allSines_52 {w : rf_w} {rec2 : Int32 → rf_m → Option (rf_m)} {a1 : Int32} {s1 : Int32} {s2 : Int32} {m : rf_m} (hr_rec2 : ∀ {x0 : Int32} {m : rf_m} {r : (rf_m)}, rec2 x0 m = some r → fr S_X14_allSines m r) {r : (rf_m)} (h : g_X14_allSines_52 w rec2 a1 s1 s2 m = some r) : fr S_X14_allSines m r := by
  unfold g_X14_allSines_52 at h
  obtain ⟨_, h⟩ := rf_g_some h
  obtain ⟨_, h⟩ := rf_g_some h
  rcases rf_ite_some h with ⟨_, h⟩ | ⟨_, h⟩
  · exact fr_trans (fr_i ((fr_refl _ m)) (fr_c_in (by decide) _)) (fr_mono (fg_X14_allSines_146 hr_rec2 h) (by decide))
  · obtain ⟨y2, m2, q1, h⟩ := rf_b_some h
    have e1 : fr S_X14_allSines m m2 := fr_trans (fr_i ((fr_refl _ m)) (fr_c_in (by decide) _)) (fr_mono (fg_X14_sineOf q1) (by decide))
    obtain ⟨y3, m3, q2, h⟩ := rf_b_some h
    have e2 : fr S_X14_allSines m m3 := fr_trans e1 (fr_mono (fg_X14_sineOf q2) (by decide))
    obtain ⟨y4, m4, q3, h⟩ := rf_b_some h
    have e3 : fr S_X14_allSines m m4 := fr_trans e2 (fr_mono (fg_min q3) (by decide))
    obtain ⟨_, h⟩ := rf_g_some h
    rcases rf_ite_some h with ⟨_, h⟩ | ⟨_, h⟩
    · exact fr_trans (fr_i e3 (fr_c_in (by decide) _)) (fr_mono (fg_X14_allSines_128 hr_rec2 h) (by decide))
    · rcases rf_ite_some h with ⟨_, h⟩ | ⟨_, h⟩
      · exact fr_trans (fr_i e3 (fr_c_in (by decide) _)) (fr_mono (fg_X14_allSines_128 hr_rec2 h) (by decide))
      · obtain ⟨y6, m6, q4, h⟩ := rf_b_some h
        have e4 : fr S_X14_allSines m m6 := fr_trans (fr_i e3 (fr_c_in (by decide) _)) (fr_mono (fg_X14_sineOf q4) (by decide))
        exact fr_trans e4 (fr_mono (fg_X14_allSines_145 hr_rec2 h) (by decide))
theorem fg_X14_allSines_51 {w : rf_w} {rec2 : Int32 → rf_m → Option (rf_m)} {a1 : Int32} {s1 : Int32} {m : rf_m} (hr_rec2 : ∀ {x0 : Int32} {m : rf_m} {r : (rf_m)}, rec2 x0 m = some r → fr S_X14_allSines m r) {r : (rf_m)} (h : g_X14_allSines_51 w rec2 a1 s1 m = some r) : fr S_X14_allSines m r := by
  unfold g_X14_allSines_51 at h
  exact fr_trans ((fr_refl _ m)) (fr_mono (fg_X14_allSines_52 hr_rec2 h) (by decide))
theorem fg_X14_allSines_2_b {w : rf_w} {rec2 : Int32 → rf_m → Option (rf_m)} {a1 : Int32} {m : rf_m} (hr_rec2 : ∀ {x0 : Int32} {m : rf_m} {r : (rf_m)}, rec2 x0 m = some r → fr S_X14_allSines m r) {r : (rf_m)} (h : g_X14_allSines_2_b w rec2 a1 m = some r) : fr S_X14_allSines m r := by
  unfold g_X14_allSines_2_b at h
  rcases rf_ite_some h with ⟨_, h⟩ | ⟨_, h⟩
  · obtain rfl := Option.some.inj h
    exact (fr_refl _ m)
  · obtain ⟨m0, q1, h⟩ := rf_bv_some h
    have e1 : fr S_X14_allSines m m0 := fr_trans ((fr_refl _ m)) (fr_mono (fg_X14_now q1) (by decide))
    rcases rf_ite_some h with ⟨_, h⟩ | ⟨_, h⟩
    · exact fr_trans e1 (fr_mono (fg_X14_allSines_51 hr_rec2 h) (by decide))
    · rcases rf_ite_some h with ⟨_, h⟩ | ⟨_, h⟩
      · exact fr_trans e1 (fr_mono (fg_X14_allSines_51 hr_rec2 h) (by decide))
      · rcases rf_ite_some h with ⟨_, h⟩ | ⟨_, h⟩
        · exact fr_trans e1 (fr_mono (fg_X14_allSines_51 hr_rec2 h) (by decide))
        · exact fr_trans e1 (fr_mono (fg_X14_allSines_52 hr_rec2 h) (by decide))
theorem fg_X14_allSines_2 {w : rf_w} (n : Nat) : ∀ {a1 : Int32} {m : rf_m} {r : (rf_m)}, g_X14_allSines_2 w n a1 m = some r → fr S_X14_allSines m r := by
  induction n with
  | zero => intro a1 m r h; cases h
  | succ n ih =>
    intro a1 m r h
    exact fg_X14_allSines_2_b ih h
theorem fg_X14_allSines {w : rf_w} {m : rf_m} {r : (rf_m)} (h : g_X14_allSines w m = some r) : fr S_X14_allSines m r := by
  unfold g_X14_allSines at h
  exact fr_trans ((fr_refl _ m)) (fr_mono (fg_X14_allSines_2 _ h) (by decide))
def S_X14_carries : fr_S := []
theorem fg_X14_carries {w : rf_w} {m : rf_m} {a1 : Int32} {r : (Int32 × rf_m)} (h : g_X14_carries w m a1 = some r) : fr S_X14_carries m r.2 := by
  unfold g_X14_carries at h
  obtain ⟨_, h⟩ := rf_g_some h
  obtain ⟨_, h⟩ := rf_g_some h
  rcases rf_ite_some h with ⟨_, h⟩ | ⟨_, h⟩
  · obtain rfl := Option.some.inj h
    exact (fr_refl _ m)
  · obtain ⟨_, h⟩ := rf_g_some h
    obtain ⟨_, h⟩ := rf_g_some h
    rcases rf_ite_some h with ⟨_, h⟩ | ⟨_, h⟩
    · obtain rfl := Option.some.inj h
      exact (fr_refl _ m)
    · obtain ⟨_, h⟩ := rf_g_some h
      obtain ⟨_, h⟩ := rf_g_some h
      rcases rf_ite_some h with ⟨_, h⟩ | ⟨_, h⟩
      · obtain rfl := Option.some.inj h
        exact (fr_refl _ m)
      · obtain rfl := Option.some.inj h
        exact (fr_refl _ m)
def S_X14_opposite : fr_S := []
theorem fg_X14_opposite_3_b {w : rf_w} {rec3 : Int32 → Int32 → Int32 → Int32 → rf_m → Option (Int32 × rf_m)} {a1 : Int32} {a2 : Int32} {a3 : Int32} {a4 : Int32} {m : rf_m} (hr_rec3 : ∀ {x0 : Int32} {x1 : Int32} {x2 : Int32} {x3 : Int32} {m : rf_m} {r : (Int32 × rf_m)}, rec3 x0 x1 x2 x3 m = some r → fr S_X14_opposite m r.2) {r : (Int32 × rf_m)} (h : g_X14_opposite_3_b w rec3 a1 a2 a3 a4 m = some r) : fr S_X14_opposite m r.2 := by
  unfold g_X14_opposite_3_b at h
  rcases rf_ite_some h with ⟨_, h⟩ | ⟨_, h⟩
  · obtain rfl := Option.some.inj h
    exact (fr_refl _ m)
  · obtain ⟨_, h⟩ := rf_g_some h
    have h := fr_vi h
    obtain ⟨y2, m2, q1, h⟩ := rf_b_some h
    have e1 : fr S_X14_opposite m m2 := fr_trans ((fr_refl _ m)) (fr_mono (fg_X14_isBetween q1) (by decide))
    rcases rf_ite_some h with ⟨_, h⟩ | ⟨_, h⟩
    · exact fr_trans e1 (hr_rec3 h)
    · obtain rfl := Option.some.inj h
      exact e1
theorem fg_X14_opposite_3 {w : rf_w} (n : Nat) : ∀ {a1 : Int32} {a2 : Int32} {a3 : Int32} {a4 : Int32} {m : rf_m} {r : (Int32 × rf_m)}, g_X14_opposite_3 w n a1 a2 a3 a4 m = some r → fr S_X14_opposite m r.2 := by
  induction n with
  | zero => intro a1 a2 a3 a4 m r h; cases h
  | succ n ih =>
    intro a1 a2 a3 a4 m r h
    exact fg_X14_opposite_3_b ih h
theorem fg_X14_opposite {w : rf_w} {m : rf_m} {a1 : Int32} {a2 : Int32} {a3 : Int32} {r : (Int32 × rf_m)} (h : g_X14_opposite w m a1 a2 a3 = some r) : fr S_X14_opposite m r.2 := by
  unfold g_X14_opposite at h
  exact fr_trans ((fr_refl _ m)) (fr_mono (fg_X14_opposite_3 _ h) (by decide))
def S_X14_isBetter : fr_S := []
theorem fg_X14_isBetter_23 {w : rf_w} {a2 : Int32} {a3 : Int32} {m : rf_m} {r : (Int32 × rf_m)} (h : g_X14_isBetter_23 w a2 a3 m = some r) : fr S_X14_isBetter m r.2 := by
  unfold g_X14_isBetter_23 at h
  rcases rf_ite_some h with ⟨_, h⟩ | ⟨_, h⟩
  · obtain rfl := Option.some.inj h
    exact (fr_refl _ m)
  · rcases rf_ite_some h with ⟨_, h⟩ | ⟨_, h⟩
    · obtain rfl := Option.some.inj h
      exact (fr_refl _ m)
    · obtain rfl := Option.some.inj h
      exact (fr_refl _ m)
theorem fg_X14_isBetter_132_b {w : rf_w} {rec132 : Int32 → Int32 → rf_m → Option (Int32 × rf_m)} {a1 : Int32} {a4 : Int32} {m : rf_m} (hr_rec132 : ∀ {x0 : Int32} {x1 : Int32} {m : rf_m} {r : (Int32 × rf_m)}, rec132 x0 x1 m = some r → fr S_X14_isBetter m r.2) {r : (Int32 × rf_m)} (h : g_X14_isBetter_132_b w rec132 a1 a4 m = some r) : fr S_X14_isBetter m r.2 := by
  unfold g_X14_isBetter_132_b at h
  rcases rf_ite_some h with ⟨_, h⟩ | ⟨_, h⟩
  · obtain rfl := Option.some.inj h
    exact (fr_refl _ m)
  · obtain ⟨_, h⟩ := rf_g_some h
    obtain ⟨_, h⟩ := rf_g_some h
    rcases rf_ite_some h with ⟨_, h⟩ | ⟨_, h⟩
    · obtain ⟨_, h⟩ := rf_g_some h
      obtain ⟨_, h⟩ := rf_g_some h
      rcases rf_ite_some h with ⟨_, h⟩ | ⟨_, h⟩
      · exact fr_trans ((fr_refl _ m)) (hr_rec132 h)
      · obtain ⟨_, h⟩ := rf_g_some h
        obtain ⟨_, h⟩ := rf_g_some h
        rcases rf_ite_some h with ⟨_, h⟩ | ⟨_, h⟩
        · obtain rfl := Option.some.inj h
          exact (fr_refl _ m)
        · obtain rfl := Option.some.inj h
          exact (fr_refl _ m)
    · obtain ⟨_, h⟩ := rf_g_some h
      obtain ⟨_, h⟩ := rf_g_some h
      rcases rf_ite_some h with ⟨_, h⟩ | ⟨_, h⟩
      · obtain rfl := Option.some.inj h
        exact (fr_refl _ m)
      · obtain rfl := Option.some.inj h
        exact (fr_refl _ m)
theorem fg_X14_isBetter_132 {w : rf_w} (n : Nat) : ∀ {a1 : Int32} {a4 : Int32} {m : rf_m} {r : (Int32 × rf_m)}, g_X14_isBetter_132 w n a1 a4 m = some r → fr S_X14_isBetter m r.2 := by
  induction n with
  | zero => intro a1 a4 m r h; cases h
  | succ n ih =>
    intro a1 a4 m r h
    exact fg_X14_isBetter_132_b ih h
theorem fg_X14_isBetter_77_b {w : rf_w} {rec77 : Int32 → Int32 → rf_m → Option (Int32 × rf_m)} {a1 : Int32} {a4 : Int32} {m : rf_m} (hr_rec77 : ∀ {x0 : Int32} {x1 : Int32} {m : rf_m} {r : (Int32 × rf_m)}, rec77 x0 x1 m = some r → fr S_X14_isBetter m r.2) {r : (Int32 × rf_m)} (h : g_X14_isBetter_77_b w rec77 a1 a4 m = some r) : fr S_X14_isBetter m r.2 := by
  unfold g_X14_isBetter_77_b at h
  rcases rf_ite_some h with ⟨_, h⟩ | ⟨_, h⟩
  · exact fr_trans ((fr_refl _ m)) (fr_mono (fg_X14_isBetter_132 _ h) (by decide))
  · obtain ⟨_, h⟩ := rf_g_some h
    obtain ⟨_, h⟩ := rf_g_some h
    rcases rf_ite_some h with ⟨_, h⟩ | ⟨_, h⟩
    · exact fr_trans ((fr_refl _ m)) (hr_rec77 h)
    · obtain ⟨_, h⟩ := rf_g_some h
      obtain ⟨_, h⟩ := rf_g_some h
      rcases rf_ite_some h with ⟨_, h⟩ | ⟨_, h⟩
      · obtain rfl := Option.some.inj h
        exact (fr_refl _ m)
      · obtain rfl := Option.some.inj h
        exact (fr_refl _ m)
theorem fg_X14_isBetter_77 {w : rf_w} (n : Nat) : ∀ {a1 : Int32} {a4 : Int32} {m : rf_m} {r : (Int32 × rf_m)}, g_X14_isBetter_77 w n a1 a4 m = some r → fr S_X14_isBetter m r.2 := by
  induction n with
  | zero => intro a1 a4 m r h; cases h
  | succ n ih =>
    intro a1 a4 m r h
    exact fg_X14_isBetter_77_b ih h
theorem fg_X14_isBetter {w : rf_w} {m : rf_m} {a1 : Int32} {a2 : Int32} {a3 : Int32} {r : (Int32 × rf_m)} (h : g_X14_isBetter w m a1 a2 a3 = some r) : fr S_X14_isBetter m r.2 := by
  unfold g_X14_isBetter at h
  rcases rf_ite_some h with ⟨_, h⟩ | ⟨_, h⟩
  · exact fr_trans ((fr_refl _ m)) (fr_mono (fg_X14_isBetter_23 h) (by decide))
  · rcases rf_ite_some h with ⟨_, h⟩ | ⟨_, h⟩
    · rcases rf_ite_some h with ⟨_, h⟩ | ⟨_, h⟩
      · exact fr_trans ((fr_refl _ m)) (fr_mono (fg_X14_isBetter_77 _ h) (by decide))
      · rcases rf_ite_some h with ⟨_, h⟩ | ⟨_, h⟩
        · obtain rfl := Option.some.inj h
          exact (fr_refl _ m)
        · obtain rfl := Option.some.inj h
          exact (fr_refl _ m)
    · exact fr_trans ((fr_refl _ m)) (fr_mono (fg_X14_isBetter_23 h) (by decide))
def S_X14_link : fr_S := [(206, 206, some 0)]
theorem fg_X14_link {w : rf_w} {m : rf_m} {a1 : Int32} {r : (Int32 × rf_m)} (h : g_X14_link w m a1 = some r) : fr S_X14_link m r.2 := by
  unfold g_X14_link at h
  rcases rf_ite_some h with ⟨_, h⟩ | ⟨_, h⟩
  · obtain rfl := Option.some.inj h
    exact fr_i ((fr_refl _ m)) (by decide)
  · rcases rf_ite_some h with ⟨_, h⟩ | ⟨_, h⟩
    · obtain rfl := Option.some.inj h
      exact fr_i ((fr_refl _ m)) (by decide)
    · obtain ⟨_, h⟩ := rf_g_some h
      obtain rfl := Option.some.inj h
      exact fr_i ((fr_refl _ m)) (by decide)
def S_X14_side : fr_S := [(206, 206, some 0)]
theorem fg_X14_side {w : rf_w} {m : rf_m} {a1 : Int32} {r : (Int32 × rf_m)} (h : g_X14_side w m a1 = some r) : fr S_X14_side m r.2 := by
  unfold g_X14_side at h
  rcases rf_ite_some h with ⟨_, h⟩ | ⟨_, h⟩
  · obtain rfl := Option.some.inj h
    exact fr_i ((fr_refl _ m)) (by decide)
  · rcases rf_ite_some h with ⟨_, h⟩ | ⟨_, h⟩
    · obtain rfl := Option.some.inj h
      exact fr_i ((fr_refl _ m)) (by decide)
    · obtain rfl := Option.some.inj h
      exact fr_i ((fr_refl _ m)) (by decide)
def S_X14_allows__281 : fr_S := [(281, 281, none)]
theorem fg_X14_allows__281 {w : rf_w} {m : rf_m} {a2 : Int32} {a3 : Int32} {r : (rf_m)} (h : g_X14_allows__281 w m a2 a3 = some r) : fr S_X14_allows__281 m r := by
  unfold g_X14_allows__281 at h
  obtain ⟨_, h⟩ := rf_g_some h
  obtain ⟨_, h⟩ := rf_g_some h
  obtain rfl := Option.some.inj h
  exact fr_i (fr_i ((fr_refl _ m)) (fr_c_in (by decide) _)) (fr_c_in (by decide) _)
def S_X14_allows__280 : fr_S := [(280, 280, none)]
theorem fg_X14_allows__280 {w : rf_w} {m : rf_m} {a2 : Int32} {a3 : Int32} {r : (rf_m)} (h : g_X14_allows__280 w m a2 a3 = some r) : fr S_X14_allows__280 m r := by
  unfold g_X14_allows__280 at h
  obtain ⟨_, h⟩ := rf_g_some h
  obtain ⟨_, h⟩ := rf_g_some h
  obtain rfl := Option.some.inj h
  exact fr_i (fr_i ((fr_refl _ m)) (fr_c_in (by decide) _)) (fr_c_in (by decide) _)
def S_X14_check : fr_S := [(206, 206, some 0), (206, 206, some 1), (206, 206, some 2), (206, 206, some 33), (206, 206, some 34), (206, 206, some 35), (206, 206, some 36), (206, 206, some 37), (206, 206, some 38), (226, 226, none), (227, 227, none), (228, 228, none), (235, 235, none), (248, 248, none), (268, 268, none), (269, 269, none), (270, 270, none), (279, 279, none), (280, 280, none), (281, 281, none)]
theorem fg_X14_check_516_b {w : rf_w} {rec208 : Int32 → Int32 → Int32 → Int32 → Int32 → rf_m → Option (Int32 × rf_m)} {rec516 : Int32 → Int32 → Int32 → Int32 → Int32 → Int32 → rf_m → Option (Int32 × rf_m)} {a2 : Int32} {a3 : Int32} {a10 : Int32} {a11 : Int32} {a12 : Int32} {a16 : Int32} {m : rf_m} (hr_rec208 : ∀ {x0 : Int32} {x1 : Int32} {x2 : Int32} {x3 : Int32} {x4 : Int32} {m : rf_m} {r : (Int32 × rf_m)}, rec208 x0 x1 x2 x3 x4 m = some r → fr S_X14_check m r.2) (hr_rec516 : ∀ {x0 : Int32} {x1 : Int32} {x2 : Int32} {x3 : Int32} {x4 : Int32} {x5 : Int32} {m : rf_m} {r : (Int32 × rf_m)}, rec516 x0 x1 x2 x3 x4 x5 m = some r → fr S_X14_check m r.2) {r : (Int32 × rf_m)} (h : g_X14_check_516_b w rec208 rec516 a2 a3 a10 a11 a12 a16 m = some r) : fr S_X14_check m r.2 := by
  unfold g_X14_check_516_b at h
  rcases rf_ite_some h with ⟨_, h⟩ | ⟨_, h⟩
  · exact fr_trans ((fr_refl _ m)) (hr_rec208 h)
  · obtain ⟨_, h⟩ := rf_g_some h
    obtain ⟨_, h⟩ := rf_g_some h
    exact fr_trans (fr_i ((fr_refl _ m)) (fr_c_in (by decide) _)) (hr_rec516 h)
theorem fg_X14_check_516 {w : rf_w} {rec208 : Int32 → Int32 → Int32 → Int32 → Int32 → rf_m → Option (Int32 × rf_m)} (hr_rec208 : ∀ {x0 : Int32} {x1 : Int32} {x2 : Int32} {x3 : Int32} {x4 : Int32} {m : rf_m} {r : (Int32 × rf_m)}, rec208 x0 x1 x2 x3 x4 m = some r → fr S_X14_check m r.2) (n : Nat) : ∀ {a2 : Int32} {a3 : Int32} {a10 : Int32} {a11 : Int32} {a12 : Int32} {a16 : Int32} {m : rf_m} {r : (Int32 × rf_m)}, g_X14_check_516 w rec208 n a2 a3 a10 a11 a12 a16 m = some r → fr S_X14_check m r.2 := by
  induction n with
  | zero => intro a2 a3 a10 a11 a12 a16 m r h; cases h
  | succ n ih =>
    intro a2 a3 a10 a11 a12 a16 m r h
    exact fg_X14_check_516_b hr_rec208 ih h
theorem fg_X14_check_513 {w : rf_w} {rec208 : Int32 → Int32 → Int32 → Int32 → Int32 → rf_m → Option (Int32 × rf_m)} {a2 : Int32} {a3 : Int32} {a10 : Int32} {a11 : Int32} {a12 : Int32} {m : rf_m} (hr_rec208 : ∀ {x0 : Int32} {x1 : Int32} {x2 : Int32} {x3 : Int32} {x4 : Int32} {m : rf_m} {r : (Int32 × rf_m)}, rec208 x0 x1 x2 x3 x4 m = some r → fr S_X14_check m r.2) {r : (Int32 × rf_m)} (h : g_X14_check_513 w rec208 a2 a3 a10 a11 a12 m = some r) : fr S_X14_check m r.2 := by
  unfold g_X14_check_513 at h
  exact fr_trans ((fr_refl _ m)) (fr_mono (fg_X14_check_516 hr_rec208 _ h) (by decide))
theorem fg_X14_check_465 {w : rf_w} {rec208 : Int32 → Int32 → Int32 → Int32 → Int32 → rf_m → Option (Int32 × rf_m)} {rec335 : Int32 → Int32 → Int32 → Int32 → Int32 → Int32 → Int32 → Int32 → Int32 → rf_m → Option (Int32 × rf_m)} {a2 : Int32} {a3 : Int32} {a10 : Int32} {a11 : Int32} {a12 : Int32} {a13 : Int32} {a14 : Int32} {a15 : Int32} {a16 : Int32} {m : rf_m} (hr_rec208 : ∀ {x0 : Int32} {x1 : Int32} {x2 : Int32} {x3 : Int32} {x4 : Int32} {m : rf_m} {r : (Int32 × rf_m)}, rec208 x0 x1 x2 x3 x4 m = some r → fr S_X14_check m r.2) (hr_rec335 : ∀ {x0 : Int32} {x1 : Int32} {x2 : Int32} {x3 : Int32} {x4 : Int32} {x5 : Int32} {x6 : Int32} {x7 : Int32} {x8 : Int32} {m : rf_m} {r : (Int32 × rf_m)}, rec335 x0 x1 x2 x3 x4 x5 x6 x7 x8 m = some r → fr S_X14_check m r.2) {r : (Int32 × rf_m)} (h : g_X14_check_465 w rec208 rec335 a2 a3 a10 a11 a12 a13 a14 a15 a16 m = some r) : fr S_X14_check m r.2 := by
  unfold g_X14_check_465 at h
  exact fr_trans ((fr_refl _ m)) (hr_rec335 h)
theorem fg_X14_check_459 {w : rf_w} {rec208 : Int32 → Int32 → Int32 → Int32 → Int32 → rf_m → Option (Int32 × rf_m)} {rec335 : Int32 → Int32 → Int32 → Int32 → Int32 → Int32 → Int32 → Int32 → Int32 → rf_m → Option (Int32 × rf_m)} {rec404 : Int32 → Int32 → Int32 → Int32 → Int32 → Int32 → Int32 → Int32 → Int32 → Int32 → rf_m → Option (Int32 × rf_m)} {a2 : Int32} {a3 : Int32} {a10 : Int32} {a11 : Int32} {a12 : Int32} {a13 : Int32} {a14 : Int32} {a15 : Int32} {a16 : Int32} {a19 : Int32} {m : rf_m} (hr_rec208 : ∀ {x0 : Int32} {x1 : Int32} {x2 : Int32} {x3 : Int32} {x4 : Int32} {m : rf_m} {r : (Int32 × rf_m)}, rec208 x0 x1 x2 x3 x4 m = some r → fr S_X14_check m r.2) (hr_rec335 : ∀ {x0 : Int32} {x1 : Int32} {x2 : Int32} {x3 : Int32} {x4 : Int32} {x5 : Int32} {x6 : Int32} {x7 : Int32} {x8 : Int32} {m : rf_m} {r : (Int32 × rf_m)}, rec335 x0 x1 x2 x3 x4 x5 x6 x7 x8 m = some r → fr S_X14_check m r.2) (hr_rec404 : ∀ {x0 : Int32} {x1 : Int32} {x2 : Int32} {x3 : Int32} {x4 : Int32} {x5 : Int32} {x6 : Int32} {x7 : Int32} {x8 : Int32} {x9 : Int32} {m : rf_m} {r : (Int32 × rf_m)}, rec404 x0 x1 x2 x3 x4 x5 x6 x7 x8 x9 m = some r → fr S_X14_check m r.2) {r : (Int32 × rf_m)} (h : g_X14_check_459 w rec208 rec335 rec404 a2 a3 a10 a11 a12 a13 a14 a15 a16 a19 m = some r) : fr S_X14_check m r.2 := by
  unfold g_X14_check_459 at h
  exact fr_trans ((fr_refl _ m)) (hr_rec404 h)
theorem fg_X14_check_404_b {w : rf_w} {rec208 : Int32 → Int32 → Int32 → Int32 → Int32 → rf_m → Option (Int32 × rf_m)} {rec335 : Int32 → Int32 → Int32 → Int32 → Int32 → Int32 → Int32 → Int32 → Int32 → rf_m → Option (Int32 × rf_m)} {rec404 : Int32 → Int32 → Int32 → Int32 → Int32 → Int32 → Int32 → Int32 → Int32 → Int32 → rf_m → Option (Int32 × rf_m)} {a2 : Int32} {a3 : Int32} {a10 : Int32} {a11 : Int32} {a12 : Int32} {a13 : Int32} {a14 : Int32} {a15 : Int32} {a16 : Int32} {a19 : Int32} {m : rf_m} (hr_rec208 : ∀ {x0 : Int32} {x1 : Int32} {x2 : Int32} {x3 : Int32} {x4 : Int32} {m : rf_m} {r : (Int32 × rf_m)}, rec208 x0 x1 x2 x3 x4 m = some r → fr S_X14_check m r.2) (hr_rec335 : ∀ {x0 : Int32} {x1 : Int32} {x2 : Int32} {x3 : Int32} {x4 : Int32} {x5 : Int32} {x6 : Int32} {x7 : Int32} {x8 : Int32} {m : rf_m} {r : (Int32 × rf_m)}, rec335 x0 x1 x2 x3 x4 x5 x6 x7 x8 m = some r → fr S_X14_check m r.2) (hr_rec404 : ∀ {x0 : Int32} {x1 : Int32} {x2 : Int32} {x3 : Int32} {x4 : Int32} {x5 : Int32} {x6 : Int32} {x7 : Int32} {x8 : Int32} {x9 : Int32} {m : rf_m} {r : (Int32 × rf_m)}, rec404 x0 x1 x2 x3 x4 x5 x6 x7 x8 x9 m = some r → fr S_X14_check m r.2) {r : (Int32 × rf_m)} (h : g_X14_check_404_b w rec208 rec335 rec404 a2 a3 a10 a11 a12 a13 a14 a15 a16 a19 m = some r) : fr S_X14_check m r.2 := by
  unfold g_X14_check_404_b at h
  rcases rf_ite_some h with ⟨_, h⟩ | ⟨_, h⟩
  · exact fr_trans ((fr_refl _ m)) (fr_mono (fg_X14_check_465 hr_rec208 hr_rec335 h) (by decide))
  · rcases rf_ite_some h with ⟨_, h⟩ | ⟨_, h⟩
    · exact fr_trans ((fr_refl _ m)) (fr_mono (fg_X14_check_459 hr_rec208 hr_rec335 hr_rec404 h) (by decide))
    · obtain ⟨_, h⟩ := rf_g_some h
      obtain ⟨_, h⟩ := rf_g_some h
      obtain ⟨_, h⟩ := rf_g_some h
      obtain ⟨_, h⟩ := rf_g_some h
      obtain ⟨m4, q1, h⟩ := rf_bv_some h
      have e1 : fr S_X14_check m m4 := fr_trans ((fr_refl _ m)) (fr_mono (fg_X14_allows__281 q1) (by decide))
      exact fr_trans e1 (fr_mono (fg_X14_check_459 hr_rec208 hr_rec335 hr_rec404 h) (by decide))
theorem fg_X14_check_404 {w : rf_w} {rec208 : Int32 → Int32 → Int32 → Int32 → Int32 → rf_m → Option (Int32 × rf_m)} {rec335 : Int32 → Int32 → Int32 → Int32 → Int32 → Int32 → Int32 → Int32 → Int32 → rf_m → Option (Int32 × rf_m)} (hr_rec208 : ∀ {x0 : Int32} {x1 : Int32} {x2 : Int32} {x3 : Int32} {x4 : Int32} {m : rf_m} {r : (Int32 × rf_m)}, rec208 x0 x1 x2 x3 x4 m = some r → fr S_X14_check m r.2) (hr_rec335 : ∀ {x0 : Int32} {x1 : Int32} {x2 : Int32} {x3 : Int32} {x4 : Int32} {x5 : Int32} {x6 : Int32} {x7 : Int32} {x8 : Int32} {m : rf_m} {r : (Int32 × rf_m)}, rec335 x0 x1 x2 x3 x4 x5 x6 x7 x8 m = some r → fr S_X14_check m r.2) (n : Nat) : ∀ {a2 : Int32} {a3 : Int32} {a10 : Int32} {a11 : Int32} {a12 : Int32} {a13 : Int32} {a14 : Int32} {a15 : Int32} {a16 : Int32} {a19 : Int32} {m : rf_m} {r : (Int32 × rf_m)}, g_X14_check_404 w rec208 rec335 n a2 a3 a10 a11 a12 a13 a14 a15 a16 a19 m = some r → fr S_X14_check m r.2 := by
  induction n with
  | zero => intro a2 a3 a10 a11 a12 a13 a14 a15 a16 a19 m r h; cases h
  | succ n ih =>
    intro a2 a3 a10 a11 a12 a13 a14 a15 a16 a19 m r h
    exact fg_X14_check_404_b hr_rec208 hr_rec335 ih h
theorem fg_X14_check_335_b {w : rf_w} {rec208 : Int32 → Int32 → Int32 → Int32 → Int32 → rf_m → Option (Int32 × rf_m)} {rec335 : Int32 → Int32 → Int32 → Int32 → Int32 → Int32 → Int32 → Int32 → Int32 → rf_m → Option (Int32 × rf_m)} {a2 : Int32} {a3 : Int32} {a10 : Int32} {a11 : Int32} {a12 : Int32} {a13 : Int32} {a14 : Int32} {a15 : Int32} {a16 : Int32} {m : rf_m} (hr_rec208 : ∀ {x0 : Int32} {x1 : Int32} {x2 : Int32} {x3 : Int32} {x4 : Int32} {m : rf_m} {r : (Int32 × rf_m)}, rec208 x0 x1 x2 x3 x4 m = some r → fr S_X14_check m r.2) (hr_rec335 : ∀ {x0 : Int32} {x1 : Int32} {x2 : Int32} {x3 : Int32} {x4 : Int32} {x5 : Int32} {x6 : Int32} {x7 : Int32} {x8 : Int32} {m : rf_m} {r : (Int32 × rf_m)}, rec335 x0 x1 x2 x3 x4 x5 x6 x7 x8 m = some r → fr S_X14_check m r.2) {r : (Int32 × rf_m)} (h : g_X14_check_335_b w rec208 rec335 a2 a3 a10 a11 a12 a13 a14 a15 a16 m = some r) : fr S_X14_check m r.2 := by
  unfold g_X14_check_335_b at h
  rcases rf_ite_some h with ⟨_, h⟩ | ⟨_, h⟩
  · rcases rf_ite_some h with ⟨_, h⟩ | ⟨_, h⟩
    · obtain ⟨y0, m0, q1, h⟩ := rf_b_some h
      have e1 : fr S_X14_check m m0 := fr_trans ((fr_refl _ m)) (fr_mono (fg_X14_done q1) (by decide))
      obtain rfl := Option.some.inj h
      exact e1
    · rcases rf_ite_some h with ⟨_, h⟩ | ⟨_, h⟩
      · obtain ⟨y1, m1, q2, h⟩ := rf_b_some h
        have e2 : fr S_X14_check m m1 := fr_trans ((fr_refl _ m)) (fr_mono (fg_X14_done q2) (by decide))
        obtain rfl := Option.some.inj h
        exact e2
      · rcases rf_ite_some h with ⟨_, h⟩ | ⟨_, h⟩
        · obtain ⟨_, h⟩ := rf_g_some h
          rcases rf_ite_some h with ⟨_, h⟩ | ⟨_, h⟩
          · obtain ⟨y3, m3, q3, h⟩ := rf_b_some h
            have e3 : fr S_X14_check m m3 := fr_trans ((fr_refl _ m)) (fr_mono (fg_X14_done q3) (by decide))
            obtain rfl := Option.some.inj h
            exact e3
          · exact fr_trans ((fr_refl _ m)) (fr_mono (fg_X14_check_513 hr_rec208 h) (by decide))
        · exact fr_trans ((fr_refl _ m)) (fr_mono (fg_X14_check_513 hr_rec208 h) (by decide))
  · obtain ⟨_, h⟩ := rf_g_some h
    obtain ⟨_, h⟩ := rf_g_some h
    have h := fr_vi h
    obtain ⟨_, h⟩ := rf_g_some h
    obtain ⟨_, h⟩ := rf_g_some h
    have h := fr_vi h
    obtain ⟨_, h⟩ := rf_g_some h
    rcases rf_ite_some h with ⟨_, h⟩ | ⟨_, h⟩
    · exact fr_trans ((fr_refl _ m)) (fr_mono (fg_X14_check_465 hr_rec208 hr_rec335 h) (by decide))
    · exact fr_trans ((fr_refl _ m)) (fr_mono (fg_X14_check_404 hr_rec208 hr_rec335 _ h) (by decide))
theorem fg_X14_check_335 {w : rf_w} {rec208 : Int32 → Int32 → Int32 → Int32 → Int32 → rf_m → Option (Int32 × rf_m)} (hr_rec208 : ∀ {x0 : Int32} {x1 : Int32} {x2 : Int32} {x3 : Int32} {x4 : Int32} {m : rf_m} {r : (Int32 × rf_m)}, rec208 x0 x1 x2 x3 x4 m = some r → fr S_X14_check m r.2) (n : Nat) : ∀ {a2 : Int32} {a3 : Int32} {a10 : Int32} {a11 : Int32} {a12 : Int32} {a13 : Int32} {a14 : Int32} {a15 : Int32} {a16 : Int32} {m : rf_m} {r : (Int32 × rf_m)}, g_X14_check_335 w rec208 n a2 a3 a10 a11 a12 a13 a14 a15 a16 m = some r → fr S_X14_check m r.2 := by
  induction n with
  | zero => intro a2 a3 a10 a11 a12 a13 a14 a15 a16 m r h; cases h
  | succ n ih =>
    intro a2 a3 a10 a11 a12 a13 a14 a15 a16 m r h
    exact fg_X14_check_335_b hr_rec208 ih h
theorem fg_X14_check_307_b {w : rf_w} {rec208 : Int32 → Int32 → Int32 → Int32 → Int32 → rf_m → Option (Int32 × rf_m)} {rec307 : Int32 → Int32 → Int32 → Int32 → Int32 → Int32 → Int32 → Int32 → rf_m → Option (Int32 × rf_m)} {a2 : Int32} {a3 : Int32} {a10 : Int32} {a11 : Int32} {a12 : Int32} {a13 : Int32} {a14 : Int32} {a15 : Int32} {m : rf_m} (hr_rec208 : ∀ {x0 : Int32} {x1 : Int32} {x2 : Int32} {x3 : Int32} {x4 : Int32} {m : rf_m} {r : (Int32 × rf_m)}, rec208 x0 x1 x2 x3 x4 m = some r → fr S_X14_check m r.2) (hr_rec307 : ∀ {x0 : Int32} {x1 : Int32} {x2 : Int32} {x3 : Int32} {x4 : Int32} {x5 : Int32} {x6 : Int32} {x7 : Int32} {m : rf_m} {r : (Int32 × rf_m)}, rec307 x0 x1 x2 x3 x4 x5 x6 x7 m = some r → fr S_X14_check m r.2) {r : (Int32 × rf_m)} (h : g_X14_check_307_b w rec208 rec307 a2 a3 a10 a11 a12 a13 a14 a15 m = some r) : fr S_X14_check m r.2 := by
  unfold g_X14_check_307_b at h
  rcases rf_ite_some h with ⟨_, h⟩ | ⟨_, h⟩
  · exact fr_trans ((fr_refl _ m)) (fr_mono (fg_X14_check_335 hr_rec208 _ h) (by decide))
  · obtain ⟨_, h⟩ := rf_g_some h
    exact fr_trans (fr_i ((fr_refl _ m)) (fr_c_in (by decide) _)) (hr_rec307 h)
theorem fg_X14_check_307 {w : rf_w} {rec208 : Int32 → Int32 → Int32 → Int32 → Int32 → rf_m → Option (Int32 × rf_m)} (hr_rec208 : ∀ {x0 : Int32} {x1 : Int32} {x2 : Int32} {x3 : Int32} {x4 : Int32} {m : rf_m} {r : (Int32 × rf_m)}, rec208 x0 x1 x2 x3 x4 m = some r → fr S_X14_check m r.2) (n : Nat) : ∀ {a2 : Int32} {a3 : Int32} {a10 : Int32} {a11 : Int32} {a12 : Int32} {a13 : Int32} {a14 : Int32} {a15 : Int32} {m : rf_m} {r : (Int32 × rf_m)}, g_X14_check_307 w rec208 n a2 a3 a10 a11 a12 a13 a14 a15 m = some r → fr S_X14_check m r.2 := by
  induction n with
  | zero => intro a2 a3 a10 a11 a12 a13 a14 a15 m r h; cases h
  | succ n ih =>
    intro a2 a3 a10 a11 a12 a13 a14 a15 m r h
    exact fg_X14_check_307_b hr_rec208 ih h
theorem fg_X14_check_296 {w : rf_w} {rec208 : Int32 → Int32 → Int32 → Int32 → Int32 → rf_m → Option (Int32 × rf_m)} {rec267 : Int32 → Int32 → Int32 → Int32 → Int32 → Int32 → Int32 → Int32 → rf_m → Option (Int32 × rf_m)} {a2 : Int32} {a3 : Int32} {a10 : Int32} {a11 : Int32} {a12 : Int32} {a13 : Int32} {a15 : Int32} {s0 : Int32} {m : rf_m} (hr_rec208 : ∀ {x0 : Int32} {x1 : Int32} {x2 : Int32} {x3 : Int32} {x4 : Int32} {m : rf_m} {r : (Int32 × rf_m)}, rec208 x0 x1 x2 x3 x4 m = some r → fr S_X14_check m r.2) (hr_rec267 : ∀ {x0 : Int32} {x1 : Int32} {x2 : Int32} {x3 : Int32} {x4 : Int32} {x5 : Int32} {x6 : Int32} {x7 : Int32} {m : rf_m} {r : (Int32 × rf_m)}, rec267 x0 x1 x2 x3 x4 x5 x6 x7 m = some r → fr S_X14_check m r.2) {r : (Int32 × rf_m)} (h : g_X14_check_296 w rec208 rec267 a2 a3 a10 a11 a12 a13 a15 s0 m = some r) : fr S_X14_check m r.2 := by
  unfold g_X14_check_296 at h
  exact fr_trans ((fr_refl _ m)) (hr_rec267 h)
theorem fg_X14_check_295 {w : rf_w} {rec208 : Int32 → Int32 → Int32 → Int32 → Int32 → rf_m → Option (Int32 × rf_m)} {rec267 : Int32 → Int32 → Int32 → Int32 → Int32 → Int32 → Int32 → Int32 → rf_m → Option (Int32 × rf_m)} {a2 : Int32} {a3 : Int32} {a10 : Int32} {a11 : Int32} {a12 : Int32} {a13 : Int32} {a15 : Int32} {m : rf_m} (hr_rec208 : ∀ {x0 : Int32} {x1 : Int32} {x2 : Int32} {x3 : Int32} {x4 : Int32} {m : rf_m} {r : (Int32 × rf_m)}, rec208 x0 x1 x2 x3 x4 m = some r → fr S_X14_check m r.2) (hr_rec267 : ∀ {x0 : Int32} {x1 : Int32} {x2 : Int32} {x3 : Int32} {x4 : Int32} {x5 : Int32} {x6 : Int32} {x7 : Int32} {m : rf_m} {r : (Int32 × rf_m)}, rec267 x0 x1 x2 x3 x4 x5 x6 x7 m = some r → fr S_X14_check m r.2) {r : (Int32 × rf_m)} (h : g_X14_check_295 w rec208 rec267 a2 a3 a10 a11 a12 a13 a15 m = some r) : fr S_X14_check m r.2 := by
  unfold g_X14_check_295 at h
  exact fr_trans ((fr_refl _ m)) (fr_mono (fg_X14_check_296 hr_rec208 hr_rec267 h) (by decide))
theorem fg_X14_check_267_b {w : rf_w} {rec208 : Int32 → Int32 → Int32 → Int32 → Int32 → rf_m → Option (Int32 × rf_m)} {rec267 : Int32 → Int32 → Int32 → Int32 → Int32 → Int32 → Int32 → Int32 → rf_m → Option (Int32 × rf_m)} {a2 : Int32} {a3 : Int32} {a10 : Int32} {a11 : Int32} {a12 : Int32} {a13 : Int32} {a14 : Int32} {a15 : Int32} {m : rf_m} (hr_rec208 : ∀ {x0 : Int32} {x1 : Int32} {x2 : Int32} {x3 : Int32} {x4 : Int32} {m : rf_m} {r : (Int32 × rf_m)}, rec208 x0 x1 x2 x3 x4 m = some r → fr S_X14_check m r.2) (hr_rec267 : ∀ {x0 : Int32} {x1 : Int32} {x2 : Int32} {x3 : Int32} {x4 : Int32} {x5 : Int32} {x6 : Int32} {x7 : Int32} {m : rf_m} {r : (Int32 × rf_m)}, rec267 x0 x1 x2 x3 x4 x5 x6 x7 m = some r → fr S_X14_check m r.2) {r : (Int32 × rf_m)} (h : g_X14_check_267_b w rec208 rec267 a2 a3 a10 a11 a12 a13 a14 a15 m = some r) : fr S_X14_check m r.2 := by
  unfold g_X14_check_267_b at h
  rcases rf_ite_some h with ⟨_, h⟩ | ⟨_, h⟩
  · exact fr_trans ((fr_refl _ m)) (fr_mono (fg_X14_check_307 hr_rec208 _ h) (by decide))
  · rcases rf_ite_some h with ⟨_, h⟩ | ⟨_, h⟩
    · exact fr_trans ((fr_refl _ m)) (fr_mono (fg_X14_check_295 hr_rec208 hr_rec267 h) (by decide))
    · obtain ⟨_, h⟩ := rf_g_some h
      rcases rf_ite_some h with ⟨_, h⟩ | ⟨_, h⟩
      · exact fr_trans ((fr_refl _ m)) (fr_mono (fg_X14_check_295 hr_rec208 hr_rec267 h) (by decide))
      · exact fr_trans ((fr_refl _ m)) (fr_mono (fg_X14_check_296 hr_rec208 hr_rec267 h) (by decide))
theorem fg_X14_check_267 {w : rf_w} {rec208 : Int32 → Int32 → Int32 → Int32 → Int32 → rf_m → Option (Int32 × rf_m)} (hr_rec208 : ∀ {x0 : Int32} {x1 : Int32} {x2 : Int32} {x3 : Int32} {x4 : Int32} {m : rf_m} {r : (Int32 × rf_m)}, rec208 x0 x1 x2 x3 x4 m = some r → fr S_X14_check m r.2) (n : Nat) : ∀ {a2 : Int32} {a3 : Int32} {a10 : Int32} {a11 : Int32} {a12 : Int32} {a13 : Int32} {a14 : Int32} {a15 : Int32} {m : rf_m} {r : (Int32 × rf_m)}, g_X14_check_267 w rec208 n a2 a3 a10 a11 a12 a13 a14 a15 m = some r → fr S_X14_check m r.2 := by
  induction n with
  | zero => intro a2 a3 a10 a11 a12 a13 a14 a15 m r h; cases h
  | succ n ih =>
    intro a2 a3 a10 a11 a12 a13 a14 a15 m r h
    exact fg_X14_check_267_b hr_rec208 ih h
theorem fg_X14_check_262 {w : rf_w} {rec208 : Int32 → Int32 → Int32 → Int32 → Int32 → rf_m → Option (Int32 × rf_m)} {a2 : Int32} {a3 : Int32} {a10 : Int32} {a11 : Int32} {a12 : Int32} {a13 : Int32} {s0 : Int32} {m : rf_m} (hr_rec208 : ∀ {x0 : Int32} {x1 : Int32} {x2 : Int32} {x3 : Int32} {x4 : Int32} {m : rf_m} {r : (Int32 × rf_m)}, rec208 x0 x1 x2 x3 x4 m = some r → fr S_X14_check m r.2) {r : (Int32 × rf_m)} (h : g_X14_check_262 w rec208 a2 a3 a10 a11 a12 a13 s0 m = some r) : fr S_X14_check m r.2 := by
  unfold g_X14_check_262 at h
  exact fr_trans ((fr_refl _ m)) (fr_mono (fg_X14_check_267 hr_rec208 _ h) (by decide))
theorem fg_X14_check_261 {w : rf_w} {rec208 : Int32 → Int32 → Int32 → Int32 → Int32 → rf_m → Option (Int32 × rf_m)} {a2 : Int32} {a3 : Int32} {a10 : Int32} {a11 : Int32} {a12 : Int32} {a13 : Int32} {m : rf_m} (hr_rec208 : ∀ {x0 : Int32} {x1 : Int32} {x2 : Int32} {x3 : Int32} {x4 : Int32} {m : rf_m} {r : (Int32 × rf_m)}, rec208 x0 x1 x2 x3 x4 m = some r → fr S_X14_check m r.2) {r : (Int32 × rf_m)} (h : g_X14_check_261 w rec208 a2 a3 a10 a11 a12 a13 m = some r) : fr S_X14_check m r.2 := by
  unfold g_X14_check_261 at h
  exact fr_trans ((fr_refl _ m)) (fr_mono (fg_X14_check_262 hr_rec208 h) (by decide))
theorem fg_X14_check_208_b {w : rf_w} {rec208 : Int32 → Int32 → Int32 → Int32 → Int32 → rf_m → Option (Int32 × rf_m)} {a2 : Int32} {a3 : Int32} {a10 : Int32} {a11 : Int32} {a12 : Int32} {m : rf_m} (hr_rec208 : ∀ {x0 : Int32} {x1 : Int32} {x2 : Int32} {x3 : Int32} {x4 : Int32} {m : rf_m} {r : (Int32 × rf_m)}, rec208 x0 x1 x2 x3 x4 m = some r → fr S_X14_check m r.2) {r : (Int32 × rf_m)} (h : g_X14_check_208_b w rec208 a2 a3 a10 a11 a12 m = some r) : fr S_X14_check m r.2 := by
  unfold g_X14_check_208_b at h
  rcases rf_ite_some h with ⟨_, h⟩ | ⟨_, h⟩
  · obtain ⟨y0, m0, q1, h⟩ := rf_b_some h
    have e1 : fr S_X14_check m m0 := fr_trans ((fr_refl _ m)) (fr_mono (fg_X14_done q1) (by decide))
    obtain rfl := Option.some.inj h
    exact e1
  · obtain ⟨_, h⟩ := rf_g_some h
    have h := fr_vi h
    obtain ⟨y3, m3, q2, h⟩ := rf_b_some h
    have e2 : fr S_X14_check m m3 := fr_trans ((fr_refl _ m)) (fr_mono (fg_X14_isWell q2) (by decide))
    rcases rf_ite_some h with ⟨_, h⟩ | ⟨_, h⟩
    · exact fr_trans e2 (fr_mono (fg_X14_check_261 hr_rec208 h) (by decide))
    · obtain ⟨y4, m4, q3, h⟩ := rf_b_some h
      have e3 : fr S_X14_check m m4 := fr_trans e2 (fr_mono (fg_X14_missOf q3) (by decide))
      obtain ⟨y5, m5, q4, h⟩ := rf_b_some h
      have e4 : fr S_X14_check m m5 := fr_trans e3 (fr_mono (fg_X14_isWide q4) (by decide))
      rcases rf_ite_some h with ⟨_, h⟩ | ⟨_, h⟩
      · obtain ⟨y6, m6, q5, h⟩ := rf_b_some h
        have e5 : fr S_X14_check m m6 := fr_trans e4 (fr_mono (fg_X14_carries q5) (by decide))
        rcases rf_ite_some h with ⟨_, h⟩ | ⟨_, h⟩
        · exact fr_trans e5 (fr_mono (fg_X14_check_261 hr_rec208 h) (by decide))
        · exact fr_trans e5 (fr_mono (fg_X14_check_262 hr_rec208 h) (by decide))
      · exact fr_trans e4 (fr_mono (fg_X14_check_261 hr_rec208 h) (by decide))
theorem fg_X14_check_208 {w : rf_w} (n : Nat) : ∀ {a2 : Int32} {a3 : Int32} {a10 : Int32} {a11 : Int32} {a12 : Int32} {m : rf_m} {r : (Int32 × rf_m)}, g_X14_check_208 w n a2 a3 a10 a11 a12 m = some r → fr S_X14_check m r.2 := by
  induction n with
  | zero => intro a2 a3 a10 a11 a12 m r h; cases h
  | succ n ih =>
    intro a2 a3 a10 a11 a12 m r h
    exact fg_X14_check_208_b ih h
theorem fg_X14_check_163_b {w : rf_w} {rec163 : Int32 → Int32 → Int32 → Int32 → Int32 → Int32 → rf_m → Option (Int32 × rf_m)} {a1 : Int32} {a2 : Int32} {a3 : Int32} {a10 : Int32} {a11 : Int32} {a12 : Int32} {m : rf_m} (hr_rec163 : ∀ {x0 : Int32} {x1 : Int32} {x2 : Int32} {x3 : Int32} {x4 : Int32} {x5 : Int32} {m : rf_m} {r : (Int32 × rf_m)}, rec163 x0 x1 x2 x3 x4 x5 m = some r → fr S_X14_check m r.2) {r : (Int32 × rf_m)} (h : g_X14_check_163_b w rec163 a1 a2 a3 a10 a11 a12 m = some r) : fr S_X14_check m r.2 := by
  unfold g_X14_check_163_b at h
  rcases rf_ite_some h with ⟨_, h⟩ | ⟨_, h⟩
  · obtain ⟨_, h⟩ := rf_g_some h
    obtain ⟨_, h⟩ := rf_g_some h
    obtain ⟨m2, q1, h⟩ := rf_bv_some h
    have e1 : fr S_X14_check m m2 := fr_trans ((fr_refl _ m)) (fr_mono (fg_X14_allows__280 q1) (by decide))
    exact fr_trans e1 (fr_mono (fg_X14_check_208 _ h) (by decide))
  · obtain ⟨_, h⟩ := rf_g_some h
    exact fr_trans (fr_i ((fr_refl _ m)) (fr_c_in (by decide) _)) (hr_rec163 h)
theorem fg_X14_check_163 {w : rf_w} (n : Nat) : ∀ {a1 : Int32} {a2 : Int32} {a3 : Int32} {a10 : Int32} {a11 : Int32} {a12 : Int32} {m : rf_m} {r : (Int32 × rf_m)}, g_X14_check_163 w n a1 a2 a3 a10 a11 a12 m = some r → fr S_X14_check m r.2 := by
  induction n with
  | zero => intro a1 a2 a3 a10 a11 a12 m r h; cases h
  | succ n ih =>
    intro a1 a2 a3 a10 a11 a12 m r h
    exact fg_X14_check_163_b ih h
theorem fg_X14_check_135 {w : rf_w} {a1 : Int32} {a2 : Int32} {a3 : Int32} {a10 : Int32} {m : rf_m} {r : (Int32 × rf_m)} (h : g_X14_check_135 w a1 a2 a3 a10 m = some r) : fr S_X14_check m r.2 := by
  unfold g_X14_check_135 at h
  rcases rf_ite_some h with ⟨_, h⟩ | ⟨_, h⟩
  · obtain ⟨y3, m3, q1, h⟩ := rf_b_some h
    have e1 : fr S_X14_check m m3 := fr_trans ((fr_refl _ m)) (fr_mono (fg_X14_refused q1) (by decide))
    obtain rfl := Option.some.inj h
    exact e1
  · obtain ⟨m0, q2, h⟩ := rf_bv_some h
    have e2 : fr S_X14_check m m0 := fr_trans ((fr_refl _ m)) (fr_mono (fg_X14_allMeans q2) (by decide))
    obtain ⟨m1, q3, h⟩ := rf_bv_some h
    have e3 : fr S_X14_check m m1 := fr_trans e2 (fr_mono (fg_X14_allSines q3) (by decide))
    obtain ⟨y2, m2, q4, h⟩ := rf_b_some h
    have e4 : fr S_X14_check m m2 := fr_trans e3 (fr_mono (fg_X14_allowed q4) (by decide))
    exact fr_trans e4 (fr_mono (fg_X14_check_163 _ h) (by decide))
theorem fg_X14_check_91_b {w : rf_w} {rec91 : Int32 → Int32 → Int32 → Int32 → rf_m → Option (Int32 × rf_m)} {a1 : Int32} {a2 : Int32} {a3 : Int32} {a10 : Int32} {m : rf_m} (hr_rec91 : ∀ {x0 : Int32} {x1 : Int32} {x2 : Int32} {x3 : Int32} {m : rf_m} {r : (Int32 × rf_m)}, rec91 x0 x1 x2 x3 m = some r → fr S_X14_check m r.2) {r : (Int32 × rf_m)} (h : g_X14_check_91_b w rec91 a1 a2 a3 a10 m = some r) : fr S_X14_check m r.2 := by
  unfold g_X14_check_91_b at h
  rcases rf_ite_some h with ⟨_, h⟩ | ⟨_, h⟩
  · exact fr_trans ((fr_refl _ m)) (fr_mono (fg_X14_check_135 h) (by decide))
  · obtain ⟨_, h⟩ := rf_g_some h
    rcases rf_ite_some h with ⟨_, h⟩ | ⟨_, h⟩
    · exact fr_trans ((fr_refl _ m)) (fr_mono (fg_X14_check_135 h) (by decide))
    · obtain ⟨_, h⟩ := rf_g_some h
      obtain ⟨y2, m2, q1, h⟩ := rf_b_some h
      have e1 : fr S_X14_check m m2 := fr_trans ((fr_refl _ m)) (fr_mono (fg_X14_isTriangle q1) (by decide))
      rcases rf_ite_some h with ⟨_, h⟩ | ⟨_, h⟩
      · obtain ⟨y3, m3, q2, h⟩ := rf_b_some h
        have e2 : fr S_X14_check m m3 := fr_trans e1 (fr_mono (fg_X14_refused q2) (by decide))
        obtain rfl := Option.some.inj h
        exact e2
      · exact fr_trans e1 (hr_rec91 h)
theorem fg_X14_check_91 {w : rf_w} (n : Nat) : ∀ {a1 : Int32} {a2 : Int32} {a3 : Int32} {a10 : Int32} {m : rf_m} {r : (Int32 × rf_m)}, g_X14_check_91 w n a1 a2 a3 a10 m = some r → fr S_X14_check m r.2 := by
  induction n with
  | zero => intro a1 a2 a3 a10 m r h; cases h
  | succ n ih =>
    intro a1 a2 a3 a10 m r h
    exact fg_X14_check_91_b ih h
theorem fg_X14_check {w : rf_w} {m : rf_m} {a1 : Int32} {a2 : Int32} {a3 : Int32} {a4 : Int32} {a5 : Int32} {a6 : Int32} {a7 : Int32} {a8 : Int32} {a9 : Int32} {r : (Int32 × rf_m)} (h : g_X14_check w m a1 a2 a3 a4 a5 a6 a7 a8 a9 = some r) : fr S_X14_check m r.2 := by
  unfold g_X14_check at h
  obtain ⟨y0, m0, q1, h⟩ := rf_b_some h
  have e1 : fr S_X14_check m m0 := fr_trans (fr_i ((fr_refl _ m)) (by decide)) (fr_mono (fg_X14_isBase q1) (by decide))
  rcases rf_ite_some h with ⟨_, h⟩ | ⟨_, h⟩
  · obtain ⟨y1, m1, q2, h⟩ := rf_b_some h
    have e2 : fr S_X14_check m m1 := fr_trans e1 (fr_mono (fg_X14_refused q2) (by decide))
    obtain rfl := Option.some.inj h
    exact e2
  · obtain ⟨y2, m2, q3, h⟩ := rf_b_some h
    have e3 : fr S_X14_check m m2 := fr_trans e1 (fr_mono (fg_X14_isMark q3) (by decide))
    rcases rf_ite_some h with ⟨_, h⟩ | ⟨_, h⟩
    · obtain ⟨y3, m3, q4, h⟩ := rf_b_some h
      have e4 : fr S_X14_check m m3 := fr_trans e3 (fr_mono (fg_X14_refused q4) (by decide))
      obtain rfl := Option.some.inj h
      exact e4
    · obtain ⟨y4, m4, q5, h⟩ := rf_b_some h
      have e5 : fr S_X14_check m m4 := fr_trans e3 (fr_mono (fg_X14_isMark q5) (by decide))
      rcases rf_ite_some h with ⟨_, h⟩ | ⟨_, h⟩
      · obtain ⟨y5, m5, q6, h⟩ := rf_b_some h
        have e6 : fr S_X14_check m m5 := fr_trans e5 (fr_mono (fg_X14_refused q6) (by decide))
        obtain rfl := Option.some.inj h
        exact e6
      · rcases rf_ite_some h with ⟨_, h⟩ | ⟨_, h⟩
        · obtain ⟨y6, m6, q7, h⟩ := rf_b_some h
          have e7 : fr S_X14_check m m6 := fr_trans e5 (fr_mono (fg_X14_refused q7) (by decide))
          obtain rfl := Option.some.inj h
          exact e7
        · exact fr_trans (fr_i (fr_i (fr_i (fr_i (fr_i (fr_i e5 (fr_c_in (by decide) _)) (fr_c_in (by decide) _)) (fr_c_in (by decide) _)) (fr_c_in (by decide) _)) (fr_c_in (by decide) _)) (fr_c_in (by decide) _)) (fr_mono (fg_X14_check_91 _ h) (by decide))
def S_X14_isKeptNow : fr_S := [(206, 206, some 33), (206, 206, some 34), (206, 206, some 35), (206, 206, some 36), (206, 206, some 37), (206, 206, some 38), (226, 226, none), (227, 227, none), (228, 228, none), (235, 235, none)]
theorem fg_X14_isKeptNow_41 {w : rf_w} {rec14 : Int32 → Int32 → Int32 → rf_m → Option (Int32 × rf_m)} {a1 : Int32} {a3 : Int32} {s0 : Int32} {m : rf_m} (hr_rec14 : ∀ {x0 : Int32} {x1 : Int32} {x2 : Int32} {m : rf_m} {r : (Int32 × rf_m)}, rec14 x0 x1 x2 m = some r → fr S_X14_isKeptNow m r.2) {r : (Int32 × rf_m)} (h : g_X14_isKeptNow_41 w rec14 a1 a3 s0 m = some r) : fr S_X14_isKeptNow m r.2 := by
  unfold g_X14_isKeptNow_41 at h
  exact fr_trans ((fr_refl _ m)) (hr_rec14 h)
theorem fg_X14_isKeptNow_36 {w : rf_w} {rec14 : Int32 → Int32 → Int32 → rf_m → Option (Int32 × rf_m)} {a1 : Int32} {a3 : Int32} {m : rf_m} (hr_rec14 : ∀ {x0 : Int32} {x1 : Int32} {x2 : Int32} {m : rf_m} {r : (Int32 × rf_m)}, rec14 x0 x1 x2 m = some r → fr S_X14_isKeptNow m r.2) {r : (Int32 × rf_m)} (h : g_X14_isKeptNow_36 w rec14 a1 a3 m = some r) : fr S_X14_isKeptNow m r.2 := by
  unfold g_X14_isKeptNow_36 at h
  exact fr_trans ((fr_refl _ m)) (fr_mono (fg_X14_isKeptNow_41 hr_rec14 h) (by decide))
theorem fg_X14_isKeptNow_14_b {w : rf_w} {rec14 : Int32 → Int32 → Int32 → rf_m → Option (Int32 × rf_m)} {a1 : Int32} {a2 : Int32} {a3 : Int32} {m : rf_m} (hr_rec14 : ∀ {x0 : Int32} {x1 : Int32} {x2 : Int32} {m : rf_m} {r : (Int32 × rf_m)}, rec14 x0 x1 x2 m = some r → fr S_X14_isKeptNow m r.2) {r : (Int32 × rf_m)} (h : g_X14_isKeptNow_14_b w rec14 a1 a2 a3 m = some r) : fr S_X14_isKeptNow m r.2 := by
  unfold g_X14_isKeptNow_14_b at h
  rcases rf_ite_some h with ⟨_, h⟩ | ⟨_, h⟩
  · obtain ⟨_, h⟩ := rf_g_some h
    obtain rfl := Option.some.inj h
    exact (fr_refl _ m)
  · rcases rf_ite_some h with ⟨_, h⟩ | ⟨_, h⟩
    · obtain ⟨_, h⟩ := rf_g_some h
      rcases rf_ite_some h with ⟨_, h⟩ | ⟨_, h⟩
      · exact fr_trans ((fr_refl _ m)) (fr_mono (fg_X14_isKeptNow_36 hr_rec14 h) (by decide))
      · exact fr_trans ((fr_refl _ m)) (fr_mono (fg_X14_isKeptNow_41 hr_rec14 h) (by decide))
    · exact fr_trans ((fr_refl _ m)) (fr_mono (fg_X14_isKeptNow_36 hr_rec14 h) (by decide))
theorem fg_X14_isKeptNow_14 {w : rf_w} (n : Nat) : ∀ {a1 : Int32} {a2 : Int32} {a3 : Int32} {m : rf_m} {r : (Int32 × rf_m)}, g_X14_isKeptNow_14 w n a1 a2 a3 m = some r → fr S_X14_isKeptNow m r.2 := by
  induction n with
  | zero => intro a1 a2 a3 m r h; cases h
  | succ n ih =>
    intro a1 a2 a3 m r h
    exact fg_X14_isKeptNow_14_b ih h
theorem fg_X14_isKeptNow {w : rf_w} {m : rf_m} {a1 : Int32} {r : (Int32 × rf_m)} (h : g_X14_isKeptNow w m a1 = some r) : fr S_X14_isKeptNow m r.2 := by
  unfold g_X14_isKeptNow at h
  obtain ⟨_, h⟩ := rf_g_some h
  obtain ⟨m1, q1, h⟩ := rf_bv_some h
  have e1 : fr S_X14_isKeptNow m m1 := fr_trans ((fr_refl _ m)) (fr_mono (fg_X14_now q1) (by decide))
  exact fr_trans e1 (fr_mono (fg_X14_isKeptNow_14 _ h) (by decide))
def S_X14_suspect : fr_S := [(206, 206, some 0), (206, 206, some 1), (206, 206, some 2), (206, 206, some 33), (206, 206, some 34), (206, 206, some 35), (206, 206, some 36), (206, 206, some 37), (206, 206, some 38), (206, 206, some 116), (226, 226, none), (227, 227, none), (228, 228, none), (235, 235, none), (282, 282, none)]
theorem fg_X14_suspect_131 {w : rf_w} {a1 : Int32} {a3 : Int32} {m : rf_m} {r : (Int32 × rf_m)} (h : g_X14_suspect_131 w a1 a3 m = some r) : fr S_X14_suspect m r.2 := by
  unfold g_X14_suspect_131 at h
  obtain ⟨_, h⟩ := rf_g_some h
  obtain ⟨y1, m1, q1, h⟩ := rf_b_some h
  have e1 : fr S_X14_suspect m m1 := fr_trans (fr_i (fr_i ((fr_refl _ m)) (fr_c_in (by decide) _)) (by decide)) (fr_mono (fg_X14_done q1) (by decide))
  obtain rfl := Option.some.inj h
  exact e1
theorem fg_X14_suspect_95_b {w : rf_w} {rec95 : Int32 → Int32 → rf_m → Option (Int32 × rf_m)} {a1 : Int32} {a3 : Int32} {m : rf_m} (hr_rec95 : ∀ {x0 : Int32} {x1 : Int32} {m : rf_m} {r : (Int32 × rf_m)}, rec95 x0 x1 m = some r → fr S_X14_suspect m r.2) {r : (Int32 × rf_m)} (h : g_X14_suspect_95_b w rec95 a1 a3 m = some r) : fr S_X14_suspect m r.2 := by
  unfold g_X14_suspect_95_b at h
  rcases rf_ite_some h with ⟨_, h⟩ | ⟨_, h⟩
  · exact fr_trans ((fr_refl _ m)) (fr_mono (fg_X14_suspect_131 h) (by decide))
  · obtain ⟨_, h⟩ := rf_g_some h
    rcases rf_ite_some h with ⟨_, h⟩ | ⟨_, h⟩
    · exact fr_trans ((fr_refl _ m)) (fr_mono (fg_X14_suspect_131 h) (by decide))
    · obtain ⟨_, h⟩ := rf_g_some h
      obtain ⟨_, h⟩ := rf_g_some h
      exact fr_trans (fr_i ((fr_refl _ m)) (fr_c_in (by decide) _)) (hr_rec95 h)
theorem fg_X14_suspect_95 {w : rf_w} (n : Nat) : ∀ {a1 : Int32} {a3 : Int32} {m : rf_m} {r : (Int32 × rf_m)}, g_X14_suspect_95 w n a1 a3 m = some r → fr S_X14_suspect m r.2 := by
  induction n with
  | zero => intro a1 a3 m r h; cases h
  | succ n ih =>
    intro a1 a3 m r h
    exact fg_X14_suspect_95_b ih h
theorem fg_X14_suspect_50 {w : rf_w} {rec23 : Int32 → Int32 → Int32 → rf_m → Option (Int32 × rf_m)} {a1 : Int32} {a3 : Int32} {s0 : Int32} {m : rf_m} (hr_rec23 : ∀ {x0 : Int32} {x1 : Int32} {x2 : Int32} {m : rf_m} {r : (Int32 × rf_m)}, rec23 x0 x1 x2 m = some r → fr S_X14_suspect m r.2) {r : (Int32 × rf_m)} (h : g_X14_suspect_50 w rec23 a1 a3 s0 m = some r) : fr S_X14_suspect m r.2 := by
  unfold g_X14_suspect_50 at h
  exact fr_trans ((fr_refl _ m)) (hr_rec23 h)
theorem fg_X14_suspect_45 {w : rf_w} {rec23 : Int32 → Int32 → Int32 → rf_m → Option (Int32 × rf_m)} {a1 : Int32} {a3 : Int32} {m : rf_m} (hr_rec23 : ∀ {x0 : Int32} {x1 : Int32} {x2 : Int32} {m : rf_m} {r : (Int32 × rf_m)}, rec23 x0 x1 x2 m = some r → fr S_X14_suspect m r.2) {r : (Int32 × rf_m)} (h : g_X14_suspect_45 w rec23 a1 a3 m = some r) : fr S_X14_suspect m r.2 := by
  unfold g_X14_suspect_45 at h
  exact fr_trans ((fr_refl _ m)) (fr_mono (fg_X14_suspect_50 hr_rec23 h) (by decide))
theorem fg_X14_suspect_23_b {w : rf_w} {rec23 : Int32 → Int32 → Int32 → rf_m → Option (Int32 × rf_m)} {a1 : Int32} {a2 : Int32} {a3 : Int32} {m : rf_m} (hr_rec23 : ∀ {x0 : Int32} {x1 : Int32} {x2 : Int32} {m : rf_m} {r : (Int32 × rf_m)}, rec23 x0 x1 x2 m = some r → fr S_X14_suspect m r.2) {r : (Int32 × rf_m)} (h : g_X14_suspect_23_b w rec23 a1 a2 a3 m = some r) : fr S_X14_suspect m r.2 := by
  unfold g_X14_suspect_23_b at h
  rcases rf_ite_some h with ⟨_, h⟩ | ⟨_, h⟩
  · rcases rf_ite_some h with ⟨_, h⟩ | ⟨_, h⟩
    · obtain ⟨y1, m1, q1, h⟩ := rf_b_some h
      have e1 : fr S_X14_suspect m m1 := fr_trans ((fr_refl _ m)) (fr_mono (fg_X14_isKeptNow q1) (by decide))
      rcases rf_ite_some h with ⟨_, h⟩ | ⟨_, h⟩
      · obtain ⟨y3, m3, q2, h⟩ := rf_b_some h
        have e2 : fr S_X14_suspect m m3 := fr_trans e1 (fr_mono (fg_X14_refused q2) (by decide))
        obtain rfl := Option.some.inj h
        exact e2
      · rcases rf_ite_some h with ⟨_, h⟩ | ⟨_, h⟩
        · obtain ⟨y2, m2, q3, h⟩ := rf_b_some h
          have e3 : fr S_X14_suspect m m2 := fr_trans e1 (fr_mono (fg_X14_refused q3) (by decide))
          obtain rfl := Option.some.inj h
          exact e3
        · exact fr_trans e1 (fr_mono (fg_X14_suspect_95 _ h) (by decide))
    · obtain ⟨y0, m0, q4, h⟩ := rf_b_some h
      have e4 : fr S_X14_suspect m m0 := fr_trans ((fr_refl _ m)) (fr_mono (fg_X14_refused q4) (by decide))
      obtain rfl := Option.some.inj h
      exact e4
  · rcases rf_ite_some h with ⟨_, h⟩ | ⟨_, h⟩
    · obtain ⟨_, h⟩ := rf_g_some h
      rcases rf_ite_some h with ⟨_, h⟩ | ⟨_, h⟩
      · exact fr_trans ((fr_refl _ m)) (fr_mono (fg_X14_suspect_45 hr_rec23 h) (by decide))
      · exact fr_trans ((fr_refl _ m)) (fr_mono (fg_X14_suspect_50 hr_rec23 h) (by decide))
    · exact fr_trans ((fr_refl _ m)) (fr_mono (fg_X14_suspect_45 hr_rec23 h) (by decide))
theorem fg_X14_suspect_23 {w : rf_w} (n : Nat) : ∀ {a1 : Int32} {a2 : Int32} {a3 : Int32} {m : rf_m} {r : (Int32 × rf_m)}, g_X14_suspect_23 w n a1 a2 a3 m = some r → fr S_X14_suspect m r.2 := by
  induction n with
  | zero => intro a1 a2 a3 m r h; cases h
  | succ n ih =>
    intro a1 a2 a3 m r h
    exact fg_X14_suspect_23_b ih h
theorem fg_X14_suspect {w : rf_w} {m : rf_m} {a1 : Int32} {r : (Int32 × rf_m)} (h : g_X14_suspect w m a1 = some r) : fr S_X14_suspect m r.2 := by
  unfold g_X14_suspect at h
  obtain ⟨y0, m0, q1, h⟩ := rf_b_some h
  have e1 : fr S_X14_suspect m m0 := fr_trans (fr_i ((fr_refl _ m)) (by decide)) (fr_mono (fg_X14_isReading q1) (by decide))
  rcases rf_ite_some h with ⟨_, h⟩ | ⟨_, h⟩
  · obtain ⟨y1, m1, q2, h⟩ := rf_b_some h
    have e2 : fr S_X14_suspect m m1 := fr_trans e1 (fr_mono (fg_X14_refused q2) (by decide))
    obtain rfl := Option.some.inj h
    exact e2
  · exact fr_trans e1 (fr_mono (fg_X14_suspect_23 _ h) (by decide))
def S_X14_clear : fr_S := [(206, 206, some 0), (206, 206, some 116)]
theorem fg_X14_clear {w : rf_w} {m : rf_m} {r : (Int32 × rf_m)} (h : g_X14_clear w m = some r) : fr S_X14_clear m r.2 := by
  unfold g_X14_clear at h
  have h := fr_vi h
  obtain rfl := Option.some.inj h
  exact fr_i (fr_i ((fr_refl _ m)) (by decide)) (by decide)
def S_X14_isRight : fr_S := [(248, 248, none), (286, 286, none), (288, 288, none)]
theorem fg_X14_isRight_203 {w : rf_w} {rec156 : Int32 → Int32 → rf_m → Option (Int32 × rf_m)} {a3 : Int32} {a5 : Int32} {s1 : Int32} {s2 : Int32} {m : rf_m} (hr_rec156 : ∀ {x0 : Int32} {x1 : Int32} {m : rf_m} {r : (Int32 × rf_m)}, rec156 x0 x1 m = some r → fr S_X14_isRight m r.2) {r : (Int32 × rf_m)} (h : g_X14_isRight_203 w rec156 a3 a5 s1 s2 m = some r) : fr S_X14_isRight m r.2 := by
  unfold g_X14_isRight_203 at h
  obtain ⟨_, h⟩ := rf_g_some h
  exact fr_trans (fr_i ((fr_refl _ m)) (fr_c_in (by decide) _)) (hr_rec156 h)
theorem fg_X14_isRight_156_b {w : rf_w} {rec156 : Int32 → Int32 → rf_m → Option (Int32 × rf_m)} {a3 : Int32} {a5 : Int32} {m : rf_m} (hr_rec156 : ∀ {x0 : Int32} {x1 : Int32} {m : rf_m} {r : (Int32 × rf_m)}, rec156 x0 x1 m = some r → fr S_X14_isRight m r.2) {r : (Int32 × rf_m)} (h : g_X14_isRight_156_b w rec156 a3 a5 m = some r) : fr S_X14_isRight m r.2 := by
  unfold g_X14_isRight_156_b at h
  rcases rf_ite_some h with ⟨_, h⟩ | ⟨_, h⟩
  · obtain ⟨y0, m0, q1, h⟩ := rf_b_some h
    have e1 : fr S_X14_isRight m m0 := fr_trans ((fr_refl _ m)) (fr_mono (fg_X14_wideOnes q1) (by decide))
    rcases rf_ite_some h with ⟨_, h⟩ | ⟨_, h⟩
    · obtain rfl := Option.some.inj h
      exact e1
    · obtain rfl := Option.some.inj h
      exact e1
  · obtain ⟨_, h⟩ := rf_g_some h
    rcases rf_ite_some h with ⟨_, h⟩ | ⟨_, h⟩
    · exact fr_trans ((fr_refl _ m)) (fr_mono (fg_X14_isRight_203 hr_rec156 h) (by decide))
    · obtain ⟨_, h⟩ := rf_g_some h
      obtain ⟨_, h⟩ := rf_g_some h
      obtain ⟨_, h⟩ := rf_g_some h
      exact fr_trans ((fr_refl _ m)) (fr_mono (fg_X14_isRight_203 hr_rec156 h) (by decide))
theorem fg_X14_isRight_156 {w : rf_w} (n : Nat) : ∀ {a3 : Int32} {a5 : Int32} {m : rf_m} {r : (Int32 × rf_m)}, g_X14_isRight_156 w n a3 a5 m = some r → fr S_X14_isRight m r.2 := by
  induction n with
  | zero => intro a3 a5 m r h; cases h
  | succ n ih =>
    intro a3 a5 m r h
    exact fg_X14_isRight_156_b ih h
theorem fg_X14_isRight_140 {w : rf_w} {rec52 : Int32 → Int32 → Int32 → Int32 → Int32 → rf_m → Option (Int32 × rf_m)} {a1 : Int32} {a2 : Int32} {a3 : Int32} {a4 : Int32} {a5 : Int32} {m : rf_m} (hr_rec52 : ∀ {x0 : Int32} {x1 : Int32} {x2 : Int32} {x3 : Int32} {x4 : Int32} {m : rf_m} {r : (Int32 × rf_m)}, rec52 x0 x1 x2 x3 x4 m = some r → fr S_X14_isRight m r.2) {r : (Int32 × rf_m)} (h : g_X14_isRight_140 w rec52 a1 a2 a3 a4 a5 m = some r) : fr S_X14_isRight m r.2 := by
  unfold g_X14_isRight_140 at h
  exact fr_trans ((fr_refl _ m)) (hr_rec52 h)
theorem fg_X14_isRight_138 {w : rf_w} {rec52 : Int32 → Int32 → Int32 → Int32 → Int32 → rf_m → Option (Int32 × rf_m)} {a1 : Int32} {a2 : Int32} {a3 : Int32} {a5 : Int32} {s0 : Int32} {m : rf_m} (hr_rec52 : ∀ {x0 : Int32} {x1 : Int32} {x2 : Int32} {x3 : Int32} {x4 : Int32} {m : rf_m} {r : (Int32 × rf_m)}, rec52 x0 x1 x2 x3 x4 m = some r → fr S_X14_isRight m r.2) {r : (Int32 × rf_m)} (h : g_X14_isRight_138 w rec52 a1 a2 a3 a5 s0 m = some r) : fr S_X14_isRight m r.2 := by
  unfold g_X14_isRight_138 at h
  exact fr_trans ((fr_refl _ m)) (fr_mono (fg_X14_isRight_140 hr_rec52 h) (by decide))
theorem fg_X14_isRight_137 {w : rf_w} {rec52 : Int32 → Int32 → Int32 → Int32 → Int32 → rf_m → Option (Int32 × rf_m)} {a1 : Int32} {a2 : Int32} {a3 : Int32} {a5 : Int32} {m : rf_m} (hr_rec52 : ∀ {x0 : Int32} {x1 : Int32} {x2 : Int32} {x3 : Int32} {x4 : Int32} {m : rf_m} {r : (Int32 × rf_m)}, rec52 x0 x1 x2 x3 x4 m = some r → fr S_X14_isRight m r.2) {r : (Int32 × rf_m)} (h : g_X14_isRight_137 w rec52 a1 a2 a3 a5 m = some r) : fr S_X14_isRight m r.2 := by
  unfold g_X14_isRight_137 at h
  exact fr_trans ((fr_refl _ m)) (fr_mono (fg_X14_isRight_138 hr_rec52 h) (by decide))
theorem fg_X14_isRight_52_b {w : rf_w} {rec52 : Int32 → Int32 → Int32 → Int32 → Int32 → rf_m → Option (Int32 × rf_m)} {a1 : Int32} {a2 : Int32} {a3 : Int32} {a4 : Int32} {a5 : Int32} {m : rf_m} (hr_rec52 : ∀ {x0 : Int32} {x1 : Int32} {x2 : Int32} {x3 : Int32} {x4 : Int32} {m : rf_m} {r : (Int32 × rf_m)}, rec52 x0 x1 x2 x3 x4 m = some r → fr S_X14_isRight m r.2) {r : (Int32 × rf_m)} (h : g_X14_isRight_52_b w rec52 a1 a2 a3 a4 a5 m = some r) : fr S_X14_isRight m r.2 := by
  unfold g_X14_isRight_52_b at h
  rcases rf_ite_some h with ⟨_, h⟩ | ⟨_, h⟩
  · rcases rf_ite_some h with ⟨_, h⟩ | ⟨_, h⟩
    · obtain rfl := Option.some.inj h
      exact (fr_refl _ m)
    · exact fr_trans ((fr_refl _ m)) (fr_mono (fg_X14_isRight_156 _ h) (by decide))
  · rcases rf_ite_some h with ⟨_, h⟩ | ⟨_, h⟩
    · exact fr_trans ((fr_refl _ m)) (fr_mono (fg_X14_isRight_140 hr_rec52 h) (by decide))
    · obtain ⟨_, h⟩ := rf_g_some h
      obtain ⟨_, h⟩ := rf_g_some h
      have h := fr_vi h
      obtain ⟨_, h⟩ := rf_g_some h
      obtain ⟨_, h⟩ := rf_g_some h
      obtain ⟨_, h⟩ := rf_g_some h
      obtain ⟨_, h⟩ := rf_g_some h
      obtain ⟨_, h⟩ := rf_g_some h
      obtain ⟨_, h⟩ := rf_g_some h
      rcases rf_ite_some h with ⟨_, h⟩ | ⟨_, h⟩
      · exact fr_trans (fr_l (fr_i ((fr_refl _ m)) (fr_c_in (by decide) _)) (fr_c_in (by decide) _)) (fr_mono (fg_X14_isRight_137 hr_rec52 h) (by decide))
      · obtain ⟨_, h⟩ := rf_g_some h
        rcases rf_ite_some h with ⟨_, h⟩ | ⟨_, h⟩
        · exact fr_trans (fr_l (fr_i ((fr_refl _ m)) (fr_c_in (by decide) _)) (fr_c_in (by decide) _)) (fr_mono (fg_X14_isRight_137 hr_rec52 h) (by decide))
        · exact fr_trans (fr_l (fr_i ((fr_refl _ m)) (fr_c_in (by decide) _)) (fr_c_in (by decide) _)) (fr_mono (fg_X14_isRight_138 hr_rec52 h) (by decide))
theorem fg_X14_isRight_52 {w : rf_w} (n : Nat) : ∀ {a1 : Int32} {a2 : Int32} {a3 : Int32} {a4 : Int32} {a5 : Int32} {m : rf_m} {r : (Int32 × rf_m)}, g_X14_isRight_52 w n a1 a2 a3 a4 a5 m = some r → fr S_X14_isRight m r.2 := by
  induction n with
  | zero => intro a1 a2 a3 a4 a5 m r h; cases h
  | succ n ih =>
    intro a1 a2 a3 a4 a5 m r h
    exact fg_X14_isRight_52_b ih h
theorem fg_X14_isRight_3_b {w : rf_w} {rec3 : Int32 → Int32 → Int32 → Int32 → rf_m → Option (Int32 × rf_m)} {a1 : Int32} {a2 : Int32} {a3 : Int32} {a4 : Int32} {m : rf_m} (hr_rec3 : ∀ {x0 : Int32} {x1 : Int32} {x2 : Int32} {x3 : Int32} {m : rf_m} {r : (Int32 × rf_m)}, rec3 x0 x1 x2 x3 m = some r → fr S_X14_isRight m r.2) {r : (Int32 × rf_m)} (h : g_X14_isRight_3_b w rec3 a1 a2 a3 a4 m = some r) : fr S_X14_isRight m r.2 := by
  unfold g_X14_isRight_3_b at h
  rcases rf_ite_some h with ⟨_, h⟩ | ⟨_, h⟩
  · exact fr_trans ((fr_refl _ m)) (fr_mono (fg_X14_isRight_52 _ h) (by decide))
  · obtain ⟨_, h⟩ := rf_g_some h
    obtain ⟨_, h⟩ := rf_g_some h
    obtain ⟨_, h⟩ := rf_g_some h
    obtain ⟨_, h⟩ := rf_g_some h
    exact fr_trans (fr_l (fr_i ((fr_refl _ m)) (fr_c_in (by decide) _)) (fr_c_in (by decide) _)) (hr_rec3 h)
theorem fg_X14_isRight_3 {w : rf_w} (n : Nat) : ∀ {a1 : Int32} {a2 : Int32} {a3 : Int32} {a4 : Int32} {m : rf_m} {r : (Int32 × rf_m)}, g_X14_isRight_3 w n a1 a2 a3 a4 m = some r → fr S_X14_isRight m r.2 := by
  induction n with
  | zero => intro a1 a2 a3 a4 m r h; cases h
  | succ n ih =>
    intro a1 a2 a3 a4 m r h
    exact fg_X14_isRight_3_b ih h
theorem fg_X14_isRight {w : rf_w} {m : rf_m} {a1 : Int32} {a2 : Int32} {a3 : Int32} {r : (Int32 × rf_m)} (h : g_X14_isRight w m a1 a2 a3 = some r) : fr S_X14_isRight m r.2 := by
  unfold g_X14_isRight at h
  exact fr_trans ((fr_refl _ m)) (fr_mono (fg_X14_isRight_3 _ h) (by decide))
def S_X14_blunder : fr_S := [(206, 206, some 0), (206, 206, some 33), (206, 206, some 34), (206, 206, some 35), (206, 206, some 36), (206, 206, some 37), (206, 206, some 38), (206, 206, some 117), (206, 206, some 118), (226, 226, none), (227, 227, none), (228, 228, none), (235, 235, none), (248, 248, none), (283, 283, none), (284, 284, none), (285, 285, none), (286, 286, none), (287, 287, none), (288, 288, none)]
theorem fg_X14_blunder_297 {w : rf_w} {rec253 : Int32 → Int32 → Int32 → Int32 → rf_m → Option (Int32 × rf_m)} {a1 : Int32} {a3 : Int32} {a4 : Int32} {a5 : Int32} {m : rf_m} (hr_rec253 : ∀ {x0 : Int32} {x1 : Int32} {x2 : Int32} {x3 : Int32} {m : rf_m} {r : (Int32 × rf_m)}, rec253 x0 x1 x2 x3 m = some r → fr S_X14_blunder m r.2) {r : (Int32 × rf_m)} (h : g_X14_blunder_297 w rec253 a1 a3 a4 a5 m = some r) : fr S_X14_blunder m r.2 := by
  unfold g_X14_blunder_297 at h
  exact fr_trans ((fr_refl _ m)) (hr_rec253 h)
theorem fg_X14_blunder_253_b {w : rf_w} {rec253 : Int32 → Int32 → Int32 → Int32 → rf_m → Option (Int32 × rf_m)} {a1 : Int32} {a3 : Int32} {a4 : Int32} {a5 : Int32} {m : rf_m} (hr_rec253 : ∀ {x0 : Int32} {x1 : Int32} {x2 : Int32} {x3 : Int32} {m : rf_m} {r : (Int32 × rf_m)}, rec253 x0 x1 x2 x3 m = some r → fr S_X14_blunder m r.2) {r : (Int32 × rf_m)} (h : g_X14_blunder_253_b w rec253 a1 a3 a4 a5 m = some r) : fr S_X14_blunder m r.2 := by
  unfold g_X14_blunder_253_b at h
  rcases rf_ite_some h with ⟨_, h⟩ | ⟨_, h⟩
  · obtain rfl := Option.some.inj h
    exact fr_i ((fr_refl _ m)) (by decide)
  · rcases rf_ite_some h with ⟨_, h⟩ | ⟨_, h⟩
    · exact fr_trans ((fr_refl _ m)) (fr_mono (fg_X14_blunder_297 hr_rec253 h) (by decide))
    · obtain ⟨_, h⟩ := rf_g_some h
      obtain ⟨_, h⟩ := rf_g_some h
      exact fr_trans (fr_i (fr_i ((fr_refl _ m)) (fr_c_in (by decide) _)) (by decide)) (fr_mono (fg_X14_blunder_297 hr_rec253 h) (by decide))
theorem fg_X14_blunder_253 {w : rf_w} (n : Nat) : ∀ {a1 : Int32} {a3 : Int32} {a4 : Int32} {a5 : Int32} {m : rf_m} {r : (Int32 × rf_m)}, g_X14_blunder_253 w n a1 a3 a4 a5 m = some r → fr S_X14_blunder m r.2 := by
  induction n with
  | zero => intro a1 a3 a4 a5 m r h; cases h
  | succ n ih =>
    intro a1 a3 a4 a5 m r h
    exact fg_X14_blunder_253_b ih h
theorem fg_X14_blunder_231 {w : rf_w} {rec142 : Int32 → Int32 → Int32 → Int32 → Int32 → rf_m → Option (Int32 × rf_m)} {a1 : Int32} {a2 : Int32} {a3 : Int32} {a4 : Int32} {a5 : Int32} {m : rf_m} (hr_rec142 : ∀ {x0 : Int32} {x1 : Int32} {x2 : Int32} {x3 : Int32} {x4 : Int32} {m : rf_m} {r : (Int32 × rf_m)}, rec142 x0 x1 x2 x3 x4 m = some r → fr S_X14_blunder m r.2) {r : (Int32 × rf_m)} (h : g_X14_blunder_231 w rec142 a1 a2 a3 a4 a5 m = some r) : fr S_X14_blunder m r.2 := by
  unfold g_X14_blunder_231 at h
  exact fr_trans ((fr_refl _ m)) (hr_rec142 h)
theorem fg_X14_blunder_198 {w : rf_w} {rec142 : Int32 → Int32 → Int32 → Int32 → Int32 → rf_m → Option (Int32 × rf_m)} {a1 : Int32} {a2 : Int32} {a5 : Int32} {m : rf_m} (hr_rec142 : ∀ {x0 : Int32} {x1 : Int32} {x2 : Int32} {x3 : Int32} {x4 : Int32} {m : rf_m} {r : (Int32 × rf_m)}, rec142 x0 x1 x2 x3 x4 m = some r → fr S_X14_blunder m r.2) {r : (Int32 × rf_m)} (h : g_X14_blunder_198 w rec142 a1 a2 a5 m = some r) : fr S_X14_blunder m r.2 := by
  unfold g_X14_blunder_198 at h
  exact fr_trans ((fr_refl _ m)) (fr_mono (fg_X14_blunder_231 hr_rec142 h) (by decide))
theorem fg_X14_blunder_167 {w : rf_w} {rec142 : Int32 → Int32 → Int32 → Int32 → Int32 → rf_m → Option (Int32 × rf_m)} {a1 : Int32} {a2 : Int32} {a3 : Int32} {a4 : Int32} {a5 : Int32} {m : rf_m} (hr_rec142 : ∀ {x0 : Int32} {x1 : Int32} {x2 : Int32} {x3 : Int32} {x4 : Int32} {m : rf_m} {r : (Int32 × rf_m)}, rec142 x0 x1 x2 x3 x4 m = some r → fr S_X14_blunder m r.2) {r : (Int32 × rf_m)} (h : g_X14_blunder_167 w rec142 a1 a2 a3 a4 a5 m = some r) : fr S_X14_blunder m r.2 := by
  unfold g_X14_blunder_167 at h
  obtain ⟨y0, m0, q1, h⟩ := rf_b_some h
  have e1 : fr S_X14_blunder m m0 := fr_trans ((fr_refl _ m)) (fr_mono (fg_X14_isRight q1) (by decide))
  rcases rf_ite_some h with ⟨_, h⟩ | ⟨_, h⟩
  · exact fr_trans e1 (fr_mono (fg_X14_blunder_231 hr_rec142 h) (by decide))
  · rcases rf_ite_some h with ⟨_, h⟩ | ⟨_, h⟩
    · exact fr_trans e1 (fr_mono (fg_X14_blunder_198 hr_rec142 h) (by decide))
    · obtain ⟨y1, m1, q2, h⟩ := rf_b_some h
      have e2 : fr S_X14_blunder m m1 := fr_trans e1 (fr_mono (fg_X14_bits q2) (by decide))
      obtain ⟨y2, m2, q3, h⟩ := rf_b_some h
      have e3 : fr S_X14_blunder m m2 := fr_trans e2 (fr_mono (fg_X14_bits q3) (by decide))
      rcases rf_ite_some h with ⟨_, h⟩ | ⟨_, h⟩
      · rcases rf_ite_some h with ⟨_, h⟩ | ⟨_, h⟩
        · exact fr_trans e3 (fr_mono (fg_X14_blunder_231 hr_rec142 h) (by decide))
        · exact fr_trans e3 (fr_mono (fg_X14_blunder_231 hr_rec142 h) (by decide))
      · exact fr_trans e3 (fr_mono (fg_X14_blunder_198 hr_rec142 h) (by decide))
theorem fg_X14_blunder_142_b {w : rf_w} {rec142 : Int32 → Int32 → Int32 → Int32 → Int32 → rf_m → Option (Int32 × rf_m)} {a1 : Int32} {a2 : Int32} {a3 : Int32} {a4 : Int32} {a5 : Int32} {m : rf_m} (hr_rec142 : ∀ {x0 : Int32} {x1 : Int32} {x2 : Int32} {x3 : Int32} {x4 : Int32} {m : rf_m} {r : (Int32 × rf_m)}, rec142 x0 x1 x2 x3 x4 m = some r → fr S_X14_blunder m r.2) {r : (Int32 × rf_m)} (h : g_X14_blunder_142_b w rec142 a1 a2 a3 a4 a5 m = some r) : fr S_X14_blunder m r.2 := by
  unfold g_X14_blunder_142_b at h
  rcases rf_ite_some h with ⟨_, h⟩ | ⟨_, h⟩
  · rcases rf_ite_some h with ⟨_, h⟩ | ⟨_, h⟩
    · obtain rfl := Option.some.inj h
      exact (fr_refl _ m)
    · exact fr_trans (fr_i ((fr_refl _ m)) (by decide)) (fr_mono (fg_X14_blunder_253 _ h) (by decide))
  · rcases rf_ite_some h with ⟨_, h⟩ | ⟨_, h⟩
    · exact fr_trans ((fr_refl _ m)) (fr_mono (fg_X14_blunder_167 hr_rec142 h) (by decide))
    · obtain ⟨y0, m0, q1, h⟩ := rf_b_some h
      have e1 : fr S_X14_blunder m m0 := fr_trans ((fr_refl _ m)) (fr_mono (fg_X14_bits q1) (by decide))
      obtain ⟨y1, m1, q2, h⟩ := rf_b_some h
      have e2 : fr S_X14_blunder m m1 := fr_trans e1 (fr_mono (fg_X14_bits q2) (by decide))
      rcases rf_ite_some h with ⟨_, h⟩ | ⟨_, h⟩
      · exact fr_trans e2 (fr_mono (fg_X14_blunder_231 hr_rec142 h) (by decide))
      · exact fr_trans e2 (fr_mono (fg_X14_blunder_167 hr_rec142 h) (by decide))
theorem fg_X14_blunder_142 {w : rf_w} (n : Nat) : ∀ {a1 : Int32} {a2 : Int32} {a3 : Int32} {a4 : Int32} {a5 : Int32} {m : rf_m} {r : (Int32 × rf_m)}, g_X14_blunder_142 w n a1 a2 a3 a4 a5 m = some r → fr S_X14_blunder m r.2 := by
  induction n with
  | zero => intro a1 a2 a3 a4 a5 m r h; cases h
  | succ n ih =>
    intro a1 a2 a3 a4 a5 m r h
    exact fg_X14_blunder_142_b ih h
theorem fg_X14_blunder_88_b {w : rf_w} {rec56 : Int32 → Int32 → rf_m → Option (Int32 × rf_m)} {rec88 : Int32 → Int32 → Int32 → rf_m → Option (Int32 × rf_m)} {a1 : Int32} {a2 : Int32} {a3 : Int32} {m : rf_m} (hr_rec56 : ∀ {x0 : Int32} {x1 : Int32} {m : rf_m} {r : (Int32 × rf_m)}, rec56 x0 x1 m = some r → fr S_X14_blunder m r.2) (hr_rec88 : ∀ {x0 : Int32} {x1 : Int32} {x2 : Int32} {m : rf_m} {r : (Int32 × rf_m)}, rec88 x0 x1 x2 m = some r → fr S_X14_blunder m r.2) {r : (Int32 × rf_m)} (h : g_X14_blunder_88_b w rec56 rec88 a1 a2 a3 m = some r) : fr S_X14_blunder m r.2 := by
  unfold g_X14_blunder_88_b at h
  rcases rf_ite_some h with ⟨_, h⟩ | ⟨_, h⟩
  · exact fr_trans ((fr_refl _ m)) (hr_rec56 h)
  · obtain ⟨_, h⟩ := rf_g_some h
    obtain ⟨_, h⟩ := rf_g_some h
    obtain ⟨_, h⟩ := rf_g_some h
    obtain ⟨_, h⟩ := rf_g_some h
    exact fr_trans (fr_l ((fr_refl _ m)) (fr_c_in (by decide) _)) (hr_rec88 h)
theorem fg_X14_blunder_88 {w : rf_w} {rec56 : Int32 → Int32 → rf_m → Option (Int32 × rf_m)} (hr_rec56 : ∀ {x0 : Int32} {x1 : Int32} {m : rf_m} {r : (Int32 × rf_m)}, rec56 x0 x1 m = some r → fr S_X14_blunder m r.2) (n : Nat) : ∀ {a1 : Int32} {a2 : Int32} {a3 : Int32} {m : rf_m} {r : (Int32 × rf_m)}, g_X14_blunder_88 w rec56 n a1 a2 a3 m = some r → fr S_X14_blunder m r.2 := by
  induction n with
  | zero => intro a1 a2 a3 m r h; cases h
  | succ n ih =>
    intro a1 a2 a3 m r h
    exact fg_X14_blunder_88_b hr_rec56 ih h
theorem fg_X14_blunder_56_b {w : rf_w} {rec56 : Int32 → Int32 → rf_m → Option (Int32 × rf_m)} {a1 : Int32} {a2 : Int32} {m : rf_m} (hr_rec56 : ∀ {x0 : Int32} {x1 : Int32} {m : rf_m} {r : (Int32 × rf_m)}, rec56 x0 x1 m = some r → fr S_X14_blunder m r.2) {r : (Int32 × rf_m)} (h : g_X14_blunder_56_b w rec56 a1 a2 m = some r) : fr S_X14_blunder m r.2 := by
  unfold g_X14_blunder_56_b at h
  rcases rf_ite_some h with ⟨_, h⟩ | ⟨_, h⟩
  · obtain ⟨y0, m0, q1, h⟩ := rf_b_some h
    have e1 : fr S_X14_blunder m m0 := fr_trans ((fr_refl _ m)) (fr_mono (fg_X14_allowed q1) (by decide))
    exact fr_trans e1 (fr_mono (fg_X14_blunder_142 _ h) (by decide))
  · obtain ⟨m1, q2, h⟩ := rf_bv_some h
    have e2 : fr S_X14_blunder m m1 := fr_trans ((fr_refl _ m)) (fr_mono (fg_X14_now q2) (by decide))
    obtain ⟨_, h⟩ := rf_g_some h
    obtain ⟨_, h⟩ := rf_g_some h
    exact fr_trans (fr_l (fr_i e2 (fr_c_in (by decide) _)) (fr_c_in (by decide) _)) (fr_mono (fg_X14_blunder_88 hr_rec56 _ h) (by decide))
theorem fg_X14_blunder_56 {w : rf_w} (n : Nat) : ∀ {a1 : Int32} {a2 : Int32} {m : rf_m} {r : (Int32 × rf_m)}, g_X14_blunder_56 w n a1 a2 m = some r → fr S_X14_blunder m r.2 := by
  induction n with
  | zero => intro a1 a2 m r h; cases h
  | succ n ih =>
    intro a1 a2 m r h
    exact fg_X14_blunder_56_b ih h
theorem fg_X14_blunder_48 {w : rf_w} {rec9 : Int32 → Int32 → rf_m → Option (Int32 × rf_m)} {a1 : Int32} {a2 : Int32} {m : rf_m} (hr_rec9 : ∀ {x0 : Int32} {x1 : Int32} {m : rf_m} {r : (Int32 × rf_m)}, rec9 x0 x1 m = some r → fr S_X14_blunder m r.2) {r : (Int32 × rf_m)} (h : g_X14_blunder_48 w rec9 a1 a2 m = some r) : fr S_X14_blunder m r.2 := by
  unfold g_X14_blunder_48 at h
  exact fr_trans ((fr_refl _ m)) (hr_rec9 h)
theorem fg_X14_blunder_9_b {w : rf_w} {rec9 : Int32 → Int32 → rf_m → Option (Int32 × rf_m)} {a1 : Int32} {a2 : Int32} {m : rf_m} (hr_rec9 : ∀ {x0 : Int32} {x1 : Int32} {m : rf_m} {r : (Int32 × rf_m)}, rec9 x0 x1 m = some r → fr S_X14_blunder m r.2) {r : (Int32 × rf_m)} (h : g_X14_blunder_9_b w rec9 a1 a2 m = some r) : fr S_X14_blunder m r.2 := by
  unfold g_X14_blunder_9_b at h
  rcases rf_ite_some h with ⟨_, h⟩ | ⟨_, h⟩
  · exact fr_trans ((fr_refl _ m)) (fr_mono (fg_X14_blunder_56 _ h) (by decide))
  · obtain ⟨_, h⟩ := rf_g_some h
    obtain ⟨y1, m1, q1, h⟩ := rf_b_some h
    have e1 : fr S_X14_blunder m m1 := fr_trans ((fr_refl _ m)) (fr_mono (fg_X14_isKeptNow q1) (by decide))
    rcases rf_ite_some h with ⟨_, h⟩ | ⟨_, h⟩
    · exact fr_trans e1 (fr_mono (fg_X14_blunder_48 hr_rec9 h) (by decide))
    · obtain ⟨_, h⟩ := rf_g_some h
      obtain ⟨_, h⟩ := rf_g_some h
      exact fr_trans (fr_i e1 (fr_c_in (by decide) _)) (fr_mono (fg_X14_blunder_48 hr_rec9 h) (by decide))
theorem fg_X14_blunder_9 {w : rf_w} (n : Nat) : ∀ {a1 : Int32} {a2 : Int32} {m : rf_m} {r : (Int32 × rf_m)}, g_X14_blunder_9 w n a1 a2 m = some r → fr S_X14_blunder m r.2 := by
  induction n with
  | zero => intro a1 a2 m r h; cases h
  | succ n ih =>
    intro a1 a2 m r h
    exact fg_X14_blunder_9_b ih h
theorem fg_X14_blunder {w : rf_w} {m : rf_m} {r : (Int32 × rf_m)} (h : g_X14_blunder w m = some r) : fr S_X14_blunder m r.2 := by
  unfold g_X14_blunder at h
  exact fr_trans (fr_i ((fr_refl _ m)) (by decide)) (fr_mono (fg_X14_blunder_9 _ h) (by decide))
def S_X14_guilty : fr_S := [(206, 206, some 0)]
theorem fg_X14_guilty {w : rf_w} {m : rf_m} {a1 : Int32} {r : (Int32 × rf_m)} (h : g_X14_guilty w m a1 = some r) : fr S_X14_guilty m r.2 := by
  unfold g_X14_guilty at h
  rcases rf_ite_some h with ⟨_, h⟩ | ⟨_, h⟩
  · obtain rfl := Option.some.inj h
    exact fr_i ((fr_refl _ m)) (by decide)
  · rcases rf_ite_some h with ⟨_, h⟩ | ⟨_, h⟩
    · obtain rfl := Option.some.inj h
      exact fr_i ((fr_refl _ m)) (by decide)
    · obtain ⟨_, h⟩ := rf_g_some h
      obtain rfl := Option.some.inj h
      exact fr_i ((fr_refl _ m)) (by decide)
def S_X14_rivals : fr_S := [(206, 206, some 0)]
theorem fg_X14_rivals {w : rf_w} {m : rf_m} {r : (Int32 × rf_m)} (h : g_X14_rivals w m = some r) : fr S_X14_rivals m r.2 := by
  unfold g_X14_rivals at h
  obtain rfl := Option.some.inj h
  exact fr_i ((fr_refl _ m)) (by decide)
def S_X14_star : fr_S := [(206, 206, some 0), (206, 206, some 1), (206, 206, some 2), (206, 206, some 126), (289, 289, none), (290, 290, none), (291, 291, none)]
theorem fg_X14_star {w : rf_w} {m : rf_m} {a1 : Int32} {a2 : Int32} {a3 : Int32} {a4 : Int32} {r : (Int32 × rf_m)} (h : g_X14_star w m a1 a2 a3 a4 = some r) : fr S_X14_star m r.2 := by
  unfold g_X14_star at h
  obtain ⟨y0, m0, q1, h⟩ := rf_b_some h
  have e1 : fr S_X14_star m m0 := fr_trans (fr_i ((fr_refl _ m)) (by decide)) (fr_mono (fg_X14_isMark q1) (by decide))
  rcases rf_ite_some h with ⟨_, h⟩ | ⟨_, h⟩
  · obtain ⟨y1, m1, q2, h⟩ := rf_b_some h
    have e2 : fr S_X14_star m m1 := fr_trans e1 (fr_mono (fg_X14_refused q2) (by decide))
    obtain rfl := Option.some.inj h
    exact e2
  · obtain ⟨y2, m2, q3, h⟩ := rf_b_some h
    have e3 : fr S_X14_star m m2 := fr_trans e1 (fr_mono (fg_X14_isMark q3) (by decide))
    rcases rf_ite_some h with ⟨_, h⟩ | ⟨_, h⟩
    · obtain ⟨y3, m3, q4, h⟩ := rf_b_some h
      have e4 : fr S_X14_star m m3 := fr_trans e3 (fr_mono (fg_X14_refused q4) (by decide))
      obtain rfl := Option.some.inj h
      exact e4
    · rcases rf_ite_some h with ⟨_, h⟩ | ⟨_, h⟩
      · obtain ⟨y13, m13, q5, h⟩ := rf_b_some h
        have e5 : fr S_X14_star m m13 := fr_trans e3 (fr_mono (fg_X14_refused q5) (by decide))
        obtain rfl := Option.some.inj h
        exact e5
      · obtain ⟨y4, m4, q6, h⟩ := rf_b_some h
        have e6 : fr S_X14_star m m4 := fr_trans e3 (fr_mono (fg_X14_in q6) (by decide))
        rcases rf_ite_some h with ⟨_, h⟩ | ⟨_, h⟩
        · obtain ⟨y5, m5, q7, h⟩ := rf_b_some h
          have e7 : fr S_X14_star m m5 := fr_trans e6 (fr_mono (fg_X14_refused q7) (by decide))
          obtain rfl := Option.some.inj h
          exact e7
        · obtain ⟨y6, m6, q8, h⟩ := rf_b_some h
          have e8 : fr S_X14_star m m6 := fr_trans e6 (fr_mono (fg_X14_isHour q8) (by decide))
          rcases rf_ite_some h with ⟨_, h⟩ | ⟨_, h⟩
          · obtain ⟨y12, m12, q9, h⟩ := rf_b_some h
            have e9 : fr S_X14_star m m12 := fr_trans e8 (fr_mono (fg_X14_refused q9) (by decide))
            obtain rfl := Option.some.inj h
            exact e9
          · rcases rf_ite_some h with ⟨_, h⟩ | ⟨_, h⟩
            · obtain ⟨y11, m11, q10, h⟩ := rf_b_some h
              have e10 : fr S_X14_star m m11 := fr_trans e8 (fr_mono (fg_X14_refused q10) (by decide))
              obtain rfl := Option.some.inj h
              exact e10
            · obtain ⟨_, h⟩ := rf_g_some h
              obtain ⟨_, h⟩ := rf_g_some h
              obtain ⟨_, h⟩ := rf_g_some h
              obtain ⟨y10, m10, q11, h⟩ := rf_b_some h
              have e11 : fr S_X14_star m m10 := fr_trans (fr_i (fr_i (fr_i (fr_i e8 (fr_c_in (by decide) _)) (fr_c_in (by decide) _)) (fr_c_in (by decide) _)) (by decide)) (fr_mono (fg_X14_done q11) (by decide))
              obtain rfl := Option.some.inj h
              exact e11
def S_X14_ownNorth : fr_S := []
theorem fg_X14_ownNorth_56 {w : rf_w} {rec8 : Int32 → Int32 → Int64 → Int32 → Int32 → rf_m → Option (Int32 × rf_m)} {a1 : Int32} {a2 : Int32} {a3 : Int64} {a5 : Int32} {a6 : Int32} {m : rf_m} (hr_rec8 : ∀ {x0 : Int32} {x1 : Int32} {x2 : Int64} {x3 : Int32} {x4 : Int32} {m : rf_m} {r : (Int32 × rf_m)}, rec8 x0 x1 x2 x3 x4 m = some r → fr S_X14_ownNorth m r.2) {r : (Int32 × rf_m)} (h : g_X14_ownNorth_56 w rec8 a1 a2 a3 a5 a6 m = some r) : fr S_X14_ownNorth m r.2 := by
  unfold g_X14_ownNorth_56 at h
  exact fr_trans ((fr_refl _ m)) (hr_rec8 h)
theorem fg_X14_ownNorth_8_b {w : rf_w} {rec8 : Int32 → Int32 → Int64 → Int32 → Int32 → rf_m → Option (Int32 × rf_m)} {a1 : Int32} {a2 : Int32} {a3 : Int64} {a5 : Int32} {a6 : Int32} {m : rf_m} (hr_rec8 : ∀ {x0 : Int32} {x1 : Int32} {x2 : Int64} {x3 : Int32} {x4 : Int32} {m : rf_m} {r : (Int32 × rf_m)}, rec8 x0 x1 x2 x3 x4 m = some r → fr S_X14_ownNorth m r.2) {r : (Int32 × rf_m)} (h : g_X14_ownNorth_8_b w rec8 a1 a2 a3 a5 a6 m = some r) : fr S_X14_ownNorth m r.2 := by
  unfold g_X14_ownNorth_8_b at h
  rcases rf_ite_some h with ⟨_, h⟩ | ⟨_, h⟩
  · rcases rf_ite_some h with ⟨_, h⟩ | ⟨_, h⟩
    · obtain rfl := Option.some.inj h
      exact (fr_refl _ m)
    · obtain ⟨_, h⟩ := rf_g_some h
      obtain rfl := Option.some.inj h
      exact (fr_refl _ m)
  · obtain ⟨_, h⟩ := rf_g_some h
    rcases rf_ite_some h with ⟨_, h⟩ | ⟨_, h⟩
    · obtain ⟨_, h⟩ := rf_g_some h
      rcases rf_ite_some h with ⟨_, h⟩ | ⟨_, h⟩
      · obtain ⟨_, h⟩ := rf_g_some h
        have h := fr_vl h
        exact fr_trans ((fr_refl _ m)) (fr_mono (fg_X14_ownNorth_56 hr_rec8 h) (by decide))
      · exact fr_trans ((fr_refl _ m)) (fr_mono (fg_X14_ownNorth_56 hr_rec8 h) (by decide))
    · exact fr_trans ((fr_refl _ m)) (fr_mono (fg_X14_ownNorth_56 hr_rec8 h) (by decide))
theorem fg_X14_ownNorth_8 {w : rf_w} (n : Nat) : ∀ {a1 : Int32} {a2 : Int32} {a3 : Int64} {a5 : Int32} {a6 : Int32} {m : rf_m} {r : (Int32 × rf_m)}, g_X14_ownNorth_8 w n a1 a2 a3 a5 a6 m = some r → fr S_X14_ownNorth m r.2 := by
  induction n with
  | zero => intro a1 a2 a3 a5 a6 m r h; cases h
  | succ n ih =>
    intro a1 a2 a3 a5 a6 m r h
    exact fg_X14_ownNorth_8_b ih h
theorem fg_X14_ownNorth {w : rf_w} {m : rf_m} {a1 : Int32} {a2 : Int32} {r : (Int32 × rf_m)} (h : g_X14_ownNorth w m a1 a2 = some r) : fr S_X14_ownNorth m r.2 := by
  unfold g_X14_ownNorth at h
  exact fr_trans ((fr_refl _ m)) (fr_mono (fg_X14_ownNorth_8 _ h) (by decide))
def S_X14_rounded : fr_S := []
theorem fg_X14_rounded {w : rf_w} {m : rf_m} {a0 : Int32} {r : (Int32 × rf_m)} (h : g_X14_rounded w m a0 = some r) : fr S_X14_rounded m r.2 := by
  unfold g_X14_rounded at h
  rcases rf_ite_some h with ⟨_, h⟩ | ⟨_, h⟩
  · rcases rf_ite_some h with ⟨_, h⟩ | ⟨_, h⟩
    · obtain rfl := Option.some.inj h
      exact (fr_refl _ m)
    · obtain rfl := Option.some.inj h
      exact (fr_refl _ m)
  · obtain rfl := Option.some.inj h
    exact (fr_refl _ m)
def S_X14_offers : fr_S := [(295, 295, none), (296, 296, none), (297, 297, none)]
theorem fg_X14_offers_80 {w : rf_w} {a3 : Int32} {a4 : Int32} {a5 : Int32} {a6 : Int32} {a7 : Int32} {m : rf_m} {r : (rf_m)} (h : g_X14_offers_80 w a3 a4 a5 a6 a7 m = some r) : fr S_X14_offers m r := by
  unfold g_X14_offers_80 at h
  obtain ⟨_, h⟩ := rf_g_some h
  obtain ⟨_, h⟩ := rf_g_some h
  rcases rf_ite_some h with ⟨_, h⟩ | ⟨_, h⟩
  · obtain ⟨_, h⟩ := rf_g_some h
    obtain rfl := Option.some.inj h
    exact fr_i (fr_i (fr_i ((fr_refl _ m)) (fr_c_in (by decide) _)) (fr_c_in (by decide) _)) (fr_c_in (by decide) _)
  · obtain ⟨y3, m3, q1, h⟩ := rf_b_some h
    have e1 : fr S_X14_offers m m3 := fr_trans (fr_i (fr_i ((fr_refl _ m)) (fr_c_in (by decide) _)) (fr_c_in (by decide) _)) (fr_mono (fg_X14_rounded q1) (by decide))
    obtain ⟨_, h⟩ := rf_g_some h
    obtain rfl := Option.some.inj h
    exact fr_i e1 (fr_c_in (by decide) _)
theorem fg_X14_offers_32 {w : rf_w} {a3 : Int32} {a4 : Int32} {a5 : Int32} {a6 : Int32} {s0 : Int32} {m : rf_m} {r : (rf_m)} (h : g_X14_offers_32 w a3 a4 a5 a6 s0 m = some r) : fr S_X14_offers m r := by
  unfold g_X14_offers_32 at h
  obtain ⟨_, h⟩ := rf_g_some h
  rcases rf_ite_some h with ⟨_, h⟩ | ⟨_, h⟩
  · exact fr_trans ((fr_refl _ m)) (fr_mono (fg_X14_offers_80 h) (by decide))
  · obtain ⟨_, h⟩ := rf_g_some h
    rcases rf_ite_some h with ⟨_, h⟩ | ⟨_, h⟩
    · obtain rfl := Option.some.inj h
      exact (fr_refl _ m)
    · obtain ⟨_, h⟩ := rf_g_some h
      rcases rf_ite_some h with ⟨_, h⟩ | ⟨_, h⟩
      · obtain ⟨_, h⟩ := rf_g_some h
        rcases rf_ite_some h with ⟨_, h⟩ | ⟨_, h⟩
        · exact fr_trans ((fr_refl _ m)) (fr_mono (fg_X14_offers_80 h) (by decide))
        · obtain rfl := Option.some.inj h
          exact (fr_refl _ m)
      · exact fr_trans ((fr_refl _ m)) (fr_mono (fg_X14_offers_80 h) (by decide))
theorem fg_X14_offers_10 {w : rf_w} {a1 : Int32} {a2 : Int32} {a3 : Int32} {a4 : Int32} {a5 : Int32} {s0 : Int32} {m : rf_m} {r : (rf_m)} (h : g_X14_offers_10 w a1 a2 a3 a4 a5 s0 m = some r) : fr S_X14_offers m r := by
  unfold g_X14_offers_10 at h
  rcases rf_ite_some h with ⟨_, h⟩ | ⟨_, h⟩
  · exact fr_trans ((fr_refl _ m)) (fr_mono (fg_X14_offers_32 h) (by decide))
  · exact fr_trans ((fr_refl _ m)) (fr_mono (fg_X14_offers_32 h) (by decide))
theorem fg_X14_offers {w : rf_w} {m : rf_m} {a1 : Int32} {a2 : Int32} {a3 : Int32} {a4 : Int32} {a5 : Int32} {r : (rf_m)} (h : g_X14_offers w m a1 a2 a3 a4 a5 = some r) : fr S_X14_offers m r := by
  unfold g_X14_offers at h
  rcases rf_ite_some h with ⟨_, h⟩ | ⟨_, h⟩
  · exact fr_trans ((fr_refl _ m)) (fr_mono (fg_X14_offers_10 h) (by decide))
  · exact fr_trans ((fr_refl _ m)) (fr_mono (fg_X14_offers_10 h) (by decide))
def S_X14_tells : fr_S := [(292, 292, none), (293, 293, none), (294, 294, none)]
theorem fg_X14_tells {w : rf_w} {m : rf_m} {a1 : Int32} {a2 : Int32} {a3 : Int32} {a4 : Int32} {a5 : Int32} {r : (rf_m)} (h : g_X14_tells w m a1 a2 a3 a4 a5 = some r) : fr S_X14_tells m r := by
  unfold g_X14_tells at h
  obtain ⟨_, h⟩ := rf_g_some h
  obtain ⟨_, h⟩ := rf_g_some h
  obtain ⟨_, h⟩ := rf_g_some h
  obtain ⟨_, h⟩ := rf_g_some h
  obtain ⟨_, h⟩ := rf_g_some h
  obtain ⟨y5, m5, q1, h⟩ := rf_b_some h
  have e1 : fr S_X14_tells m m5 := fr_trans (fr_i (fr_i (fr_i (fr_i (fr_i ((fr_refl _ m)) (fr_c_in (by decide) _)) (fr_c_in (by decide) _)) (fr_c_in (by decide) _)) (fr_c_in (by decide) _)) (fr_c_in (by decide) _)) (fr_mono (fg_X14_rounded q1) (by decide))
  obtain ⟨_, h⟩ := rf_g_some h
  obtain rfl := Option.some.inj h
  exact fr_i e1 (fr_c_in (by decide) _)
def S_X14_norths : fr_S := [(206, 206, some 33), (206, 206, some 34), (206, 206, some 35), (206, 206, some 36), (206, 206, some 37), (206, 206, some 38), (226, 226, none), (227, 227, none), (228, 228, none), (235, 235, none), (248, 248, none), (292, 292, none), (293, 293, none), (294, 294, none), (295, 295, none), (296, 296, none), (297, 297, none)]
theorem fg_X14_norths_539 {w : rf_w} {rec159 : Int32 → Int32 → rf_m → Option (rf_m)} {rec381 : Int32 → Int32 → Int32 → rf_m → Option (rf_m)} {rec394 : Int32 → Int32 → Int32 → Int32 → rf_m → Option (rf_m)} {a1 : Int32} {a2 : Int32} {a3 : Int32} {a4 : Int32} {m : rf_m} (hr_rec159 : ∀ {x0 : Int32} {x1 : Int32} {m : rf_m} {r : (rf_m)}, rec159 x0 x1 m = some r → fr S_X14_norths m r) (hr_rec381 : ∀ {x0 : Int32} {x1 : Int32} {x2 : Int32} {m : rf_m} {r : (rf_m)}, rec381 x0 x1 x2 m = some r → fr S_X14_norths m r) (hr_rec394 : ∀ {x0 : Int32} {x1 : Int32} {x2 : Int32} {x3 : Int32} {m : rf_m} {r : (rf_m)}, rec394 x0 x1 x2 x3 m = some r → fr S_X14_norths m r) {r : (rf_m)} (h : g_X14_norths_539 w rec159 rec381 rec394 a1 a2 a3 a4 m = some r) : fr S_X14_norths m r := by
  unfold g_X14_norths_539 at h
  exact fr_trans ((fr_refl _ m)) (hr_rec394 h)
theorem fg_X14_norths_511 {w : rf_w} {rec159 : Int32 → Int32 → rf_m → Option (rf_m)} {rec381 : Int32 → Int32 → Int32 → rf_m → Option (rf_m)} {rec394 : Int32 → Int32 → Int32 → Int32 → rf_m → Option (rf_m)} {rec434 : Int32 → Int32 → Int32 → Int32 → Int32 → Int32 → Int32 → rf_m → Option (rf_m)} {a1 : Int32} {a2 : Int32} {a3 : Int32} {a4 : Int32} {a5 : Int32} {a7 : Int32} {s0 : Int32} {s1 : Int32} {m : rf_m} (hr_rec159 : ∀ {x0 : Int32} {x1 : Int32} {m : rf_m} {r : (rf_m)}, rec159 x0 x1 m = some r → fr S_X14_norths m r) (hr_rec381 : ∀ {x0 : Int32} {x1 : Int32} {x2 : Int32} {m : rf_m} {r : (rf_m)}, rec381 x0 x1 x2 m = some r → fr S_X14_norths m r) (hr_rec394 : ∀ {x0 : Int32} {x1 : Int32} {x2 : Int32} {x3 : Int32} {m : rf_m} {r : (rf_m)}, rec394 x0 x1 x2 x3 m = some r → fr S_X14_norths m r) (hr_rec434 : ∀ {x0 : Int32} {x1 : Int32} {x2 : Int32} {x3 : Int32} {x4 : Int32} {x5 : Int32} {x6 : Int32} {m : rf_m} {r : (rf_m)}, rec434 x0 x1 x2 x3 x4 x5 x6 m = some r → fr S_X14_norths m r) {r : (rf_m)} (h : g_X14_norths_511 w rec159 rec381 rec394 rec434 a1 a2 a3 a4 a5 a7 s0 s1 m = some r) : fr S_X14_norths m r := by
  unfold g_X14_norths_511 at h
  exact fr_trans ((fr_refl _ m)) (hr_rec434 h)
theorem fg_X14_norths_510 {w : rf_w} {rec159 : Int32 → Int32 → rf_m → Option (rf_m)} {rec381 : Int32 → Int32 → Int32 → rf_m → Option (rf_m)} {rec394 : Int32 → Int32 → Int32 → Int32 → rf_m → Option (rf_m)} {rec434 : Int32 → Int32 → Int32 → Int32 → Int32 → Int32 → Int32 → rf_m → Option (rf_m)} {a1 : Int32} {a2 : Int32} {a3 : Int32} {a4 : Int32} {a5 : Int32} {a7 : Int32} {s0 : Int32} {m : rf_m} (hr_rec159 : ∀ {x0 : Int32} {x1 : Int32} {m : rf_m} {r : (rf_m)}, rec159 x0 x1 m = some r → fr S_X14_norths m r) (hr_rec381 : ∀ {x0 : Int32} {x1 : Int32} {x2 : Int32} {m : rf_m} {r : (rf_m)}, rec381 x0 x1 x2 m = some r → fr S_X14_norths m r) (hr_rec394 : ∀ {x0 : Int32} {x1 : Int32} {x2 : Int32} {x3 : Int32} {m : rf_m} {r : (rf_m)}, rec394 x0 x1 x2 x3 m = some r → fr S_X14_norths m r) (hr_rec434 : ∀ {x0 : Int32} {x1 : Int32} {x2 : Int32} {x3 : Int32} {x4 : Int32} {x5 : Int32} {x6 : Int32} {m : rf_m} {r : (rf_m)}, rec434 x0 x1 x2 x3 x4 x5 x6 m = some r → fr S_X14_norths m r) {r : (rf_m)} (h : g_X14_norths_510 w rec159 rec381 rec394 rec434 a1 a2 a3 a4 a5 a7 s0 m = some r) : fr S_X14_norths m r := by
  unfold g_X14_norths_510 at h
  exact fr_trans ((fr_refl _ m)) (fr_mono (fg_X14_norths_511 hr_rec159 hr_rec381 hr_rec394 hr_rec434 h) (by decide))
theorem fg_X14_norths_506 {w : rf_w} {rec159 : Int32 → Int32 → rf_m → Option (rf_m)} {rec381 : Int32 → Int32 → Int32 → rf_m → Option (rf_m)} {rec394 : Int32 → Int32 → Int32 → Int32 → rf_m → Option (rf_m)} {rec434 : Int32 → Int32 → Int32 → Int32 → Int32 → Int32 → Int32 → rf_m → Option (rf_m)} {a1 : Int32} {a2 : Int32} {a3 : Int32} {a4 : Int32} {a5 : Int32} {a7 : Int32} {s0 : Int32} {m : rf_m} (hr_rec159 : ∀ {x0 : Int32} {x1 : Int32} {m : rf_m} {r : (rf_m)}, rec159 x0 x1 m = some r → fr S_X14_norths m r) (hr_rec381 : ∀ {x0 : Int32} {x1 : Int32} {x2 : Int32} {m : rf_m} {r : (rf_m)}, rec381 x0 x1 x2 m = some r → fr S_X14_norths m r) (hr_rec394 : ∀ {x0 : Int32} {x1 : Int32} {x2 : Int32} {x3 : Int32} {m : rf_m} {r : (rf_m)}, rec394 x0 x1 x2 x3 m = some r → fr S_X14_norths m r) (hr_rec434 : ∀ {x0 : Int32} {x1 : Int32} {x2 : Int32} {x3 : Int32} {x4 : Int32} {x5 : Int32} {x6 : Int32} {m : rf_m} {r : (rf_m)}, rec434 x0 x1 x2 x3 x4 x5 x6 m = some r → fr S_X14_norths m r) {r : (rf_m)} (h : g_X14_norths_506 w rec159 rec381 rec394 rec434 a1 a2 a3 a4 a5 a7 s0 m = some r) : fr S_X14_norths m r := by
  unfold g_X14_norths_506 at h
  exact fr_trans ((fr_refl _ m)) (fr_mono (fg_X14_norths_511 hr_rec159 hr_rec381 hr_rec394 hr_rec434 h) (by decide))
theorem fg_X14_norths_434_b {w : rf_w} {rec159 : Int32 → Int32 → rf_m → Option (rf_m)} {rec381 : Int32 → Int32 → Int32 → rf_m → Option (rf_m)} {rec394 : Int32 → Int32 → Int32 → Int32 → rf_m → Option (rf_m)} {rec434 : Int32 → Int32 → Int32 → Int32 → Int32 → Int32 → Int32 → rf_m → Option (rf_m)} {a1 : Int32} {a2 : Int32} {a3 : Int32} {a4 : Int32} {a5 : Int32} {a6 : Int32} {a7 : Int32} {m : rf_m} (hr_rec159 : ∀ {x0 : Int32} {x1 : Int32} {m : rf_m} {r : (rf_m)}, rec159 x0 x1 m = some r → fr S_X14_norths m r) (hr_rec381 : ∀ {x0 : Int32} {x1 : Int32} {x2 : Int32} {m : rf_m} {r : (rf_m)}, rec381 x0 x1 x2 m = some r → fr S_X14_norths m r) (hr_rec394 : ∀ {x0 : Int32} {x1 : Int32} {x2 : Int32} {x3 : Int32} {m : rf_m} {r : (rf_m)}, rec394 x0 x1 x2 x3 m = some r → fr S_X14_norths m r) (hr_rec434 : ∀ {x0 : Int32} {x1 : Int32} {x2 : Int32} {x3 : Int32} {x4 : Int32} {x5 : Int32} {x6 : Int32} {m : rf_m} {r : (rf_m)}, rec434 x0 x1 x2 x3 x4 x5 x6 m = some r → fr S_X14_norths m r) {r : (rf_m)} (h : g_X14_norths_434_b w rec159 rec381 rec394 rec434 a1 a2 a3 a4 a5 a6 a7 m = some r) : fr S_X14_norths m r := by
  unfold g_X14_norths_434_b at h
  rcases rf_ite_some h with ⟨_, h⟩ | ⟨_, h⟩
  · obtain ⟨_, h⟩ := rf_g_some h
    obtain ⟨m1, q1, h⟩ := rf_bv_some h
    have e1 : fr S_X14_norths m m1 := fr_trans ((fr_refl _ m)) (fr_mono (fg_X14_tells q1) (by decide))
    exact fr_trans e1 (fr_mono (fg_X14_norths_539 hr_rec159 hr_rec381 hr_rec394 h) (by decide))
  · obtain ⟨_, h⟩ := rf_g_some h
    rcases rf_ite_some h with ⟨_, h⟩ | ⟨_, h⟩
    · exact fr_trans ((fr_refl _ m)) (fr_mono (fg_X14_norths_510 hr_rec159 hr_rec381 hr_rec394 hr_rec434 h) (by decide))
    · obtain ⟨_, h⟩ := rf_g_some h
      obtain ⟨_, h⟩ := rf_g_some h
      rcases rf_ite_some h with ⟨_, h⟩ | ⟨_, h⟩
      · exact fr_trans ((fr_refl _ m)) (fr_mono (fg_X14_norths_506 hr_rec159 hr_rec381 hr_rec394 hr_rec434 h) (by decide))
      · obtain ⟨_, h⟩ := rf_g_some h
        obtain ⟨_, h⟩ := rf_g_some h
        rcases rf_ite_some h with ⟨_, h⟩ | ⟨_, h⟩
        · obtain ⟨_, h⟩ := rf_g_some h
          obtain ⟨_, h⟩ := rf_g_some h
          rcases rf_ite_some h with ⟨_, h⟩ | ⟨_, h⟩
          · exact fr_trans ((fr_refl _ m)) (fr_mono (fg_X14_norths_510 hr_rec159 hr_rec381 hr_rec394 hr_rec434 h) (by decide))
          · exact fr_trans ((fr_refl _ m)) (fr_mono (fg_X14_norths_506 hr_rec159 hr_rec381 hr_rec394 hr_rec434 h) (by decide))
        · exact fr_trans ((fr_refl _ m)) (fr_mono (fg_X14_norths_510 hr_rec159 hr_rec381 hr_rec394 hr_rec434 h) (by decide))
theorem fg_X14_norths_434 {w : rf_w} {rec159 : Int32 → Int32 → rf_m → Option (rf_m)} {rec381 : Int32 → Int32 → Int32 → rf_m → Option (rf_m)} {rec394 : Int32 → Int32 → Int32 → Int32 → rf_m → Option (rf_m)} (hr_rec159 : ∀ {x0 : Int32} {x1 : Int32} {m : rf_m} {r : (rf_m)}, rec159 x0 x1 m = some r → fr S_X14_norths m r) (hr_rec381 : ∀ {x0 : Int32} {x1 : Int32} {x2 : Int32} {m : rf_m} {r : (rf_m)}, rec381 x0 x1 x2 m = some r → fr S_X14_norths m r) (hr_rec394 : ∀ {x0 : Int32} {x1 : Int32} {x2 : Int32} {x3 : Int32} {m : rf_m} {r : (rf_m)}, rec394 x0 x1 x2 x3 m = some r → fr S_X14_norths m r) (n : Nat) : ∀ {a1 : Int32} {a2 : Int32} {a3 : Int32} {a4 : Int32} {a5 : Int32} {a6 : Int32} {a7 : Int32} {m : rf_m} {r : (rf_m)}, g_X14_norths_434 w rec159 rec381 rec394 n a1 a2 a3 a4 a5 a6 a7 m = some r → fr S_X14_norths m r := by
  induction n with
  | zero => intro a1 a2 a3 a4 a5 a6 a7 m r h; cases h
  | succ n ih =>
    intro a1 a2 a3 a4 a5 a6 a7 m r h
    exact fg_X14_norths_434_b hr_rec159 hr_rec381 hr_rec394 ih h
theorem fg_X14_norths_394_b {w : rf_w} {rec159 : Int32 → Int32 → rf_m → Option (rf_m)} {rec381 : Int32 → Int32 → Int32 → rf_m → Option (rf_m)} {rec394 : Int32 → Int32 → Int32 → Int32 → rf_m → Option (rf_m)} {a1 : Int32} {a2 : Int32} {a3 : Int32} {a4 : Int32} {m : rf_m} (hr_rec159 : ∀ {x0 : Int32} {x1 : Int32} {m : rf_m} {r : (rf_m)}, rec159 x0 x1 m = some r → fr S_X14_norths m r) (hr_rec381 : ∀ {x0 : Int32} {x1 : Int32} {x2 : Int32} {m : rf_m} {r : (rf_m)}, rec381 x0 x1 x2 m = some r → fr S_X14_norths m r) (hr_rec394 : ∀ {x0 : Int32} {x1 : Int32} {x2 : Int32} {x3 : Int32} {m : rf_m} {r : (rf_m)}, rec394 x0 x1 x2 x3 m = some r → fr S_X14_norths m r) {r : (rf_m)} (h : g_X14_norths_394_b w rec159 rec381 rec394 a1 a2 a3 a4 m = some r) : fr S_X14_norths m r := by
  unfold g_X14_norths_394_b at h
  rcases rf_ite_some h with ⟨_, h⟩ | ⟨_, h⟩
  · exact fr_trans ((fr_refl _ m)) (hr_rec381 h)
  · obtain ⟨_, h⟩ := rf_g_some h
    rcases rf_ite_some h with ⟨_, h⟩ | ⟨_, h⟩
    · exact fr_trans ((fr_refl _ m)) (fr_mono (fg_X14_norths_539 hr_rec159 hr_rec381 hr_rec394 h) (by decide))
    · exact fr_trans ((fr_refl _ m)) (fr_mono (fg_X14_norths_434 hr_rec159 hr_rec381 hr_rec394 _ h) (by decide))
theorem fg_X14_norths_394 {w : rf_w} {rec159 : Int32 → Int32 → rf_m → Option (rf_m)} {rec381 : Int32 → Int32 → Int32 → rf_m → Option (rf_m)} (hr_rec159 : ∀ {x0 : Int32} {x1 : Int32} {m : rf_m} {r : (rf_m)}, rec159 x0 x1 m = some r → fr S_X14_norths m r) (hr_rec381 : ∀ {x0 : Int32} {x1 : Int32} {x2 : Int32} {m : rf_m} {r : (rf_m)}, rec381 x0 x1 x2 m = some r → fr S_X14_norths m r) (n : Nat) : ∀ {a1 : Int32} {a2 : Int32} {a3 : Int32} {a4 : Int32} {m : rf_m} {r : (rf_m)}, g_X14_norths_394 w rec159 rec381 n a1 a2 a3 a4 m = some r → fr S_X14_norths m r := by
  induction n with
  | zero => intro a1 a2 a3 a4 m r h; cases h
  | succ n ih =>
    intro a1 a2 a3 a4 m r h
    exact fg_X14_norths_394_b hr_rec159 hr_rec381 ih h
theorem fg_X14_norths_381_b {w : rf_w} {rec159 : Int32 → Int32 → rf_m → Option (rf_m)} {rec381 : Int32 → Int32 → Int32 → rf_m → Option (rf_m)} {a1 : Int32} {a2 : Int32} {a3 : Int32} {m : rf_m} (hr_rec159 : ∀ {x0 : Int32} {x1 : Int32} {m : rf_m} {r : (rf_m)}, rec159 x0 x1 m = some r → fr S_X14_norths m r) (hr_rec381 : ∀ {x0 : Int32} {x1 : Int32} {x2 : Int32} {m : rf_m} {r : (rf_m)}, rec381 x0 x1 x2 m = some r → fr S_X14_norths m r) {r : (rf_m)} (h : g_X14_norths_381_b w rec159 rec381 a1 a2 a3 m = some r) : fr S_X14_norths m r := by
  unfold g_X14_norths_381_b at h
  rcases rf_ite_some h with ⟨_, h⟩ | ⟨_, h⟩
  · exact fr_trans ((fr_refl _ m)) (hr_rec159 h)
  · exact fr_trans ((fr_refl _ m)) (fr_mono (fg_X14_norths_394 hr_rec159 hr_rec381 _ h) (by decide))
theorem fg_X14_norths_381 {w : rf_w} {rec159 : Int32 → Int32 → rf_m → Option (rf_m)} (hr_rec159 : ∀ {x0 : Int32} {x1 : Int32} {m : rf_m} {r : (rf_m)}, rec159 x0 x1 m = some r → fr S_X14_norths m r) (n : Nat) : ∀ {a1 : Int32} {a2 : Int32} {a3 : Int32} {m : rf_m} {r : (rf_m)}, g_X14_norths_381 w rec159 n a1 a2 a3 m = some r → fr S_X14_norths m r := by
  induction n with
  | zero => intro a1 a2 a3 m r h; cases h
  | succ n ih =>
    intro a1 a2 a3 m r h
    exact fg_X14_norths_381_b hr_rec159 ih h
theorem fg_X14_norths_373 {w : rf_w} {rec159 : Int32 → Int32 → rf_m → Option (rf_m)} {rec189 : Int32 → Int32 → Int32 → rf_m → Option (rf_m)} {a1 : Int32} {a2 : Int32} {a3 : Int32} {m : rf_m} (hr_rec159 : ∀ {x0 : Int32} {x1 : Int32} {m : rf_m} {r : (rf_m)}, rec159 x0 x1 m = some r → fr S_X14_norths m r) (hr_rec189 : ∀ {x0 : Int32} {x1 : Int32} {x2 : Int32} {m : rf_m} {r : (rf_m)}, rec189 x0 x1 x2 m = some r → fr S_X14_norths m r) {r : (rf_m)} (h : g_X14_norths_373 w rec159 rec189 a1 a2 a3 m = some r) : fr S_X14_norths m r := by
  unfold g_X14_norths_373 at h
  exact fr_trans ((fr_refl _ m)) (hr_rec189 h)
theorem fg_X14_norths_310 {w : rf_w} {rec159 : Int32 → Int32 → rf_m → Option (rf_m)} {rec189 : Int32 → Int32 → Int32 → rf_m → Option (rf_m)} {a1 : Int32} {a2 : Int32} {a3 : Int32} {a4 : Int32} {a5 : Int32} {m : rf_m} (hr_rec159 : ∀ {x0 : Int32} {x1 : Int32} {m : rf_m} {r : (rf_m)}, rec159 x0 x1 m = some r → fr S_X14_norths m r) (hr_rec189 : ∀ {x0 : Int32} {x1 : Int32} {x2 : Int32} {m : rf_m} {r : (rf_m)}, rec189 x0 x1 x2 m = some r → fr S_X14_norths m r) {r : (rf_m)} (h : g_X14_norths_310 w rec159 rec189 a1 a2 a3 a4 a5 m = some r) : fr S_X14_norths m r := by
  unfold g_X14_norths_310 at h
  obtain ⟨_, h⟩ := rf_g_some h
  rcases rf_ite_some h with ⟨_, h⟩ | ⟨_, h⟩
  · obtain ⟨_, h⟩ := rf_g_some h
    rcases rf_ite_some h with ⟨_, h⟩ | ⟨_, h⟩
    · obtain ⟨_, h⟩ := rf_g_some h
      obtain ⟨_, h⟩ := rf_g_some h
      obtain ⟨_, h⟩ := rf_g_some h
      obtain ⟨_, h⟩ := rf_g_some h
      obtain ⟨_, h⟩ := rf_g_some h
      obtain ⟨y7, m7, q1, h⟩ := rf_b_some h
      have e1 : fr S_X14_norths m m7 := fr_trans ((fr_refl _ m)) (fr_mono (fg_X14_rounded q1) (by decide))
      obtain ⟨m8, q2, h⟩ := rf_bv_some h
      have e2 : fr S_X14_norths m m8 := fr_trans e1 (fr_mono (fg_X14_offers q2) (by decide))
      exact fr_trans e2 (fr_mono (fg_X14_norths_373 hr_rec159 hr_rec189 h) (by decide))
    · exact fr_trans ((fr_refl _ m)) (fr_mono (fg_X14_norths_373 hr_rec159 hr_rec189 h) (by decide))
  · exact fr_trans ((fr_refl _ m)) (fr_mono (fg_X14_norths_373 hr_rec159 hr_rec189 h) (by decide))
theorem fg_X14_norths_189_b {w : rf_w} {rec159 : Int32 → Int32 → rf_m → Option (rf_m)} {rec189 : Int32 → Int32 → Int32 → rf_m → Option (rf_m)} {a1 : Int32} {a2 : Int32} {a3 : Int32} {m : rf_m} (hr_rec159 : ∀ {x0 : Int32} {x1 : Int32} {m : rf_m} {r : (rf_m)}, rec159 x0 x1 m = some r → fr S_X14_norths m r) (hr_rec189 : ∀ {x0 : Int32} {x1 : Int32} {x2 : Int32} {m : rf_m} {r : (rf_m)}, rec189 x0 x1 x2 m = some r → fr S_X14_norths m r) {r : (rf_m)} (h : g_X14_norths_189_b w rec159 rec189 a1 a2 a3 m = some r) : fr S_X14_norths m r := by
  unfold g_X14_norths_189_b at h
  rcases rf_ite_some h with ⟨_, h⟩ | ⟨_, h⟩
  · exact fr_trans ((fr_refl _ m)) (fr_mono (fg_X14_norths_381 hr_rec159 _ h) (by decide))
  · obtain ⟨_, h⟩ := rf_g_some h
    rcases rf_ite_some h with ⟨_, h⟩ | ⟨_, h⟩
    · exact fr_trans ((fr_refl _ m)) (fr_mono (fg_X14_norths_373 hr_rec159 hr_rec189 h) (by decide))
    · obtain ⟨_, h⟩ := rf_g_some h
      obtain ⟨_, h⟩ := rf_g_some h
      have h := fr_vi h
      obtain ⟨_, h⟩ := rf_g_some h
      obtain ⟨_, h⟩ := rf_g_some h
      have h := fr_vi h
      obtain ⟨_, h⟩ := rf_g_some h
      rcases rf_ite_some h with ⟨_, h⟩ | ⟨_, h⟩
      · obtain ⟨_, h⟩ := rf_g_some h
        rcases rf_ite_some h with ⟨_, h⟩ | ⟨_, h⟩
        · obtain ⟨_, h⟩ := rf_g_some h
          obtain ⟨_, h⟩ := rf_g_some h
          obtain ⟨_, h⟩ := rf_g_some h
          obtain ⟨_, h⟩ := rf_g_some h
          obtain ⟨_, h⟩ := rf_g_some h
          obtain ⟨y14, m14, q1, h⟩ := rf_b_some h
          have e1 : fr S_X14_norths m m14 := fr_trans ((fr_refl _ m)) (fr_mono (fg_X14_rounded q1) (by decide))
          obtain ⟨m15, q2, h⟩ := rf_bv_some h
          have e2 : fr S_X14_norths m m15 := fr_trans e1 (fr_mono (fg_X14_offers q2) (by decide))
          exact fr_trans e2 (fr_mono (fg_X14_norths_310 hr_rec159 hr_rec189 h) (by decide))
        · exact fr_trans ((fr_refl _ m)) (fr_mono (fg_X14_norths_310 hr_rec159 hr_rec189 h) (by decide))
      · exact fr_trans ((fr_refl _ m)) (fr_mono (fg_X14_norths_310 hr_rec159 hr_rec189 h) (by decide))
theorem fg_X14_norths_189 {w : rf_w} {rec159 : Int32 → Int32 → rf_m → Option (rf_m)} (hr_rec159 : ∀ {x0 : Int32} {x1 : Int32} {m : rf_m} {r : (rf_m)}, rec159 x0 x1 m = some r → fr S_X14_norths m r) (n : Nat) : ∀ {a1 : Int32} {a2 : Int32} {a3 : Int32} {m : rf_m} {r : (rf_m)}, g_X14_norths_189 w rec159 n a1 a2 a3 m = some r → fr S_X14_norths m r := by
  induction n with
  | zero => intro a1 a2 a3 m r h; cases h
  | succ n ih =>
    intro a1 a2 a3 m r h
    exact fg_X14_norths_189_b hr_rec159 ih h
theorem fg_X14_norths_167_b {w : rf_w} {rec159 : Int32 → Int32 → rf_m → Option (rf_m)} {rec167 : Int32 → Int32 → Int32 → rf_m → Option (rf_m)} {a1 : Int32} {a2 : Int32} {a3 : Int32} {m : rf_m} (hr_rec159 : ∀ {x0 : Int32} {x1 : Int32} {m : rf_m} {r : (rf_m)}, rec159 x0 x1 m = some r → fr S_X14_norths m r) (hr_rec167 : ∀ {x0 : Int32} {x1 : Int32} {x2 : Int32} {m : rf_m} {r : (rf_m)}, rec167 x0 x1 x2 m = some r → fr S_X14_norths m r) {r : (rf_m)} (h : g_X14_norths_167_b w rec159 rec167 a1 a2 a3 m = some r) : fr S_X14_norths m r := by
  unfold g_X14_norths_167_b at h
  rcases rf_ite_some h with ⟨_, h⟩ | ⟨_, h⟩
  · exact fr_trans ((fr_refl _ m)) (fr_mono (fg_X14_norths_189 hr_rec159 _ h) (by decide))
  · obtain ⟨_, h⟩ := rf_g_some h
    exact fr_trans (fr_i ((fr_refl _ m)) (fr_c_in (by decide) _)) (hr_rec167 h)
theorem fg_X14_norths_167 {w : rf_w} {rec159 : Int32 → Int32 → rf_m → Option (rf_m)} (hr_rec159 : ∀ {x0 : Int32} {x1 : Int32} {m : rf_m} {r : (rf_m)}, rec159 x0 x1 m = some r → fr S_X14_norths m r) (n : Nat) : ∀ {a1 : Int32} {a2 : Int32} {a3 : Int32} {m : rf_m} {r : (rf_m)}, g_X14_norths_167 w rec159 n a1 a2 a3 m = some r → fr S_X14_norths m r := by
  induction n with
  | zero => intro a1 a2 a3 m r h; cases h
  | succ n ih =>
    intro a1 a2 a3 m r h
    exact fg_X14_norths_167_b hr_rec159 ih h
theorem fg_X14_norths_159_b {w : rf_w} {rec159 : Int32 → Int32 → rf_m → Option (rf_m)} {a1 : Int32} {a2 : Int32} {m : rf_m} (hr_rec159 : ∀ {x0 : Int32} {x1 : Int32} {m : rf_m} {r : (rf_m)}, rec159 x0 x1 m = some r → fr S_X14_norths m r) {r : (rf_m)} (h : g_X14_norths_159_b w rec159 a1 a2 m = some r) : fr S_X14_norths m r := by
  unfold g_X14_norths_159_b at h
  rcases rf_ite_some h with ⟨_, h⟩ | ⟨_, h⟩
  · obtain rfl := Option.some.inj h
    exact (fr_refl _ m)
  · exact fr_trans ((fr_refl _ m)) (fr_mono (fg_X14_norths_167 hr_rec159 _ h) (by decide))
theorem fg_X14_norths_159 {w : rf_w} (n : Nat) : ∀ {a1 : Int32} {a2 : Int32} {m : rf_m} {r : (rf_m)}, g_X14_norths_159 w n a1 a2 m = some r → fr S_X14_norths m r := by
  induction n with
  | zero => intro a1 a2 m r h; cases h
  | succ n ih =>
    intro a1 a2 m r h
    exact fg_X14_norths_159_b ih h
theorem fg_X14_norths_139 {w : rf_w} {rec2 : Int32 → rf_m → Option (rf_m)} {rec12 : Int32 → Int32 → rf_m → Option (rf_m)} {a1 : Int32} {a2 : Int32} {m : rf_m} (hr_rec2 : ∀ {x0 : Int32} {m : rf_m} {r : (rf_m)}, rec2 x0 m = some r → fr S_X14_norths m r) (hr_rec12 : ∀ {x0 : Int32} {x1 : Int32} {m : rf_m} {r : (rf_m)}, rec12 x0 x1 m = some r → fr S_X14_norths m r) {r : (rf_m)} (h : g_X14_norths_139 w rec2 rec12 a1 a2 m = some r) : fr S_X14_norths m r := by
  unfold g_X14_norths_139 at h
  exact fr_trans ((fr_refl _ m)) (hr_rec12 h)
theorem fg_X14_norths_138 {w : rf_w} {rec2 : Int32 → rf_m → Option (rf_m)} {rec12 : Int32 → Int32 → rf_m → Option (rf_m)} {a1 : Int32} {a2 : Int32} {s1 : Int32} {s2 : Int32} {m : rf_m} (hr_rec2 : ∀ {x0 : Int32} {m : rf_m} {r : (rf_m)}, rec2 x0 m = some r → fr S_X14_norths m r) (hr_rec12 : ∀ {x0 : Int32} {x1 : Int32} {m : rf_m} {r : (rf_m)}, rec12 x0 x1 m = some r → fr S_X14_norths m r) {r : (rf_m)} (h : g_X14_norths_138 w rec2 rec12 a1 a2 s1 s2 m = some r) : fr S_X14_norths m r := by
  unfold g_X14_norths_138 at h
  obtain ⟨_, h⟩ := rf_g_some h
  exact fr_trans (fr_i ((fr_refl _ m)) (fr_c_in (by decide) _)) (fr_mono (fg_X14_norths_139 hr_rec2 hr_rec12 h) (by decide))
theorem fg_X14_norths_120 {w : rf_w} {rec2 : Int32 → rf_m → Option (rf_m)} {rec12 : Int32 → Int32 → rf_m → Option (rf_m)} {a1 : Int32} {a2 : Int32} {a3 : Int32} {a4 : Int32} {s1 : Int32} {s2 : Int32} {m : rf_m} (hr_rec2 : ∀ {x0 : Int32} {m : rf_m} {r : (rf_m)}, rec2 x0 m = some r → fr S_X14_norths m r) (hr_rec12 : ∀ {x0 : Int32} {x1 : Int32} {m : rf_m} {r : (rf_m)}, rec12 x0 x1 m = some r → fr S_X14_norths m r) {r : (rf_m)} (h : g_X14_norths_120 w rec2 rec12 a1 a2 a3 a4 s1 s2 m = some r) : fr S_X14_norths m r := by
  unfold g_X14_norths_120 at h
  obtain ⟨_, h⟩ := rf_g_some h
  rcases rf_ite_some h with ⟨_, h⟩ | ⟨_, h⟩
  · exact fr_trans (fr_i ((fr_refl _ m)) (fr_c_in (by decide) _)) (fr_mono (fg_X14_norths_138 hr_rec2 hr_rec12 h) (by decide))
  · exact fr_trans (fr_i ((fr_refl _ m)) (fr_c_in (by decide) _)) (fr_mono (fg_X14_norths_138 hr_rec2 hr_rec12 h) (by decide))
theorem fg_X14_norths_87 {w : rf_w} {rec2 : Int32 → rf_m → Option (rf_m)} {rec12 : Int32 → Int32 → rf_m → Option (rf_m)} {a1 : Int32} {a2 : Int32} {a3 : Int32} {a4 : Int32} {a5 : Int32} {m : rf_m} (hr_rec2 : ∀ {x0 : Int32} {m : rf_m} {r : (rf_m)}, rec2 x0 m = some r → fr S_X14_norths m r) (hr_rec12 : ∀ {x0 : Int32} {x1 : Int32} {m : rf_m} {r : (rf_m)}, rec12 x0 x1 m = some r → fr S_X14_norths m r) {r : (rf_m)} (h : g_X14_norths_87 w rec2 rec12 a1 a2 a3 a4 a5 m = some r) : fr S_X14_norths m r := by
  unfold g_X14_norths_87 at h
  obtain ⟨_, h⟩ := rf_g_some h
  rcases rf_ite_some h with ⟨_, h⟩ | ⟨_, h⟩
  · obtain ⟨y1, m1, q1, h⟩ := rf_b_some h
    have e1 : fr S_X14_norths m m1 := fr_trans (fr_i ((fr_refl _ m)) (fr_c_in (by decide) _)) (fr_mono (fg_X14_rounded q1) (by decide))
    exact fr_trans e1 (fr_mono (fg_X14_norths_120 hr_rec2 hr_rec12 h) (by decide))
  · exact fr_trans (fr_i ((fr_refl _ m)) (fr_c_in (by decide) _)) (fr_mono (fg_X14_norths_120 hr_rec2 hr_rec12 h) (by decide))
theorem fg_X14_norths_68 {w : rf_w} {rec2 : Int32 → rf_m → Option (rf_m)} {rec12 : Int32 → Int32 → rf_m → Option (rf_m)} {a1 : Int32} {a2 : Int32} {a3 : Int32} {a4 : Int32} {s0 : Int32} {m : rf_m} (hr_rec2 : ∀ {x0 : Int32} {m : rf_m} {r : (rf_m)}, rec2 x0 m = some r → fr S_X14_norths m r) (hr_rec12 : ∀ {x0 : Int32} {x1 : Int32} {m : rf_m} {r : (rf_m)}, rec12 x0 x1 m = some r → fr S_X14_norths m r) {r : (rf_m)} (h : g_X14_norths_68 w rec2 rec12 a1 a2 a3 a4 s0 m = some r) : fr S_X14_norths m r := by
  unfold g_X14_norths_68 at h
  rcases rf_ite_some h with ⟨_, h⟩ | ⟨_, h⟩
  · rcases rf_ite_some h with ⟨_, h⟩ | ⟨_, h⟩
    · exact fr_trans ((fr_refl _ m)) (fr_mono (fg_X14_norths_139 hr_rec2 hr_rec12 h) (by decide))
    · exact fr_trans ((fr_refl _ m)) (fr_mono (fg_X14_norths_87 hr_rec2 hr_rec12 h) (by decide))
  · exact fr_trans ((fr_refl _ m)) (fr_mono (fg_X14_norths_87 hr_rec2 hr_rec12 h) (by decide))
theorem fg_X14_norths_50 {w : rf_w} {rec2 : Int32 → rf_m → Option (rf_m)} {rec12 : Int32 → Int32 → rf_m → Option (rf_m)} {a1 : Int32} {a2 : Int32} {a3 : Int32} {s0 : Int32} {m : rf_m} (hr_rec2 : ∀ {x0 : Int32} {m : rf_m} {r : (rf_m)}, rec2 x0 m = some r → fr S_X14_norths m r) (hr_rec12 : ∀ {x0 : Int32} {x1 : Int32} {m : rf_m} {r : (rf_m)}, rec12 x0 x1 m = some r → fr S_X14_norths m r) {r : (rf_m)} (h : g_X14_norths_50 w rec2 rec12 a1 a2 a3 s0 m = some r) : fr S_X14_norths m r := by
  unfold g_X14_norths_50 at h
  rcases rf_ite_some h with ⟨_, h⟩ | ⟨_, h⟩
  · exact fr_trans ((fr_refl _ m)) (fr_mono (fg_X14_norths_68 hr_rec2 hr_rec12 h) (by decide))
  · obtain ⟨y0, m0, q1, h⟩ := rf_b_some h
    have e1 : fr S_X14_norths m m0 := fr_trans ((fr_refl _ m)) (fr_mono (fg_X14_ownNorth q1) (by decide))
    exact fr_trans e1 (fr_mono (fg_X14_norths_68 hr_rec2 hr_rec12 h) (by decide))
theorem fg_X14_norths_12_b {w : rf_w} {rec2 : Int32 → rf_m → Option (rf_m)} {rec12 : Int32 → Int32 → rf_m → Option (rf_m)} {a1 : Int32} {a2 : Int32} {m : rf_m} (hr_rec2 : ∀ {x0 : Int32} {m : rf_m} {r : (rf_m)}, rec2 x0 m = some r → fr S_X14_norths m r) (hr_rec12 : ∀ {x0 : Int32} {x1 : Int32} {m : rf_m} {r : (rf_m)}, rec12 x0 x1 m = some r → fr S_X14_norths m r) {r : (rf_m)} (h : g_X14_norths_12_b w rec2 rec12 a1 a2 m = some r) : fr S_X14_norths m r := by
  unfold g_X14_norths_12_b at h
  rcases rf_ite_some h with ⟨_, h⟩ | ⟨_, h⟩
  · exact fr_trans ((fr_refl _ m)) (hr_rec2 h)
  · obtain ⟨_, h⟩ := rf_g_some h
    rcases rf_ite_some h with ⟨_, h⟩ | ⟨_, h⟩
    · exact fr_trans (fr_i ((fr_refl _ m)) (fr_c_in (by decide) _)) (fr_mono (fg_X14_norths_50 hr_rec2 hr_rec12 h) (by decide))
    · obtain ⟨y1, m1, q1, h⟩ := rf_b_some h
      have e1 : fr S_X14_norths m m1 := fr_trans (fr_i ((fr_refl _ m)) (fr_c_in (by decide) _)) (fr_mono (fg_X14_ownNorth q1) (by decide))
      exact fr_trans e1 (fr_mono (fg_X14_norths_50 hr_rec2 hr_rec12 h) (by decide))
theorem fg_X14_norths_12 {w : rf_w} {rec2 : Int32 → rf_m → Option (rf_m)} (hr_rec2 : ∀ {x0 : Int32} {m : rf_m} {r : (rf_m)}, rec2 x0 m = some r → fr S_X14_norths m r) (n : Nat) : ∀ {a1 : Int32} {a2 : Int32} {m : rf_m} {r : (rf_m)}, g_X14_norths_12 w rec2 n a1 a2 m = some r → fr S_X14_norths m r := by
  induction n with
  | zero => intro a1 a2 m r h; cases h
  | succ n ih =>
    intro a1 a2 m r h
    exact fg_X14_norths_12_b hr_rec2 ih h
theorem fg_X14_norths_2_b {w : rf_w} {rec2 : Int32 → rf_m → Option (rf_m)} {a1 : Int32} {m : rf_m} (hr_rec2 : ∀ {x0 : Int32} {m : rf_m} {r : (rf_m)}, rec2 x0 m = some r → fr S_X14_norths m r) {r : (rf_m)} (h : g_X14_norths_2_b w rec2 a1 m = some r) : fr S_X14_norths m r := by
  unfold g_X14_norths_2_b at h
  rcases rf_ite_some h with ⟨_, h⟩ | ⟨_, h⟩
  · obtain ⟨m0, q1, h⟩ := rf_bv_some h
    have e1 : fr S_X14_norths m m0 := fr_trans ((fr_refl _ m)) (fr_mono (fg_X14_allMeans q1) (by decide))
    exact fr_trans e1 (fr_mono (fg_X14_norths_159 _ h) (by decide))
  · exact fr_trans ((fr_refl _ m)) (fr_mono (fg_X14_norths_12 hr_rec2 _ h) (by decide))
theorem fg_X14_norths_2 {w : rf_w} (n : Nat) : ∀ {a1 : Int32} {m : rf_m} {r : (rf_m)}, g_X14_norths_2 w n a1 m = some r → fr S_X14_norths m r := by
  induction n with
  | zero => intro a1 m r h; cases h
  | succ n ih =>
    intro a1 m r h
    exact fg_X14_norths_2_b ih h
theorem fg_X14_norths {w : rf_w} {m : rf_m} {r : (rf_m)} (h : g_X14_norths w m = some r) : fr S_X14_norths m r := by
  unfold g_X14_norths at h
  exact fr_trans ((fr_refl _ m)) (fr_mono (fg_X14_norths_2 _ h) (by decide))
def S_X14_north : fr_S := [(206, 206, some 0), (206, 206, some 33), (206, 206, some 34), (206, 206, some 35), (206, 206, some 36), (206, 206, some 37), (206, 206, some 38), (226, 226, none), (227, 227, none), (228, 228, none), (235, 235, none), (248, 248, none), (292, 292, none), (293, 293, none), (294, 294, none), (295, 295, none), (296, 296, none), (297, 297, none)]
theorem fg_X14_north {w : rf_w} {m : rf_m} {a1 : Int32} {a2 : Int32} {r : (Int32 × rf_m)} (h : g_X14_north w m a1 a2 = some r) : fr S_X14_north m r.2 := by
  unfold g_X14_north at h
  obtain ⟨y0, m0, q1, h⟩ := rf_b_some h
  have e1 : fr S_X14_north m m0 := fr_trans (fr_i ((fr_refl _ m)) (by decide)) (fr_mono (fg_X14_isMark q1) (by decide))
  rcases rf_ite_some h with ⟨_, h⟩ | ⟨_, h⟩
  · obtain rfl := Option.some.inj h
    exact e1
  · obtain ⟨y1, m1, q2, h⟩ := rf_b_some h
    have e2 : fr S_X14_north m m1 := fr_trans e1 (fr_mono (fg_X14_isMark q2) (by decide))
    rcases rf_ite_some h with ⟨_, h⟩ | ⟨_, h⟩
    · obtain rfl := Option.some.inj h
      exact e2
    · rcases rf_ite_some h with ⟨_, h⟩ | ⟨_, h⟩
      · obtain rfl := Option.some.inj h
        exact e2
      · obtain ⟨m2, q3, h⟩ := rf_bv_some h
        have e3 : fr S_X14_north m m2 := fr_trans e2 (fr_mono (fg_X14_norths q3) (by decide))
        obtain ⟨_, h⟩ := rf_g_some h
        rcases rf_ite_some h with ⟨_, h⟩ | ⟨_, h⟩
        · obtain rfl := Option.some.inj h
          exact e3
        · obtain ⟨_, h⟩ := rf_g_some h
          obtain rfl := Option.some.inj h
          exact e3
def S_X14_steps : fr_S := [(206, 206, some 0), (206, 206, some 33), (206, 206, some 34), (206, 206, some 35), (206, 206, some 36), (206, 206, some 37), (206, 206, some 38), (226, 226, none), (227, 227, none), (228, 228, none), (235, 235, none), (248, 248, none), (292, 292, none), (293, 293, none), (294, 294, none), (295, 295, none), (296, 296, none), (297, 297, none)]
theorem fg_X14_steps {w : rf_w} {m : rf_m} {a1 : Int32} {a2 : Int32} {r : (Int32 × rf_m)} (h : g_X14_steps w m a1 a2 = some r) : fr S_X14_steps m r.2 := by
  unfold g_X14_steps at h
  obtain ⟨y0, m0, q1, h⟩ := rf_b_some h
  have e1 : fr S_X14_steps m m0 := fr_trans (fr_i ((fr_refl _ m)) (by decide)) (fr_mono (fg_X14_isMark q1) (by decide))
  rcases rf_ite_some h with ⟨_, h⟩ | ⟨_, h⟩
  · obtain rfl := Option.some.inj h
    exact e1
  · obtain ⟨y1, m1, q2, h⟩ := rf_b_some h
    have e2 : fr S_X14_steps m m1 := fr_trans e1 (fr_mono (fg_X14_isMark q2) (by decide))
    rcases rf_ite_some h with ⟨_, h⟩ | ⟨_, h⟩
    · obtain rfl := Option.some.inj h
      exact e2
    · rcases rf_ite_some h with ⟨_, h⟩ | ⟨_, h⟩
      · obtain rfl := Option.some.inj h
        exact e2
      · obtain ⟨m2, q3, h⟩ := rf_bv_some h
        have e3 : fr S_X14_steps m m2 := fr_trans e2 (fr_mono (fg_X14_norths q3) (by decide))
        obtain ⟨_, h⟩ := rf_g_some h
        rcases rf_ite_some h with ⟨_, h⟩ | ⟨_, h⟩
        · obtain rfl := Option.some.inj h
          exact e3
        · obtain ⟨_, h⟩ := rf_g_some h
          obtain rfl := Option.some.inj h
          exact e3
def S_X14_level : fr_S := [(206, 206, some 0), (206, 206, some 1), (206, 206, some 2), (206, 206, some 136), (298, 298, none), (299, 299, none), (300, 300, none)]
theorem fg_X14_level {w : rf_w} {m : rf_m} {a1 : Int32} {a2 : Int32} {a3 : Int32} {a4 : Int32} {r : (Int32 × rf_m)} (h : g_X14_level w m a1 a2 a3 a4 = some r) : fr S_X14_level m r.2 := by
  unfold g_X14_level at h
  obtain ⟨y0, m0, q1, h⟩ := rf_b_some h
  have e1 : fr S_X14_level m m0 := fr_trans (fr_i ((fr_refl _ m)) (by decide)) (fr_mono (fg_X14_isMark q1) (by decide))
  rcases rf_ite_some h with ⟨_, h⟩ | ⟨_, h⟩
  · obtain ⟨y1, m1, q2, h⟩ := rf_b_some h
    have e2 : fr S_X14_level m m1 := fr_trans e1 (fr_mono (fg_X14_refused q2) (by decide))
    obtain rfl := Option.some.inj h
    exact e2
  · obtain ⟨y2, m2, q3, h⟩ := rf_b_some h
    have e3 : fr S_X14_level m m2 := fr_trans e1 (fr_mono (fg_X14_isMark q3) (by decide))
    rcases rf_ite_some h with ⟨_, h⟩ | ⟨_, h⟩
    · obtain ⟨y3, m3, q4, h⟩ := rf_b_some h
      have e4 : fr S_X14_level m m3 := fr_trans e3 (fr_mono (fg_X14_refused q4) (by decide))
      obtain rfl := Option.some.inj h
      exact e4
    · rcases rf_ite_some h with ⟨_, h⟩ | ⟨_, h⟩
      · obtain ⟨y13, m13, q5, h⟩ := rf_b_some h
        have e5 : fr S_X14_level m m13 := fr_trans e3 (fr_mono (fg_X14_refused q5) (by decide))
        obtain rfl := Option.some.inj h
        exact e5
      · obtain ⟨y4, m4, q6, h⟩ := rf_b_some h
        have e6 : fr S_X14_level m m4 := fr_trans e3 (fr_mono (fg_X14_in q6) (by decide))
        rcases rf_ite_some h with ⟨_, h⟩ | ⟨_, h⟩
        · obtain ⟨y5, m5, q7, h⟩ := rf_b_some h
          have e7 : fr S_X14_level m m5 := fr_trans e6 (fr_mono (fg_X14_refused q7) (by decide))
          obtain rfl := Option.some.inj h
          exact e7
        · obtain ⟨y6, m6, q8, h⟩ := rf_b_some h
          have e8 : fr S_X14_level m m6 := fr_trans e6 (fr_mono (fg_X14_isHour q8) (by decide))
          rcases rf_ite_some h with ⟨_, h⟩ | ⟨_, h⟩
          · obtain ⟨y12, m12, q9, h⟩ := rf_b_some h
            have e9 : fr S_X14_level m m12 := fr_trans e8 (fr_mono (fg_X14_refused q9) (by decide))
            obtain rfl := Option.some.inj h
            exact e9
          · rcases rf_ite_some h with ⟨_, h⟩ | ⟨_, h⟩
            · obtain ⟨y11, m11, q10, h⟩ := rf_b_some h
              have e10 : fr S_X14_level m m11 := fr_trans e8 (fr_mono (fg_X14_refused q10) (by decide))
              obtain rfl := Option.some.inj h
              exact e10
            · obtain ⟨_, h⟩ := rf_g_some h
              obtain ⟨_, h⟩ := rf_g_some h
              obtain ⟨_, h⟩ := rf_g_some h
              obtain ⟨y10, m10, q11, h⟩ := rf_b_some h
              have e11 : fr S_X14_level m m10 := fr_trans (fr_i (fr_i (fr_i (fr_i e8 (fr_c_in (by decide) _)) (fr_c_in (by decide) _)) (fr_c_in (by decide) _)) (by decide)) (fr_mono (fg_X14_done q11) (by decide))
              obtain rfl := Option.some.inj h
              exact e11
def S_X14_meanUp : fr_S := []
theorem fg_X14_meanUp_55 {w : rf_w} {rec8 : Int32 → Int32 → Int32 → Int32 → Int32 → rf_m → Option (Int32 × rf_m)} {a1 : Int32} {a2 : Int32} {a3 : Int32} {a4 : Int32} {a5 : Int32} {m : rf_m} (hr_rec8 : ∀ {x0 : Int32} {x1 : Int32} {x2 : Int32} {x3 : Int32} {x4 : Int32} {m : rf_m} {r : (Int32 × rf_m)}, rec8 x0 x1 x2 x3 x4 m = some r → fr S_X14_meanUp m r.2) {r : (Int32 × rf_m)} (h : g_X14_meanUp_55 w rec8 a1 a2 a3 a4 a5 m = some r) : fr S_X14_meanUp m r.2 := by
  unfold g_X14_meanUp_55 at h
  exact fr_trans ((fr_refl _ m)) (hr_rec8 h)
theorem fg_X14_meanUp_8_b {w : rf_w} {rec8 : Int32 → Int32 → Int32 → Int32 → Int32 → rf_m → Option (Int32 × rf_m)} {a1 : Int32} {a2 : Int32} {a3 : Int32} {a4 : Int32} {a5 : Int32} {m : rf_m} (hr_rec8 : ∀ {x0 : Int32} {x1 : Int32} {x2 : Int32} {x3 : Int32} {x4 : Int32} {m : rf_m} {r : (Int32 × rf_m)}, rec8 x0 x1 x2 x3 x4 m = some r → fr S_X14_meanUp m r.2) {r : (Int32 × rf_m)} (h : g_X14_meanUp_8_b w rec8 a1 a2 a3 a4 a5 m = some r) : fr S_X14_meanUp m r.2 := by
  unfold g_X14_meanUp_8_b at h
  rcases rf_ite_some h with ⟨_, h⟩ | ⟨_, h⟩
  · rcases rf_ite_some h with ⟨_, h⟩ | ⟨_, h⟩
    · obtain rfl := Option.some.inj h
      exact (fr_refl _ m)
    · obtain ⟨y0, m0, q1, h⟩ := rf_b_some h
      have e1 : fr S_X14_meanUp m m0 := fr_trans ((fr_refl _ m)) (fr_mono (fg_X14_down q1) (by decide))
      obtain rfl := Option.some.inj h
      exact e1
  · obtain ⟨_, h⟩ := rf_g_some h
    rcases rf_ite_some h with ⟨_, h⟩ | ⟨_, h⟩
    · obtain ⟨_, h⟩ := rf_g_some h
      rcases rf_ite_some h with ⟨_, h⟩ | ⟨_, h⟩
      · obtain ⟨_, h⟩ := rf_g_some h
        have h := fr_vi h
        exact fr_trans ((fr_refl _ m)) (fr_mono (fg_X14_meanUp_55 hr_rec8 h) (by decide))
      · exact fr_trans ((fr_refl _ m)) (fr_mono (fg_X14_meanUp_55 hr_rec8 h) (by decide))
    · exact fr_trans ((fr_refl _ m)) (fr_mono (fg_X14_meanUp_55 hr_rec8 h) (by decide))
theorem fg_X14_meanUp_8 {w : rf_w} (n : Nat) : ∀ {a1 : Int32} {a2 : Int32} {a3 : Int32} {a4 : Int32} {a5 : Int32} {m : rf_m} {r : (Int32 × rf_m)}, g_X14_meanUp_8 w n a1 a2 a3 a4 a5 m = some r → fr S_X14_meanUp m r.2 := by
  induction n with
  | zero => intro a1 a2 a3 a4 a5 m r h; cases h
  | succ n ih =>
    intro a1 a2 a3 a4 a5 m r h
    exact fg_X14_meanUp_8_b ih h
theorem fg_X14_meanUp {w : rf_w} {m : rf_m} {a1 : Int32} {a2 : Int32} {r : (Int32 × rf_m)} (h : g_X14_meanUp w m a1 a2 = some r) : fr S_X14_meanUp m r.2 := by
  unfold g_X14_meanUp at h
  exact fr_trans ((fr_refl _ m)) (fr_mono (fg_X14_meanUp_8 _ h) (by decide))
def S_X14_isLevelled : fr_S := [(206, 206, some 139), (206, 206, some 140)]
theorem fg_X14_isLevelled_111 {w : rf_w} {a5 : Int32} {a6 : Int32} {s1 : Int32} {m : rf_m} {r : (Int32 × rf_m)} (h : g_X14_isLevelled_111 w a5 a6 s1 m = some r) : fr S_X14_isLevelled m r.2 := by
  unfold g_X14_isLevelled_111 at h
  rcases rf_ite_some h with ⟨_, h⟩ | ⟨_, h⟩
  · obtain ⟨y0, m0, q1, h⟩ := rf_b_some h
    have e1 : fr S_X14_isLevelled m m0 := fr_trans (fr_i ((fr_refl _ m)) (by decide)) (fr_mono (fg_abs q1) (by decide))
    obtain rfl := Option.some.inj h
    exact fr_i e1 (by decide)
  · rcases rf_ite_some h with ⟨_, h⟩ | ⟨_, h⟩
    · obtain ⟨y1, m1, q2, h⟩ := rf_b_some h
      have e2 : fr S_X14_isLevelled m m1 := fr_trans (fr_i ((fr_refl _ m)) (by decide)) (fr_mono (fg_abs q2) (by decide))
      obtain rfl := Option.some.inj h
      exact fr_i e2 (by decide)
    · obtain rfl := Option.some.inj h
      exact fr_i (fr_i ((fr_refl _ m)) (by decide)) (by decide)
theorem fg_X14_isLevelled_99 {w : rf_w} {a3 : Int32} {a4 : Int32} {a5 : Int32} {a6 : Int32} {m : rf_m} {r : (Int32 × rf_m)} (h : g_X14_isLevelled_99 w a3 a4 a5 a6 m = some r) : fr S_X14_isLevelled m r.2 := by
  unfold g_X14_isLevelled_99 at h
  rcases rf_ite_some h with ⟨_, h⟩ | ⟨_, h⟩
  · exact fr_trans ((fr_refl _ m)) (fr_mono (fg_X14_isLevelled_111 h) (by decide))
  · exact fr_trans ((fr_refl _ m)) (fr_mono (fg_X14_isLevelled_111 h) (by decide))
theorem fg_X14_isLevelled_79 {w : rf_w} {a3 : Int32} {a4 : Int32} {a5 : Int32} {a6 : Int32} {m : rf_m} {r : (Int32 × rf_m)} (h : g_X14_isLevelled_79 w a3 a4 a5 a6 m = some r) : fr S_X14_isLevelled m r.2 := by
  unfold g_X14_isLevelled_79 at h
  rcases rf_ite_some h with ⟨_, h⟩ | ⟨_, h⟩
  · exact fr_trans ((fr_refl _ m)) (fr_mono (fg_X14_isLevelled_99 h) (by decide))
  · rcases rf_ite_some h with ⟨_, h⟩ | ⟨_, h⟩
    · exact fr_trans ((fr_refl _ m)) (fr_mono (fg_X14_isLevelled_99 h) (by decide))
    · exact fr_trans ((fr_refl _ m)) (fr_mono (fg_X14_isLevelled_111 h) (by decide))
theorem fg_X14_isLevelled_65 {w : rf_w} {a3 : Int32} {a4 : Int32} {a5 : Int32} {s0 : Int32} {m : rf_m} {r : (Int32 × rf_m)} (h : g_X14_isLevelled_65 w a3 a4 a5 s0 m = some r) : fr S_X14_isLevelled m r.2 := by
  unfold g_X14_isLevelled_65 at h
  rcases rf_ite_some h with ⟨_, h⟩ | ⟨_, h⟩
  · rcases rf_ite_some h with ⟨_, h⟩ | ⟨_, h⟩
    · obtain rfl := Option.some.inj h
      exact (fr_refl _ m)
    · exact fr_trans ((fr_refl _ m)) (fr_mono (fg_X14_isLevelled_79 h) (by decide))
  · exact fr_trans ((fr_refl _ m)) (fr_mono (fg_X14_isLevelled_79 h) (by decide))
theorem fg_X14_isLevelled_50 {w : rf_w} {a3 : Int32} {a4 : Int32} {s0 : Int32} {m : rf_m} {r : (Int32 × rf_m)} (h : g_X14_isLevelled_50 w a3 a4 s0 m = some r) : fr S_X14_isLevelled m r.2 := by
  unfold g_X14_isLevelled_50 at h
  rcases rf_ite_some h with ⟨_, h⟩ | ⟨_, h⟩
  · exact fr_trans ((fr_refl _ m)) (fr_mono (fg_X14_isLevelled_65 h) (by decide))
  · exact fr_trans ((fr_refl _ m)) (fr_mono (fg_X14_isLevelled_65 h) (by decide))
theorem fg_X14_isLevelled {w : rf_w} {m : rf_m} {a1 : Int32} {a2 : Int32} {r : (Int32 × rf_m)} (h : g_X14_isLevelled w m a1 a2 = some r) : fr S_X14_isLevelled m r.2 := by
  unfold g_X14_isLevelled at h
  obtain ⟨y0, m0, q1, h⟩ := rf_b_some h
  have e1 : fr S_X14_isLevelled m m0 := fr_trans ((fr_refl _ m)) (fr_mono (fg_X14_isMark q1) (by decide))
  rcases rf_ite_some h with ⟨_, h⟩ | ⟨_, h⟩
  · obtain rfl := Option.some.inj h
    exact e1
  · obtain ⟨y1, m1, q2, h⟩ := rf_b_some h
    have e2 : fr S_X14_isLevelled m m1 := fr_trans e1 (fr_mono (fg_X14_isMark q2) (by decide))
    rcases rf_ite_some h with ⟨_, h⟩ | ⟨_, h⟩
    · obtain rfl := Option.some.inj h
      exact e2
    · rcases rf_ite_some h with ⟨_, h⟩ | ⟨_, h⟩
      · obtain rfl := Option.some.inj h
        exact e2
      · obtain ⟨y2, m2, q3, h⟩ := rf_b_some h
        have e3 : fr S_X14_isLevelled m m2 := fr_trans e2 (fr_mono (fg_X14_meanUp q3) (by decide))
        obtain ⟨y3, m3, q4, h⟩ := rf_b_some h
        have e4 : fr S_X14_isLevelled m m3 := fr_trans e3 (fr_mono (fg_X14_meanUp q4) (by decide))
        rcases rf_ite_some h with ⟨_, h⟩ | ⟨_, h⟩
        · exact fr_trans e4 (fr_mono (fg_X14_isLevelled_50 h) (by decide))
        · exact fr_trans e4 (fr_mono (fg_X14_isLevelled_50 h) (by decide))
def S_X14_between : fr_S := [(206, 206, some 0), (206, 206, some 139), (206, 206, some 140)]
theorem fg_X14_between {w : rf_w} {m : rf_m} {a1 : Int32} {a2 : Int32} {r : (Int32 × rf_m)} (h : g_X14_between w m a1 a2 = some r) : fr S_X14_between m r.2 := by
  unfold g_X14_between at h
  obtain ⟨y0, m0, q1, h⟩ := rf_b_some h
  have e1 : fr S_X14_between m m0 := fr_trans (fr_i ((fr_refl _ m)) (by decide)) (fr_mono (fg_X14_isLevelled q1) (by decide))
  rcases rf_ite_some h with ⟨_, h⟩ | ⟨_, h⟩
  · obtain rfl := Option.some.inj h
    exact e1
  · obtain rfl := Option.some.inj h
    exact e1
def S_X14_doubt : fr_S := [(206, 206, some 0), (206, 206, some 139), (206, 206, some 140)]
theorem fg_X14_doubt {w : rf_w} {m : rf_m} {a1 : Int32} {a2 : Int32} {r : (Int32 × rf_m)} (h : g_X14_doubt w m a1 a2 = some r) : fr S_X14_doubt m r.2 := by
  unfold g_X14_doubt at h
  obtain ⟨y0, m0, q1, h⟩ := rf_b_some h
  have e1 : fr S_X14_doubt m m0 := fr_trans (fr_i ((fr_refl _ m)) (by decide)) (fr_mono (fg_X14_isLevelled q1) (by decide))
  rcases rf_ite_some h with ⟨_, h⟩ | ⟨_, h⟩
  · obtain rfl := Option.some.inj h
    exact e1
  · obtain rfl := Option.some.inj h
    exact e1
def S_X14_mass : fr_S := [(206, 206, some 0), (206, 206, some 1), (206, 206, some 2), (206, 206, some 137), (301, 301, none), (302, 302, none)]
theorem fg_X14_mass {w : rf_w} {m : rf_m} {a1 : Int32} {a2 : Int32} {r : (Int32 × rf_m)} (h : g_X14_mass w m a1 a2 = some r) : fr S_X14_mass m r.2 := by
  unfold g_X14_mass at h
  obtain ⟨y0, m0, q1, h⟩ := rf_b_some h
  have e1 : fr S_X14_mass m m0 := fr_trans (fr_i ((fr_refl _ m)) (by decide)) (fr_mono (fg_X14_isCell q1) (by decide))
  rcases rf_ite_some h with ⟨_, h⟩ | ⟨_, h⟩
  · obtain ⟨y7, m7, q2, h⟩ := rf_b_some h
    have e2 : fr S_X14_mass m m7 := fr_trans e1 (fr_mono (fg_X14_refused q2) (by decide))
    obtain rfl := Option.some.inj h
    exact e2
  · obtain ⟨y1, m1, q3, h⟩ := rf_b_some h
    have e3 : fr S_X14_mass m m1 := fr_trans e1 (fr_mono (fg_X14_in q3) (by decide))
    rcases rf_ite_some h with ⟨_, h⟩ | ⟨_, h⟩
    · obtain ⟨y6, m6, q4, h⟩ := rf_b_some h
      have e4 : fr S_X14_mass m m6 := fr_trans e3 (fr_mono (fg_X14_refused q4) (by decide))
      obtain rfl := Option.some.inj h
      exact e4
    · rcases rf_ite_some h with ⟨_, h⟩ | ⟨_, h⟩
      · obtain ⟨y5, m5, q5, h⟩ := rf_b_some h
        have e5 : fr S_X14_mass m m5 := fr_trans e3 (fr_mono (fg_X14_refused q5) (by decide))
        obtain rfl := Option.some.inj h
        exact e5
      · obtain ⟨_, h⟩ := rf_g_some h
        obtain ⟨_, h⟩ := rf_g_some h
        obtain ⟨y4, m4, q6, h⟩ := rf_b_some h
        have e6 : fr S_X14_mass m m4 := fr_trans (fr_i (fr_i (fr_i e3 (fr_c_in (by decide) _)) (fr_c_in (by decide) _)) (by decide)) (fr_mono (fg_X14_done q6) (by decide))
        obtain rfl := Option.some.inj h
        exact e6
def S_X14_pull : fr_S := [(206, 206, some 0)]
theorem fg_X14_pull_122 {w : rf_w} {rec22 : Int32 → Int32 → Int32 → Int32 → rf_m → Option (Int32 × rf_m)} {a1 : Int32} {a2 : Int32} {a3 : Int32} {a4 : Int32} {m : rf_m} (hr_rec22 : ∀ {x0 : Int32} {x1 : Int32} {x2 : Int32} {x3 : Int32} {m : rf_m} {r : (Int32 × rf_m)}, rec22 x0 x1 x2 x3 m = some r → fr S_X14_pull m r.2) {r : (Int32 × rf_m)} (h : g_X14_pull_122 w rec22 a1 a2 a3 a4 m = some r) : fr S_X14_pull m r.2 := by
  unfold g_X14_pull_122 at h
  exact fr_trans ((fr_refl _ m)) (hr_rec22 h)
theorem fg_X14_pull_107 {w : rf_w} {rec22 : Int32 → Int32 → Int32 → Int32 → rf_m → Option (Int32 × rf_m)} {a1 : Int32} {a2 : Int32} {a4 : Int32} {a5 : Int32} {a6 : Int32} {s0 : Int32} {s1 : Int32} {s2 : Int32} {m : rf_m} (hr_rec22 : ∀ {x0 : Int32} {x1 : Int32} {x2 : Int32} {x3 : Int32} {m : rf_m} {r : (Int32 × rf_m)}, rec22 x0 x1 x2 x3 m = some r → fr S_X14_pull m r.2) {r : (Int32 × rf_m)} (h : g_X14_pull_107 w rec22 a1 a2 a4 a5 a6 s0 s1 s2 m = some r) : fr S_X14_pull m r.2 := by
  unfold g_X14_pull_107 at h
  obtain ⟨_, h⟩ := rf_g_some h
  have h := fr_vi h
  exact fr_trans ((fr_refl _ m)) (fr_mono (fg_X14_pull_122 hr_rec22 h) (by decide))
theorem fg_X14_pull_88 {w : rf_w} {rec22 : Int32 → Int32 → Int32 → Int32 → rf_m → Option (Int32 × rf_m)} {a1 : Int32} {a2 : Int32} {a3 : Int32} {a4 : Int32} {a5 : Int32} {a6 : Int32} {m : rf_m} (hr_rec22 : ∀ {x0 : Int32} {x1 : Int32} {x2 : Int32} {x3 : Int32} {m : rf_m} {r : (Int32 × rf_m)}, rec22 x0 x1 x2 x3 m = some r → fr S_X14_pull m r.2) {r : (Int32 × rf_m)} (h : g_X14_pull_88 w rec22 a1 a2 a3 a4 a5 a6 m = some r) : fr S_X14_pull m r.2 := by
  unfold g_X14_pull_88 at h
  obtain ⟨_, h⟩ := rf_g_some h
  rcases rf_ite_some h with ⟨_, h⟩ | ⟨_, h⟩
  · exact fr_trans ((fr_refl _ m)) (fr_mono (fg_X14_pull_107 hr_rec22 h) (by decide))
  · exact fr_trans ((fr_refl _ m)) (fr_mono (fg_X14_pull_107 hr_rec22 h) (by decide))
theorem fg_X14_pull_22_b {w : rf_w} {rec22 : Int32 → Int32 → Int32 → Int32 → rf_m → Option (Int32 × rf_m)} {a1 : Int32} {a2 : Int32} {a3 : Int32} {a4 : Int32} {m : rf_m} (hr_rec22 : ∀ {x0 : Int32} {x1 : Int32} {x2 : Int32} {x3 : Int32} {m : rf_m} {r : (Int32 × rf_m)}, rec22 x0 x1 x2 x3 m = some r → fr S_X14_pull m r.2) {r : (Int32 × rf_m)} (h : g_X14_pull_22_b w rec22 a1 a2 a3 a4 m = some r) : fr S_X14_pull m r.2 := by
  unfold g_X14_pull_22_b at h
  rcases rf_ite_some h with ⟨_, h⟩ | ⟨_, h⟩
  · obtain rfl := Option.some.inj h
    exact (fr_refl _ m)
  · obtain ⟨_, h⟩ := rf_g_some h
    obtain ⟨_, h⟩ := rf_g_some h
    have h := fr_vi h
    obtain ⟨_, h⟩ := rf_g_some h
    obtain ⟨_, h⟩ := rf_g_some h
    have h := fr_vi h
    rcases rf_ite_some h with ⟨_, h⟩ | ⟨_, h⟩
    · rcases rf_ite_some h with ⟨_, h⟩ | ⟨_, h⟩
      · exact fr_trans ((fr_refl _ m)) (fr_mono (fg_X14_pull_122 hr_rec22 h) (by decide))
      · exact fr_trans ((fr_refl _ m)) (fr_mono (fg_X14_pull_88 hr_rec22 h) (by decide))
    · exact fr_trans ((fr_refl _ m)) (fr_mono (fg_X14_pull_88 hr_rec22 h) (by decide))
theorem fg_X14_pull_22 {w : rf_w} (n : Nat) : ∀ {a1 : Int32} {a2 : Int32} {a3 : Int32} {a4 : Int32} {m : rf_m} {r : (Int32 × rf_m)}, g_X14_pull_22 w n a1 a2 a3 a4 m = some r → fr S_X14_pull m r.2 := by
  induction n with
  | zero => intro a1 a2 a3 a4 m r h; cases h
  | succ n ih =>
    intro a1 a2 a3 a4 m r h
    exact fg_X14_pull_22_b ih h
theorem fg_X14_pull {w : rf_w} {m : rf_m} {a1 : Int32} {a2 : Int32} {r : (Int32 × rf_m)} (h : g_X14_pull w m a1 a2 = some r) : fr S_X14_pull m r.2 := by
  unfold g_X14_pull at h
  obtain ⟨y0, m0, q1, h⟩ := rf_b_some h
  have e1 : fr S_X14_pull m m0 := fr_trans (fr_i ((fr_refl _ m)) (by decide)) (fr_mono (fg_X14_isMark q1) (by decide))
  rcases rf_ite_some h with ⟨_, h⟩ | ⟨_, h⟩
  · obtain rfl := Option.some.inj h
    exact e1
  · exact fr_trans e1 (fr_mono (fg_X14_pull_22 _ h) (by decide))
def S_X14_arc : fr_S := [(206, 206, some 0), (206, 206, some 1), (206, 206, some 2), (206, 206, some 138), (303, 303, none), (304, 304, none)]
theorem fg_X14_arc {w : rf_w} {m : rf_m} {a1 : Int32} {a2 : Int32} {r : (Int32 × rf_m)} (h : g_X14_arc w m a1 a2 = some r) : fr S_X14_arc m r.2 := by
  unfold g_X14_arc at h
  obtain ⟨y0, m0, q1, h⟩ := rf_b_some h
  have e1 : fr S_X14_arc m m0 := fr_trans (fr_i ((fr_refl _ m)) (by decide)) (fr_mono (fg_X14_in q1) (by decide))
  rcases rf_ite_some h with ⟨_, h⟩ | ⟨_, h⟩
  · obtain ⟨y1, m1, q2, h⟩ := rf_b_some h
    have e2 : fr S_X14_arc m m1 := fr_trans e1 (fr_mono (fg_X14_refused q2) (by decide))
    obtain rfl := Option.some.inj h
    exact e2
  · obtain ⟨y2, m2, q3, h⟩ := rf_b_some h
    have e3 : fr S_X14_arc m m2 := fr_trans e1 (fr_mono (fg_X14_in q3) (by decide))
    rcases rf_ite_some h with ⟨_, h⟩ | ⟨_, h⟩
    · obtain ⟨y7, m7, q4, h⟩ := rf_b_some h
      have e4 : fr S_X14_arc m m7 := fr_trans e3 (fr_mono (fg_X14_refused q4) (by decide))
      obtain rfl := Option.some.inj h
      exact e4
    · rcases rf_ite_some h with ⟨_, h⟩ | ⟨_, h⟩
      · obtain ⟨y6, m6, q5, h⟩ := rf_b_some h
        have e5 : fr S_X14_arc m m6 := fr_trans e3 (fr_mono (fg_X14_refused q5) (by decide))
        obtain rfl := Option.some.inj h
        exact e5
      · obtain ⟨_, h⟩ := rf_g_some h
        obtain ⟨_, h⟩ := rf_g_some h
        obtain ⟨y5, m5, q6, h⟩ := rf_b_some h
        have e6 : fr S_X14_arc m m5 := fr_trans (fr_i (fr_i (fr_i e3 (fr_c_in (by decide) _)) (fr_c_in (by decide) _)) (by decide)) (fr_mono (fg_X14_done q6) (by decide))
        obtain rfl := Option.some.inj h
        exact e6
def S_X14_figure : fr_S := [(206, 206, some 0)]
theorem fg_X14_figure_19_b {w : rf_w} {rec19 : Int32 → Int64 → Int64 → Int64 → Int64 → Int32 → rf_m → Option (Int64 × rf_m)} {a1 : Int32} {a2 : Int64} {a4 : Int64} {a6 : Int64} {a8 : Int64} {a10 : Int32} {m : rf_m} (hr_rec19 : ∀ {x0 : Int32} {x1 : Int64} {x2 : Int64} {x3 : Int64} {x4 : Int64} {x5 : Int32} {m : rf_m} {r : (Int64 × rf_m)}, rec19 x0 x1 x2 x3 x4 x5 m = some r → fr S_X14_figure m r.2) {r : (Int64 × rf_m)} (h : g_X14_figure_19_b w rec19 a1 a2 a4 a6 a8 a10 m = some r) : fr S_X14_figure m r.2 := by
  unfold g_X14_figure_19_b at h
  rcases rf_ite_some h with ⟨_, h⟩ | ⟨_, h⟩
  · have h := fr_vl h
    rcases rf_ite_some h with ⟨_, h⟩ | ⟨_, h⟩
    · obtain rfl := Option.some.inj h
      exact (fr_refl _ m)
    · rcases rf_ite_some h with ⟨_, h⟩ | ⟨_, h⟩
      · obtain ⟨y1, m1, q1, h⟩ := rf_b_some h
        have e1 : fr S_X14_figure m m1 := fr_trans ((fr_refl _ m)) (fr_mono (fg_X14_downLong q1) (by decide))
        obtain rfl := Option.some.inj h
        exact e1
      · obtain ⟨y2, m2, q2, h⟩ := rf_b_some h
        have e2 : fr S_X14_figure m m2 := fr_trans ((fr_refl _ m)) (fr_mono (fg_X14_downLong q2) (by decide))
        obtain rfl := Option.some.inj h
        exact e2
  · obtain ⟨_, h⟩ := rf_g_some h
    have h := fr_vl h
    obtain ⟨_, h⟩ := rf_g_some h
    have h := fr_vl h
    obtain ⟨_, h⟩ := rf_g_some h
    obtain ⟨_, h⟩ := rf_g_some h
    have h := fr_vl h
    obtain ⟨_, h⟩ := rf_g_some h
    obtain ⟨_, h⟩ := rf_g_some h
    have h := fr_vl h
    exact fr_trans ((fr_refl _ m)) (hr_rec19 h)
theorem fg_X14_figure_19 {w : rf_w} (n : Nat) : ∀ {a1 : Int32} {a2 : Int64} {a4 : Int64} {a6 : Int64} {a8 : Int64} {a10 : Int32} {m : rf_m} {r : (Int64 × rf_m)}, g_X14_figure_19 w n a1 a2 a4 a6 a8 a10 m = some r → fr S_X14_figure m r.2 := by
  induction n with
  | zero => intro a1 a2 a4 a6 a8 a10 m r h; cases h
  | succ n ih =>
    intro a1 a2 a4 a6 a8 a10 m r h
    exact fg_X14_figure_19_b ih h
theorem fg_X14_figure {w : rf_w} {m : rf_m} {a1 : Int32} {r : (Int64 × rf_m)} (h : g_X14_figure w m a1 = some r) : fr S_X14_figure m r.2 := by
  unfold g_X14_figure at h
  exact fr_trans (fr_i ((fr_refl _ m)) (by decide)) (fr_mono (fg_X14_figure_19 _ h) (by decide))
def S_X14_pass : fr_S := [(206, 206, some 0), (206, 206, some 1), (206, 206, some 2), (206, 206, some 5)]
theorem fg_X14_pass {w : rf_w} {m : rf_m} {a1 : Int32} {r : (Int32 × rf_m)} (h : g_X14_pass w m a1 = some r) : fr S_X14_pass m r.2 := by
  unfold g_X14_pass at h
  obtain ⟨y0, m0, q1, h⟩ := rf_b_some h
  have e1 : fr S_X14_pass m m0 := fr_trans (fr_i ((fr_refl _ m)) (by decide)) (fr_mono (fg_X14_in q1) (by decide))
  rcases rf_ite_some h with ⟨_, h⟩ | ⟨_, h⟩
  · obtain ⟨y1, m1, q2, h⟩ := rf_b_some h
    have e2 : fr S_X14_pass m m1 := fr_trans e1 (fr_mono (fg_X14_refused q2) (by decide))
    obtain rfl := Option.some.inj h
    exact e2
  · rcases rf_ite_some h with ⟨_, h⟩ | ⟨_, h⟩
    · obtain ⟨y2, m2, q3, h⟩ := rf_b_some h
      have e3 : fr S_X14_pass m m2 := fr_trans (fr_i e1 (by decide)) (fr_mono (fg_X14_done q3) (by decide))
      obtain rfl := Option.some.inj h
      exact e3
    · obtain ⟨y3, m3, q4, h⟩ := rf_b_some h
      have e4 : fr S_X14_pass m m3 := fr_trans e1 (fr_mono (fg_X14_refused q4) (by decide))
      obtain rfl := Option.some.inj h
      exact e4
def S_X14_count : fr_S := [(206, 206, some 0), (206, 206, some 33), (206, 206, some 34), (206, 206, some 35), (206, 206, some 36), (206, 206, some 37), (206, 206, some 38), (226, 226, none), (227, 227, none), (228, 228, none), (235, 235, none)]
theorem fg_X14_count_167 {w : rf_w} {rec145 : Int32 → Int32 → rf_m → Option (Int32 × rf_m)} {a3 : Int32} {s0 : Int32} {s1 : Int32} {m : rf_m} (hr_rec145 : ∀ {x0 : Int32} {x1 : Int32} {m : rf_m} {r : (Int32 × rf_m)}, rec145 x0 x1 m = some r → fr S_X14_count m r.2) {r : (Int32 × rf_m)} (h : g_X14_count_167 w rec145 a3 s0 s1 m = some r) : fr S_X14_count m r.2 := by
  unfold g_X14_count_167 at h
  exact fr_trans ((fr_refl _ m)) (hr_rec145 h)
theorem fg_X14_count_145_b {w : rf_w} {rec145 : Int32 → Int32 → rf_m → Option (Int32 × rf_m)} {a2 : Int32} {a3 : Int32} {m : rf_m} (hr_rec145 : ∀ {x0 : Int32} {x1 : Int32} {m : rf_m} {r : (Int32 × rf_m)}, rec145 x0 x1 m = some r → fr S_X14_count m r.2) {r : (Int32 × rf_m)} (h : g_X14_count_145_b w rec145 a2 a3 m = some r) : fr S_X14_count m r.2 := by
  unfold g_X14_count_145_b at h
  rcases rf_ite_some h with ⟨_, h⟩ | ⟨_, h⟩
  · obtain rfl := Option.some.inj h
    exact (fr_refl _ m)
  · obtain ⟨y0, m0, q1, h⟩ := rf_b_some h
    have e1 : fr S_X14_count m m0 := fr_trans ((fr_refl _ m)) (fr_mono (fg_X14_isAgain q1) (by decide))
    rcases rf_ite_some h with ⟨_, h⟩ | ⟨_, h⟩
    · exact fr_trans e1 (fr_mono (fg_X14_count_167 hr_rec145 h) (by decide))
    · exact fr_trans e1 (fr_mono (fg_X14_count_167 hr_rec145 h) (by decide))
theorem fg_X14_count_145 {w : rf_w} (n : Nat) : ∀ {a2 : Int32} {a3 : Int32} {m : rf_m} {r : (Int32 × rf_m)}, g_X14_count_145 w n a2 a3 m = some r → fr S_X14_count m r.2 := by
  induction n with
  | zero => intro a2 a3 m r h; cases h
  | succ n ih =>
    intro a2 a3 m r h
    exact fg_X14_count_145_b ih h
theorem fg_X14_count {w : rf_w} {m : rf_m} {a1 : Int32} {r : (Int32 × rf_m)} (h : g_X14_count w m a1 = some r) : fr S_X14_count m r.2 := by
  unfold g_X14_count at h
  rcases rf_ite_some h with ⟨_, h⟩ | ⟨_, h⟩
  · obtain rfl := Option.some.inj h
    exact fr_i ((fr_refl _ m)) (by decide)
  · rcases rf_ite_some h with ⟨_, h⟩ | ⟨_, h⟩
    · obtain rfl := Option.some.inj h
      exact fr_i ((fr_refl _ m)) (by decide)
    · rcases rf_ite_some h with ⟨_, h⟩ | ⟨_, h⟩
      · obtain rfl := Option.some.inj h
        exact fr_i ((fr_refl _ m)) (by decide)
      · rcases rf_ite_some h with ⟨_, h⟩ | ⟨_, h⟩
        · obtain rfl := Option.some.inj h
          exact fr_i ((fr_refl _ m)) (by decide)
        · rcases rf_ite_some h with ⟨_, h⟩ | ⟨_, h⟩
          · obtain rfl := Option.some.inj h
            exact fr_i ((fr_refl _ m)) (by decide)
          · rcases rf_ite_some h with ⟨_, h⟩ | ⟨_, h⟩
            · obtain rfl := Option.some.inj h
              exact fr_i ((fr_refl _ m)) (by decide)
            · rcases rf_ite_some h with ⟨_, h⟩ | ⟨_, h⟩
              · obtain rfl := Option.some.inj h
                exact fr_i ((fr_refl _ m)) (by decide)
              · rcases rf_ite_some h with ⟨_, h⟩ | ⟨_, h⟩
                · obtain rfl := Option.some.inj h
                  exact fr_i ((fr_refl _ m)) (by decide)
                · rcases rf_ite_some h with ⟨_, h⟩ | ⟨_, h⟩
                  · obtain rfl := Option.some.inj h
                    exact fr_i ((fr_refl _ m)) (by decide)
                  · rcases rf_ite_some h with ⟨_, h⟩ | ⟨_, h⟩
                    · obtain rfl := Option.some.inj h
                      exact fr_i ((fr_refl _ m)) (by decide)
                    · rcases rf_ite_some h with ⟨_, h⟩ | ⟨_, h⟩
                      · obtain rfl := Option.some.inj h
                        exact fr_i ((fr_refl _ m)) (by decide)
                      · rcases rf_ite_some h with ⟨_, h⟩ | ⟨_, h⟩
                        · obtain rfl := Option.some.inj h
                          exact fr_i ((fr_refl _ m)) (by decide)
                        · rcases rf_ite_some h with ⟨_, h⟩ | ⟨_, h⟩
                          · obtain rfl := Option.some.inj h
                            exact fr_i ((fr_refl _ m)) (by decide)
                          · rcases rf_ite_some h with ⟨_, h⟩ | ⟨_, h⟩
                            · exact fr_trans (fr_i ((fr_refl _ m)) (by decide)) (fr_mono (fg_X14_count_145 _ h) (by decide))
                            · obtain rfl := Option.some.inj h
                              exact fr_i ((fr_refl _ m)) (by decide)
def S_X14_trouble : fr_S := [(206, 206, some 0)]
theorem fg_X14_trouble {w : rf_w} {m : rf_m} {r : (Int32 × rf_m)} (h : g_X14_trouble w m = some r) : fr S_X14_trouble m r.2 := by
  unfold g_X14_trouble at h
  obtain rfl := Option.some.inj h
  exact fr_i ((fr_refl _ m)) (by decide)
def S_J0_checkIndex : fr_S := []
theorem fg_J0_checkIndex {w : rf_w} {m : rf_m} {a0 : Int32} {a1 : Int32} {r : rf_m} (h : g_J0_checkIndex w m a0 a1 = some r) : fr S_J0_checkIndex m r := by
  unfold g_J0_checkIndex at h
  rcases rf_ite_some h with ⟨_, h⟩ | ⟨_, h⟩
  · cases h
  · rcases rf_ite_some h with ⟨_, h⟩ | ⟨_, h⟩
    · obtain rfl := Option.some.inj h
      exact (fr_refl _ m)
    · cases h
def S_J0_isLatin1_aae02 : fr_S := []
theorem fg_J0_isLatin1_aae02 {w : rf_w} {m : rf_m} {a0 : Nat} {r : (Int32 × rf_m)} (h : g_J0_isLatin1_aae02 w m a0 = some r) : fr S_J0_isLatin1_aae02 m r.2 := by
  unfold g_J0_isLatin1_aae02 at h
  obtain ⟨_, h⟩ := rf_g_some h
  obtain rfl := Option.some.inj h
  exact (fr_refl _ m)
def S_J0_coder_7d493 : fr_S := []
theorem fg_J0_coder_7d493 {w : rf_w} {m : rf_m} {a0 : Nat} {r : (Int32 × rf_m)} (h : g_J0_coder_7d493 w m a0 = some r) : fr S_J0_coder_7d493 m r.2 := by
  unfold g_J0_coder_7d493 at h
  obtain ⟨_, h⟩ := rf_g_some h
  obtain rfl := Option.some.inj h
  exact (fr_refl _ m)
def S_J0_length_8abf5 : fr_S := []
theorem fg_J0_length_8abf5 {w : rf_w} {m : rf_m} {a0 : Nat} {r : (Int32 × rf_m)} (h : g_J0_length_8abf5 w m a0 = some r) : fr S_J0_length_8abf5 m r.2 := by
  unfold g_J0_length_8abf5 at h
  obtain ⟨_, h⟩ := rf_g_some h
  obtain ⟨y1, m1, q1, h⟩ := rf_b_some h
  have e1 : fr S_J0_length_8abf5 m m1 := fr_trans ((fr_refl _ m)) (fr_mono (fg_J0_coder_7d493 q1) (by decide))
  obtain rfl := Option.some.inj h
  exact e1
def S_J1_canEncode_9a6ad : fr_S := []
theorem fg_J1_canEncode_9a6ad {w : rf_w} {m : rf_m} {a0 : Int32} {r : (Int32 × rf_m)} (h : g_J1_canEncode_9a6ad w m a0 = some r) : fr S_J1_canEncode_9a6ad m r.2 := by
  unfold g_J1_canEncode_9a6ad at h
  rcases rf_ite_some h with ⟨_, h⟩ | ⟨_, h⟩
  · obtain rfl := Option.some.inj h
    exact (fr_refl _ m)
  · rcases rf_ite_some h with ⟨_, h⟩ | ⟨_, h⟩
    · obtain rfl := Option.some.inj h
      exact (fr_refl _ m)
    · obtain rfl := Option.some.inj h
      exact (fr_refl _ m)
def S_J1_indexOfChar_4cfef : fr_S := []
theorem fg_J1_indexOfChar_4cfef_7_b {w : rf_w} {rec7 : Nat → Int32 → Int32 → Int32 → rf_m → Option (Int32 × rf_m)} {a0 : Nat} {a3 : Int32} {a4 : Int32} {a5 : Int32} {m : rf_m} (hr_rec7 : ∀ {x0 : Nat} {x1 : Int32} {x2 : Int32} {x3 : Int32} {m : rf_m} {r : (Int32 × rf_m)}, rec7 x0 x1 x2 x3 m = some r → fr S_J1_indexOfChar_4cfef m r.2) {r : (Int32 × rf_m)} (h : g_J1_indexOfChar_4cfef_7_b w rec7 a0 a3 a4 a5 m = some r) : fr S_J1_indexOfChar_4cfef m r.2 := by
  unfold g_J1_indexOfChar_4cfef_7_b at h
  obtain ⟨_, h⟩ := rf_g_some h
  rcases rf_ite_some h with ⟨_, h⟩ | ⟨_, h⟩
  · obtain rfl := Option.some.inj h
    exact (fr_refl _ m)
  · obtain ⟨_, h⟩ := rf_g_some h
    rcases rf_ite_some h with ⟨_, h⟩ | ⟨_, h⟩
    · obtain rfl := Option.some.inj h
      exact (fr_refl _ m)
    · exact fr_trans ((fr_refl _ m)) (hr_rec7 h)
theorem fg_J1_indexOfChar_4cfef_7 {w : rf_w} (n : Nat) : ∀ {a0 : Nat} {a3 : Int32} {a4 : Int32} {a5 : Int32} {m : rf_m} {r : (Int32 × rf_m)}, g_J1_indexOfChar_4cfef_7 w n a0 a3 a4 a5 m = some r → fr S_J1_indexOfChar_4cfef m r.2 := by
  induction n with
  | zero => intro a0 a3 a4 a5 m r h; cases h
  | succ n ih =>
    intro a0 a3 a4 a5 m r h
    exact fg_J1_indexOfChar_4cfef_7_b ih h
theorem fg_J1_indexOfChar_4cfef {w : rf_w} {m : rf_m} {a0 : Nat} {a1 : Int32} {a2 : Int32} {a3 : Int32} {r : (Int32 × rf_m)} (h : g_J1_indexOfChar_4cfef w m a0 a1 a2 a3 = some r) : fr S_J1_indexOfChar_4cfef m r.2 := by
  unfold g_J1_indexOfChar_4cfef at h
  obtain ⟨_, h⟩ := rf_g_some h
  have h := fr_vi h
  exact fr_trans ((fr_refl _ m)) (fr_mono (fg_J1_indexOfChar_4cfef_7 _ h) (by decide))
def S_J1_indexOf_4cfef : fr_S := []
theorem fg_J1_indexOf_4cfef {w : rf_w} {m : rf_m} {a0 : Nat} {a1 : Int32} {a2 : Int32} {a3 : Int32} {r : (Int32 × rf_m)} (h : g_J1_indexOf_4cfef w m a0 a1 a2 a3 = some r) : fr S_J1_indexOf_4cfef m r.2 := by
  unfold g_J1_indexOf_4cfef at h
  obtain ⟨_, h⟩ := rf_g_some h
  obtain ⟨y1, m1, q1, h⟩ := rf_b_some h
  have e1 : fr S_J1_indexOf_4cfef m m1 := fr_trans ((fr_refl _ m)) (fr_mono (fg_J1_canEncode_9a6ad q1) (by decide))
  rcases rf_ite_some h with ⟨_, h⟩ | ⟨_, h⟩
  · obtain rfl := Option.some.inj h
    exact e1
  · obtain ⟨y2, m2, q2, h⟩ := rf_b_some h
    have e2 : fr S_J1_indexOf_4cfef m m2 := fr_trans e1 (fr_mono (fg_max q2) (by decide))
    obtain ⟨y3, m3, q3, h⟩ := rf_b_some h
    have e3 : fr S_J1_indexOf_4cfef m m3 := fr_trans e2 (fr_mono (fg_min q3) (by decide))
    rcases rf_ite_some h with ⟨_, h⟩ | ⟨_, h⟩
    · obtain ⟨y4, m4, q4, h⟩ := rf_b_some h
      have e4 : fr S_J1_indexOf_4cfef m m4 := fr_trans e3 (fr_mono (fg_J1_indexOfChar_4cfef q4) (by decide))
      obtain rfl := Option.some.inj h
      exact e4
    · obtain rfl := Option.some.inj h
      exact e3
def S_J0_indexOf_7cf53 : fr_S := []
theorem fg_J0_indexOf_7cf53 {w : rf_w} {m : rf_m} {a0 : Nat} {a1 : Int32} {a2 : Int32} {r : (Int32 × rf_m)} (h : g_J0_indexOf_7cf53 w m a0 a1 a2 = some r) : fr S_J0_indexOf_7cf53 m r.2 := by
  unfold g_J0_indexOf_7cf53 at h
  obtain ⟨_, h⟩ := rf_g_some h
  obtain ⟨y1, m1, q1, h⟩ := rf_b_some h
  have e1 : fr S_J0_indexOf_7cf53 m m1 := fr_trans ((fr_refl _ m)) (fr_mono (fg_J0_isLatin1_aae02 q1) (by decide))
  rcases rf_ite_some h with ⟨_, h⟩ | ⟨_, h⟩
  · obtain ⟨y2, m2, q2, h⟩ := rf_b_some h
    have e2 : fr S_J0_indexOf_7cf53 m m2 := fr_trans e1 (fr_mono (fg_J0_length_8abf5 q2) (by decide))
    cases h
  · obtain ⟨y3, m3, q3, h⟩ := rf_b_some h
    have e3 : fr S_J0_indexOf_7cf53 m m3 := fr_trans e1 (fr_mono (fg_J0_length_8abf5 q3) (by decide))
    obtain ⟨y4, m4, q4, h⟩ := rf_b_some h
    have e4 : fr S_J0_indexOf_7cf53 m m4 := fr_trans e3 (fr_mono (fg_J1_indexOf_4cfef q4) (by decide))
    obtain rfl := Option.some.inj h
    exact e4
end FRL
