section FRL
theorem fg_X5_towerOn {w : rf_w} {m : rf_m} {a1 : Int32} {a2 : Int32} {r : (Int32 × rf_m)} (h : g_X5_towerOn w m a1 a2 = some r) : fr S_X5_towerOn m r.2 := by
  unfold g_X5_towerOn at h
  exact fr_trans ((fr_refl _ m)) (fr_mono (fg_X5_towerOn_7 _ h) (by decide))
def S_X5_hazeAt : fr_S := []
theorem fg_X5_hazeAt_2_b {w : rf_w} {rec2 : Int32 → Int32 → rf_m → Option (Int32 × rf_m)} {a1 : Int32} {a2 : Int32} {m : rf_m} (hr_rec2 : ∀ {x0 : Int32} {x1 : Int32} {m : rf_m} {r : (Int32 × rf_m)}, rec2 x0 x1 m = some r → fr S_X5_hazeAt m r.2) {r : (Int32 × rf_m)} (h : g_X5_hazeAt_2_b w rec2 a1 a2 m = some r) : fr S_X5_hazeAt m r.2 := by
  unfold g_X5_hazeAt_2_b at h
  rcases rf_ite_some h with ⟨_, h⟩ | ⟨_, h⟩
  · obtain rfl := Option.some.inj h
    exact (fr_refl _ m)
  · obtain ⟨_, h⟩ := rf_g_some h
    rcases rf_ite_some h with ⟨_, h⟩ | ⟨_, h⟩
    · obtain rfl := Option.some.inj h
      exact (fr_refl _ m)
    · exact fr_trans ((fr_refl _ m)) (hr_rec2 h)
theorem fg_X5_hazeAt_2 {w : rf_w} (n : Nat) : ∀ {a1 : Int32} {a2 : Int32} {m : rf_m} {r : (Int32 × rf_m)}, g_X5_hazeAt_2 w n a1 a2 m = some r → fr S_X5_hazeAt m r.2 := by
  induction n with
  | zero => intro a1 a2 m r h; cases h
  | succ n ih =>
    intro a1 a2 m r h
    exact fg_X5_hazeAt_2_b ih h
theorem fg_X5_hazeAt {w : rf_w} {m : rf_m} {a1 : Int32} {r : (Int32 × rf_m)} (h : g_X5_hazeAt w m a1 = some r) : fr S_X5_hazeAt m r.2 := by
  unfold g_X5_hazeAt at h
  exact fr_trans ((fr_refl _ m)) (fr_mono (fg_X5_hazeAt_2 _ h) (by decide))
def S_X5_setReach : fr_S := [(1, 1, some 12), (9, 9, none), (10, 10, none)]
theorem fg_X5_setReach {w : rf_w} {m : rf_m} {a1 : Int32} {a2 : Int32} {a3 : Int32} {r : (Int32 × rf_m)} (h : g_X5_setReach w m a1 a2 a3 = some r) : fr S_X5_setReach m r.2 := by
  unfold g_X5_setReach at h
  obtain ⟨y0, m0, q1, h⟩ := rf_b_some h
  have e1 : fr S_X5_setReach m m0 := fr_trans ((fr_refl _ m)) (fr_mono (fg_X5_hazeAt q1) (by decide))
  rcases rf_ite_some h with ⟨_, h⟩ | ⟨_, h⟩
  · rcases rf_ite_some h with ⟨_, h⟩ | ⟨_, h⟩
    · obtain ⟨_, h⟩ := rf_g_some h
      obtain ⟨_, h⟩ := rf_g_some h
      obtain rfl := Option.some.inj h
      exact fr_i (fr_i (fr_i e1 (by decide)) (fr_c_in (by decide) _)) (fr_c_in (by decide) _)
    · obtain rfl := Option.some.inj h
      exact e1
  · obtain ⟨_, h⟩ := rf_g_some h
    obtain ⟨_, h⟩ := rf_g_some h
    obtain rfl := Option.some.inj h
    exact fr_i (fr_i e1 (fr_c_in (by decide) _)) (fr_c_in (by decide) _)
def S_X5_reachTo : fr_S := []
theorem fg_X5_reachTo_30 {w : rf_w} {a1 : Int32} {a3 : Int32} {s0 : Int32} {m : rf_m} {r : (Int32 × rf_m)} (h : g_X5_reachTo_30 w a1 a3 s0 m = some r) : fr S_X5_reachTo m r.2 := by
  unfold g_X5_reachTo_30 at h
  obtain ⟨_, h⟩ := rf_g_some h
  rcases rf_ite_some h with ⟨_, h⟩ | ⟨_, h⟩
  · obtain rfl := Option.some.inj h
    exact (fr_refl _ m)
  · rcases rf_ite_some h with ⟨_, h⟩ | ⟨_, h⟩
    · obtain rfl := Option.some.inj h
      exact (fr_refl _ m)
    · rcases rf_ite_some h with ⟨_, h⟩ | ⟨_, h⟩
      · obtain rfl := Option.some.inj h
        exact (fr_refl _ m)
      · obtain rfl := Option.some.inj h
        exact (fr_refl _ m)
theorem fg_X5_reachTo {w : rf_w} {m : rf_m} {a1 : Int32} {a2 : Int32} {a3 : Int32} {r : (Int32 × rf_m)} (h : g_X5_reachTo w m a1 a2 a3 = some r) : fr S_X5_reachTo m r.2 := by
  unfold g_X5_reachTo at h
  obtain ⟨y0, m0, q1, h⟩ := rf_b_some h
  have e1 : fr S_X5_reachTo m m0 := fr_trans ((fr_refl _ m)) (fr_mono (fg_X5_hazeAt q1) (by decide))
  rcases rf_ite_some h with ⟨_, h⟩ | ⟨_, h⟩
  · exact fr_trans e1 (fr_mono (fg_X5_reachTo_30 h) (by decide))
  · obtain ⟨_, h⟩ := rf_g_some h
    exact fr_trans e1 (fr_mono (fg_X5_reachTo_30 h) (by decide))
def S_X5_topOf : fr_S := []
theorem fg_X5_topOf {w : rf_w} {m : rf_m} {a1 : Int32} {a2 : Int32} {r : (Int32 × rf_m)} (h : g_X5_topOf w m a1 a2 = some r) : fr S_X5_topOf m r.2 := by
  unfold g_X5_topOf at h
  obtain ⟨_, h⟩ := rf_g_some h
  obtain ⟨_, h⟩ := rf_g_some h
  obtain ⟨y2, m2, q1, h⟩ := rf_b_some h
  have e1 : fr S_X5_topOf m m2 := fr_trans ((fr_refl _ m)) (fr_mono (fg_X5_towerOn q1) (by decide))
  obtain rfl := Option.some.inj h
  exact e1
def S_J9_floorDiv_7cf53 : fr_S := []
theorem fg_J9_floorDiv_7cf53 {w : rf_w} {m : rf_m} {a0 : Int32} {a1 : Int32} {r : (Int32 × rf_m)} (h : g_J9_floorDiv_7cf53 w m a0 a1 = some r) : fr S_J9_floorDiv_7cf53 m r.2 := by
  unfold g_J9_floorDiv_7cf53 at h
  obtain ⟨_, h⟩ := rf_g_some h
  rcases rf_ite_some h with ⟨_, h⟩ | ⟨_, h⟩
  · obtain rfl := Option.some.inj h
    exact (fr_refl _ m)
  · rcases rf_ite_some h with ⟨_, h⟩ | ⟨_, h⟩
    · obtain rfl := Option.some.inj h
      exact (fr_refl _ m)
    · obtain rfl := Option.some.inj h
      exact (fr_refl _ m)
def S_X5_lookOver : fr_S := []
theorem fg_X5_lookOver_99_b {w : rf_w} {rec99 : Int32 → Int32 → Int32 → Int32 → Int32 → Int32 → Int32 → Int32 → rf_m → Option (Int32 × rf_m)} {a5 : Int32} {a6 : Int32} {a7 : Int32} {a8 : Int32} {a9 : Int32} {a10 : Int32} {a11 : Int32} {a12 : Int32} {m : rf_m} (hr_rec99 : ∀ {x0 : Int32} {x1 : Int32} {x2 : Int32} {x3 : Int32} {x4 : Int32} {x5 : Int32} {x6 : Int32} {x7 : Int32} {m : rf_m} {r : (Int32 × rf_m)}, rec99 x0 x1 x2 x3 x4 x5 x6 x7 m = some r → fr S_X5_lookOver m r.2) {r : (Int32 × rf_m)} (h : g_X5_lookOver_99_b w rec99 a5 a6 a7 a8 a9 a10 a11 a12 m = some r) : fr S_X5_lookOver m r.2 := by
  unfold g_X5_lookOver_99_b at h
  rcases rf_ite_some h with ⟨_, h⟩ | ⟨_, h⟩
  · obtain rfl := Option.some.inj h
    exact (fr_refl _ m)
  · obtain ⟨y0, m0, q1, h⟩ := rf_b_some h
    have e1 : fr S_X5_lookOver m m0 := fr_trans ((fr_refl _ m)) (fr_mono (fg_J9_floorDiv_7cf53 q1) (by decide))
    obtain ⟨y1, m1, q2, h⟩ := rf_b_some h
    have e2 : fr S_X5_lookOver m m1 := fr_trans e1 (fr_mono (fg_J9_floorDiv_7cf53 q2) (by decide))
    have h := fr_vi h
    obtain ⟨_, h⟩ := rf_g_some h
    have h := fr_vi h
    obtain ⟨_, h⟩ := rf_g_some h
    obtain ⟨_, h⟩ := rf_g_some h
    rcases rf_ite_some h with ⟨_, h⟩ | ⟨_, h⟩
    · exact fr_trans e2 (hr_rec99 h)
    · obtain rfl := Option.some.inj h
      exact e2
theorem fg_X5_lookOver_99 {w : rf_w} (n : Nat) : ∀ {a5 : Int32} {a6 : Int32} {a7 : Int32} {a8 : Int32} {a9 : Int32} {a10 : Int32} {a11 : Int32} {a12 : Int32} {m : rf_m} {r : (Int32 × rf_m)}, g_X5_lookOver_99 w n a5 a6 a7 a8 a9 a10 a11 a12 m = some r → fr S_X5_lookOver m r.2 := by
  induction n with
  | zero => intro a5 a6 a7 a8 a9 a10 a11 a12 m r h; cases h
  | succ n ih =>
    intro a5 a6 a7 a8 a9 a10 a11 a12 m r h
    exact fg_X5_lookOver_99_b ih h
theorem fg_X5_lookOver {w : rf_w} {m : rf_m} {a1 : Int32} {a2 : Int32} {a3 : Int32} {a4 : Int32} {r : (Int32 × rf_m)} (h : g_X5_lookOver w m a1 a2 a3 a4 = some r) : fr S_X5_lookOver m r.2 := by
  unfold g_X5_lookOver at h
  obtain ⟨_, h⟩ := rf_g_some h
  have h := fr_vi h
  obtain ⟨_, h⟩ := rf_g_some h
  have h := fr_vi h
  obtain ⟨_, h⟩ := rf_g_some h
  have h := fr_vi h
  obtain ⟨_, h⟩ := rf_g_some h
  have h := fr_vi h
  obtain ⟨y8, m8, q1, h⟩ := rf_b_some h
  have e1 : fr S_X5_lookOver m m8 := fr_trans ((fr_refl _ m)) (fr_mono (fg_abs q1) (by decide))
  obtain ⟨y9, m9, q2, h⟩ := rf_b_some h
  have e2 : fr S_X5_lookOver m m9 := fr_trans e1 (fr_mono (fg_abs q2) (by decide))
  obtain ⟨y10, m10, q3, h⟩ := rf_b_some h
  have e3 : fr S_X5_lookOver m m10 := fr_trans e2 (fr_mono (fg_max q3) (by decide))
  obtain ⟨y11, m11, q4, h⟩ := rf_b_some h
  have e4 : fr S_X5_lookOver m m11 := fr_trans e3 (fr_mono (fg_X5_reachTo q4) (by decide))
  rcases rf_ite_some h with ⟨_, h⟩ | ⟨_, h⟩
  · obtain ⟨y12, m12, q5, h⟩ := rf_b_some h
    have e5 : fr S_X5_lookOver m m12 := fr_trans e4 (fr_mono (fg_X5_topOf q5) (by decide))
    obtain ⟨y13, m13, q6, h⟩ := rf_b_some h
    have e6 : fr S_X5_lookOver m m13 := fr_trans e5 (fr_mono (fg_X5_topOf q6) (by decide))
    exact fr_trans e6 (fr_mono (fg_X5_lookOver_99 _ h) (by decide))
  · obtain rfl := Option.some.inj h
    exact e4
def S_X5_addMass : fr_S := [(1, 1, some 5), (11, 11, none), (12, 12, none)]
theorem fg_X5_addMass {w : rf_w} {m : rf_m} {a1 : Int32} {a2 : Int32} {r : (Int32 × rf_m)} (h : g_X5_addMass w m a1 a2 = some r) : fr S_X5_addMass m r.2 := by
  unfold g_X5_addMass at h
  obtain ⟨_, h⟩ := rf_g_some h
  obtain ⟨_, h⟩ := rf_g_some h
  obtain rfl := Option.some.inj h
  exact fr_i (fr_i (fr_i ((fr_refl _ m)) (fr_c_in (by decide) _)) (fr_c_in (by decide) _)) (by decide)
def S_X5_pullAt : fr_S := []
theorem fg_X5_pullAt_101 {w : rf_w} {rec5 : Int32 → Int32 → Int32 → Int32 → rf_m → Option (Int32 × rf_m)} {a1 : Int32} {a2 : Int32} {a3 : Int32} {a4 : Int32} {m : rf_m} (hr_rec5 : ∀ {x0 : Int32} {x1 : Int32} {x2 : Int32} {x3 : Int32} {m : rf_m} {r : (Int32 × rf_m)}, rec5 x0 x1 x2 x3 m = some r → fr S_X5_pullAt m r.2) {r : (Int32 × rf_m)} (h : g_X5_pullAt_101 w rec5 a1 a2 a3 a4 m = some r) : fr S_X5_pullAt m r.2 := by
  unfold g_X5_pullAt_101 at h
  exact fr_trans ((fr_refl _ m)) (hr_rec5 h)
theorem fg_X5_pullAt_95 {w : rf_w} {rec5 : Int32 → Int32 → Int32 → Int32 → rf_m → Option (Int32 × rf_m)} {a1 : Int32} {a2 : Int32} {a4 : Int32} {a7 : Int32} {s0 : Int32} {s1 : Int32} {s2 : Int32} {m : rf_m} (hr_rec5 : ∀ {x0 : Int32} {x1 : Int32} {x2 : Int32} {x3 : Int32} {m : rf_m} {r : (Int32 × rf_m)}, rec5 x0 x1 x2 x3 m = some r → fr S_X5_pullAt m r.2) {r : (Int32 × rf_m)} (h : g_X5_pullAt_95 w rec5 a1 a2 a4 a7 s0 s1 s2 m = some r) : fr S_X5_pullAt m r.2 := by
  unfold g_X5_pullAt_95 at h
  obtain ⟨_, h⟩ := rf_g_some h
  exact fr_trans ((fr_refl _ m)) (fr_mono (fg_X5_pullAt_101 hr_rec5 h) (by decide))
theorem fg_X5_pullAt_5_b {w : rf_w} {rec5 : Int32 → Int32 → Int32 → Int32 → rf_m → Option (Int32 × rf_m)} {a1 : Int32} {a2 : Int32} {a3 : Int32} {a4 : Int32} {m : rf_m} (hr_rec5 : ∀ {x0 : Int32} {x1 : Int32} {x2 : Int32} {x3 : Int32} {m : rf_m} {r : (Int32 × rf_m)}, rec5 x0 x1 x2 x3 m = some r → fr S_X5_pullAt m r.2) {r : (Int32 × rf_m)} (h : g_X5_pullAt_5_b w rec5 a1 a2 a3 a4 m = some r) : fr S_X5_pullAt m r.2 := by
  unfold g_X5_pullAt_5_b at h
  rcases rf_ite_some h with ⟨_, h⟩ | ⟨_, h⟩
  · obtain rfl := Option.some.inj h
    exact (fr_refl _ m)
  · obtain ⟨_, h⟩ := rf_g_some h
    obtain ⟨_, h⟩ := rf_g_some h
    have h := fr_vi h
    obtain ⟨_, h⟩ := rf_g_some h
    obtain ⟨_, h⟩ := rf_g_some h
    have h := fr_vi h
    rcases rf_ite_some h with ⟨_, h⟩ | ⟨_, h⟩
    · exact fr_trans ((fr_refl _ m)) (fr_mono (fg_X5_pullAt_101 hr_rec5 h) (by decide))
    · obtain ⟨_, h⟩ := rf_g_some h
      rcases rf_ite_some h with ⟨_, h⟩ | ⟨_, h⟩
      · exact fr_trans ((fr_refl _ m)) (fr_mono (fg_X5_pullAt_95 hr_rec5 h) (by decide))
      · exact fr_trans ((fr_refl _ m)) (fr_mono (fg_X5_pullAt_95 hr_rec5 h) (by decide))
theorem fg_X5_pullAt_5 {w : rf_w} (n : Nat) : ∀ {a1 : Int32} {a2 : Int32} {a3 : Int32} {a4 : Int32} {m : rf_m} {r : (Int32 × rf_m)}, g_X5_pullAt_5 w n a1 a2 a3 a4 m = some r → fr S_X5_pullAt m r.2 := by
  induction n with
  | zero => intro a1 a2 a3 a4 m r h; cases h
  | succ n ih =>
    intro a1 a2 a3 a4 m r h
    exact fg_X5_pullAt_5_b ih h
theorem fg_X5_pullAt {w : rf_w} {m : rf_m} {a1 : Int32} {a2 : Int32} {r : (Int32 × rf_m)} (h : g_X5_pullAt w m a1 a2 = some r) : fr S_X5_pullAt m r.2 := by
  unfold g_X5_pullAt at h
  exact fr_trans ((fr_refl _ m)) (fr_mono (fg_X5_pullAt_5 _ h) (by decide))
def S_X6_isBase : fr_S := []
theorem fg_X6_isBase {w : rf_w} {m : rf_m} {a1 : Int32} {r : (Int32 × rf_m)} (h : g_X6_isBase w m a1 = some r) : fr S_X6_isBase m r.2 := by
  unfold g_X6_isBase at h
  rcases rf_ite_some h with ⟨_, h⟩ | ⟨_, h⟩
  · obtain rfl := Option.some.inj h
    exact (fr_refl _ m)
  · rcases rf_ite_some h with ⟨_, h⟩ | ⟨_, h⟩
    · obtain rfl := Option.some.inj h
      exact (fr_refl _ m)
    · obtain rfl := Option.some.inj h
      exact (fr_refl _ m)
def S_X6_mayLay : fr_S := []
theorem fg_X6_mayLay_46 {w : rf_w} {rec6 : Int32 → Int32 → Int32 → Int32 → Int32 → rf_m → Option (Int32 × rf_m)} {a1 : Int32} {a2 : Int32} {a3 : Int32} {a4 : Int32} {a5 : Int32} {m : rf_m} (hr_rec6 : ∀ {x0 : Int32} {x1 : Int32} {x2 : Int32} {x3 : Int32} {x4 : Int32} {m : rf_m} {r : (Int32 × rf_m)}, rec6 x0 x1 x2 x3 x4 m = some r → fr S_X6_mayLay m r.2) {r : (Int32 × rf_m)} (h : g_X6_mayLay_46 w rec6 a1 a2 a3 a4 a5 m = some r) : fr S_X6_mayLay m r.2 := by
  unfold g_X6_mayLay_46 at h
  exact fr_trans ((fr_refl _ m)) (hr_rec6 h)
theorem fg_X6_mayLay_6_b {w : rf_w} {rec6 : Int32 → Int32 → Int32 → Int32 → Int32 → rf_m → Option (Int32 × rf_m)} {a1 : Int32} {a2 : Int32} {a3 : Int32} {a4 : Int32} {a5 : Int32} {m : rf_m} (hr_rec6 : ∀ {x0 : Int32} {x1 : Int32} {x2 : Int32} {x3 : Int32} {x4 : Int32} {m : rf_m} {r : (Int32 × rf_m)}, rec6 x0 x1 x2 x3 x4 m = some r → fr S_X6_mayLay m r.2) {r : (Int32 × rf_m)} (h : g_X6_mayLay_6_b w rec6 a1 a2 a3 a4 a5 m = some r) : fr S_X6_mayLay m r.2 := by
  unfold g_X6_mayLay_6_b at h
  rcases rf_ite_some h with ⟨_, h⟩ | ⟨_, h⟩
  · rcases rf_ite_some h with ⟨_, h⟩ | ⟨_, h⟩
    · obtain rfl := Option.some.inj h
      exact (fr_refl _ m)
    · obtain rfl := Option.some.inj h
      exact (fr_refl _ m)
  · obtain ⟨_, h⟩ := rf_g_some h
    obtain ⟨y1, m1, q1, h⟩ := rf_b_some h
    have e1 : fr S_X6_mayLay m m1 := fr_trans ((fr_refl _ m)) (fr_mono (fg_X11_sideOf q1) (by decide))
    rcases rf_ite_some h with ⟨_, h⟩ | ⟨_, h⟩
    · obtain ⟨_, h⟩ := rf_g_some h
      rcases rf_ite_some h with ⟨_, h⟩ | ⟨_, h⟩
      · obtain rfl := Option.some.inj h
        exact e1
      · exact fr_trans e1 (fr_mono (fg_X6_mayLay_46 hr_rec6 h) (by decide))
    · exact fr_trans e1 (fr_mono (fg_X6_mayLay_46 hr_rec6 h) (by decide))
theorem fg_X6_mayLay_6 {w : rf_w} (n : Nat) : ∀ {a1 : Int32} {a2 : Int32} {a3 : Int32} {a4 : Int32} {a5 : Int32} {m : rf_m} {r : (Int32 × rf_m)}, g_X6_mayLay_6 w n a1 a2 a3 a4 a5 m = some r → fr S_X6_mayLay m r.2 := by
  induction n with
  | zero => intro a1 a2 a3 a4 a5 m r h; cases h
  | succ n ih =>
    intro a1 a2 a3 a4 a5 m r h
    exact fg_X6_mayLay_6_b ih h
theorem fg_X6_mayLay {w : rf_w} {m : rf_m} {a1 : Int32} {a2 : Int32} {a3 : Int32} {r : (Int32 × rf_m)} (h : g_X6_mayLay w m a1 a2 a3 = some r) : fr S_X6_mayLay m r.2 := by
  unfold g_X6_mayLay at h
  exact fr_trans ((fr_refl _ m)) (fr_mono (fg_X6_mayLay_6 _ h) (by decide))
def S_X6_addBase : fr_S := [(41, 41, some 1), (43, 43, none), (44, 44, none)]
theorem fg_X6_addBase {w : rf_w} {m : rf_m} {a1 : Int32} {a2 : Int32} {a3 : Int32} {r : (Int32 × rf_m)} (h : g_X6_addBase w m a1 a2 a3 = some r) : fr S_X6_addBase m r.2 := by
  unfold g_X6_addBase at h
  obtain ⟨y0, m0, q1, h⟩ := rf_b_some h
  have e1 : fr S_X6_addBase m m0 := fr_trans ((fr_refl _ m)) (fr_mono (fg_X11_sideOf q1) (by decide))
  obtain ⟨_, h⟩ := rf_g_some h
  obtain ⟨_, h⟩ := rf_g_some h
  obtain rfl := Option.some.inj h
  exact fr_i (fr_i (fr_i e1 (fr_c_in (by decide) _)) (fr_c_in (by decide) _)) (by decide)
def S_X6_addBar : fr_S := [(42, 42, none), (45, 45, none), (46, 46, none), (47, 47, none)]
theorem fg_X6_addBar {w : rf_w} {m : rf_m} {a1 : Int32} {a2 : Int32} {a3 : Int32} {a4 : Int32} {r : (Int32 × rf_m)} (h : g_X6_addBar w m a1 a2 a3 a4 = some r) : fr S_X6_addBar m r.2 := by
  unfold g_X6_addBar at h
  obtain ⟨_, h⟩ := rf_g_some h
  have h := fr_vi h
  obtain ⟨_, h⟩ := rf_g_some h
  obtain ⟨_, h⟩ := rf_g_some h
  obtain ⟨_, h⟩ := rf_g_some h
  obtain ⟨_, h⟩ := rf_g_some h
  obtain ⟨_, h⟩ := rf_g_some h
  obtain ⟨_, h⟩ := rf_g_some h
  obtain rfl := Option.some.inj h
  exact fr_i (fr_i (fr_i (fr_i ((fr_refl _ m)) (fr_c_in (by decide) _)) (fr_c_in (by decide) _)) (fr_c_in (by decide) _)) (fr_c_in (by decide) _)
def S_X6_laidAgain : fr_S := []
theorem fg_X6_laidAgain {w : rf_w} {m : rf_m} {a1 : Int32} {r : (Int32 × rf_m)} (h : g_X6_laidAgain w m a1 = some r) : fr S_X6_laidAgain m r.2 := by
  unfold g_X6_laidAgain at h
  obtain ⟨y0, m0, q1, h⟩ := rf_b_some h
  have e1 : fr S_X6_laidAgain m m0 := fr_trans ((fr_refl _ m)) (fr_mono (fg_X6_twinOf q1) (by decide))
  rcases rf_ite_some h with ⟨_, h⟩ | ⟨_, h⟩
  · obtain rfl := Option.some.inj h
    exact e1
  · obtain ⟨y1, m1, q2, h⟩ := rf_b_some h
    have e2 : fr S_X6_laidAgain m m1 := fr_trans e1 (fr_mono (fg_X6_areTorn q2) (by decide))
    rcases rf_ite_some h with ⟨_, h⟩ | ⟨_, h⟩
    · obtain rfl := Option.some.inj h
      exact e2
    · obtain rfl := Option.some.inj h
      exact e2
def S_X6_addArc : fr_S := [(41, 41, some 3), (48, 48, none), (49, 49, none)]
theorem fg_X6_addArc {w : rf_w} {m : rf_m} {a1 : Int32} {a2 : Int32} {r : (Int32 × rf_m)} (h : g_X6_addArc w m a1 a2 = some r) : fr S_X6_addArc m r.2 := by
  unfold g_X6_addArc at h
  obtain ⟨_, h⟩ := rf_g_some h
  obtain ⟨_, h⟩ := rf_g_some h
  obtain rfl := Option.some.inj h
  exact fr_i (fr_i (fr_i ((fr_refl _ m)) (fr_c_in (by decide) _)) (fr_c_in (by decide) _)) (by decide)
def S_J9_floorDiv_f86c9 : fr_S := []
theorem fg_J9_floorDiv_f86c9 {w : rf_w} {m : rf_m} {a0 : Int64} {a2 : Int64} {r : (Int64 × rf_m)} (h : g_J9_floorDiv_f86c9 w m a0 a2 = some r) : fr S_J9_floorDiv_f86c9 m r.2 := by
  unfold g_J9_floorDiv_f86c9 at h
  obtain ⟨_, h⟩ := rf_g_some h
  rcases rf_ite_some h with ⟨_, h⟩ | ⟨_, h⟩
  · obtain rfl := Option.some.inj h
    exact (fr_refl _ m)
  · rcases rf_ite_some h with ⟨_, h⟩ | ⟨_, h⟩
    · obtain rfl := Option.some.inj h
      exact (fr_refl _ m)
    · obtain rfl := Option.some.inj h
      exact (fr_refl _ m)
def S_X6_fit : fr_S := []
theorem fg_X6_fit_14_b {w : rf_w} {rec14 : Int32 → Int64 → Int64 → Int64 → Int64 → Int32 → rf_m → Option (Int64 × rf_m)} {a1 : Int32} {a2 : Int64} {a4 : Int64} {a6 : Int64} {a8 : Int64} {a10 : Int32} {m : rf_m} (hr_rec14 : ∀ {x0 : Int32} {x1 : Int64} {x2 : Int64} {x3 : Int64} {x4 : Int64} {x5 : Int32} {m : rf_m} {r : (Int64 × rf_m)}, rec14 x0 x1 x2 x3 x4 x5 m = some r → fr S_X6_fit m r.2) {r : (Int64 × rf_m)} (h : g_X6_fit_14_b w rec14 a1 a2 a4 a6 a8 a10 m = some r) : fr S_X6_fit m r.2 := by
  unfold g_X6_fit_14_b at h
  rcases rf_ite_some h with ⟨_, h⟩ | ⟨_, h⟩
  · have h := fr_vl h
    rcases rf_ite_some h with ⟨_, h⟩ | ⟨_, h⟩
    · rcases rf_ite_some h with ⟨_, h⟩ | ⟨_, h⟩
      · obtain ⟨y1, m1, q1, h⟩ := rf_b_some h
        have e1 : fr S_X6_fit m m1 := fr_trans ((fr_refl _ m)) (fr_mono (fg_J9_floorDiv_f86c9 q1) (by decide))
        obtain rfl := Option.some.inj h
        exact e1
      · obtain ⟨y2, m2, q2, h⟩ := rf_b_some h
        have e2 : fr S_X6_fit m m2 := fr_trans ((fr_refl _ m)) (fr_mono (fg_J9_floorDiv_f86c9 q2) (by decide))
        obtain rfl := Option.some.inj h
        exact e2
    · obtain rfl := Option.some.inj h
      exact (fr_refl _ m)
  · obtain ⟨_, h⟩ := rf_g_some h
    have h := fr_vl h
    obtain ⟨_, h⟩ := rf_g_some h
    have h := fr_vl h
    obtain ⟨_, h⟩ := rf_g_some h
    obtain ⟨_, h⟩ := rf_g_some h
    have h := fr_vl h
    obtain ⟨_, h⟩ := rf_g_some h
    obtain ⟨_, h⟩ := rf_g_some h
    have h := fr_vl h
    exact fr_trans ((fr_refl _ m)) (hr_rec14 h)
theorem fg_X6_fit_14 {w : rf_w} (n : Nat) : ∀ {a1 : Int32} {a2 : Int64} {a4 : Int64} {a6 : Int64} {a8 : Int64} {a10 : Int32} {m : rf_m} {r : (Int64 × rf_m)}, g_X6_fit_14 w n a1 a2 a4 a6 a8 a10 m = some r → fr S_X6_fit m r.2 := by
  induction n with
  | zero => intro a1 a2 a4 a6 a8 a10 m r h; cases h
  | succ n ih =>
    intro a1 a2 a4 a6 a8 a10 m r h
    exact fg_X6_fit_14_b ih h
theorem fg_X6_fit {w : rf_w} {m : rf_m} {a1 : Int32} {r : (Int64 × rf_m)} (h : g_X6_fit w m a1 = some r) : fr S_X6_fit m r.2 := by
  unfold g_X6_fit at h
  exact fr_trans ((fr_refl _ m)) (fr_mono (fg_X6_fit_14 _ h) (by decide))
def S_X7_isTriangle : fr_S := []
theorem fg_X7_isTriangle {w : rf_w} {m : rf_m} {a1 : Int32} {r : (Int32 × rf_m)} (h : g_X7_isTriangle w m a1 = some r) : fr S_X7_isTriangle m r.2 := by
  unfold g_X7_isTriangle at h
  rcases rf_ite_some h with ⟨_, h⟩ | ⟨_, h⟩
  · obtain rfl := Option.some.inj h
    exact (fr_refl _ m)
  · rcases rf_ite_some h with ⟨_, h⟩ | ⟨_, h⟩
    · obtain rfl := Option.some.inj h
      exact (fr_refl _ m)
    · obtain rfl := Option.some.inj h
      exact (fr_refl _ m)
def S_X7_looksAt : fr_S := []
theorem fg_X7_looksAt_26 {w : rf_w} {a1 : Int32} {a2 : Int32} {a3 : Int32} {m : rf_m} {r : (Int32 × rf_m)} (h : g_X7_looksAt_26 w a1 a2 a3 m = some r) : fr S_X7_looksAt m r.2 := by
  unfold g_X7_looksAt_26 at h
  obtain ⟨_, h⟩ := rf_g_some h
  rcases rf_ite_some h with ⟨_, h⟩ | ⟨_, h⟩
  · obtain ⟨_, h⟩ := rf_g_some h
    rcases rf_ite_some h with ⟨_, h⟩ | ⟨_, h⟩
    · obtain rfl := Option.some.inj h
      exact (fr_refl _ m)
    · obtain rfl := Option.some.inj h
      exact (fr_refl _ m)
  · obtain rfl := Option.some.inj h
    exact (fr_refl _ m)
theorem fg_X7_looksAt {w : rf_w} {m : rf_m} {a1 : Int32} {a2 : Int32} {a3 : Int32} {r : (Int32 × rf_m)} (h : g_X7_looksAt w m a1 a2 a3 = some r) : fr S_X7_looksAt m r.2 := by
  unfold g_X7_looksAt at h
  obtain ⟨_, h⟩ := rf_g_some h
  rcases rf_ite_some h with ⟨_, h⟩ | ⟨_, h⟩
  · obtain ⟨_, h⟩ := rf_g_some h
    rcases rf_ite_some h with ⟨_, h⟩ | ⟨_, h⟩
    · obtain rfl := Option.some.inj h
      exact (fr_refl _ m)
    · exact fr_trans ((fr_refl _ m)) (fr_mono (fg_X7_looksAt_26 h) (by decide))
  · exact fr_trans ((fr_refl _ m)) (fr_mono (fg_X7_looksAt_26 h) (by decide))
def S_X7_isTriangular : fr_S := []
theorem fg_X7_isTriangular {w : rf_w} {m : rf_m} {a1 : Int32} {a2 : Int32} {a3 : Int32} {r : (Int32 × rf_m)} (h : g_X7_isTriangular w m a1 a2 a3 = some r) : fr S_X7_isTriangular m r.2 := by
  unfold g_X7_isTriangular at h
  obtain ⟨_, h⟩ := rf_g_some h
  obtain ⟨_, h⟩ := rf_g_some h
  obtain ⟨y2, m2, q1, h⟩ := rf_b_some h
  have e1 : fr S_X7_isTriangular m m2 := fr_trans ((fr_refl _ m)) (fr_mono (fg_X7_looksAt q1) (by decide))
  rcases rf_ite_some h with ⟨_, h⟩ | ⟨_, h⟩
  · obtain rfl := Option.some.inj h
    exact e1
  · obtain ⟨_, h⟩ := rf_g_some h
    obtain ⟨_, h⟩ := rf_g_some h
    obtain ⟨y5, m5, q2, h⟩ := rf_b_some h
    have e2 : fr S_X7_isTriangular m m5 := fr_trans e1 (fr_mono (fg_X7_looksAt q2) (by decide))
    rcases rf_ite_some h with ⟨_, h⟩ | ⟨_, h⟩
    · obtain rfl := Option.some.inj h
      exact e2
    · obtain ⟨_, h⟩ := rf_g_some h
      obtain ⟨_, h⟩ := rf_g_some h
      obtain ⟨y8, m8, q3, h⟩ := rf_b_some h
      have e3 : fr S_X7_isTriangular m m8 := fr_trans e2 (fr_mono (fg_X7_looksAt q3) (by decide))
      rcases rf_ite_some h with ⟨_, h⟩ | ⟨_, h⟩
      · obtain rfl := Option.some.inj h
        exact e3
      · obtain rfl := Option.some.inj h
        exact e3
def S_X7_addTriangle : fr_S := [(50, 50, some 0), (51, 51, none), (52, 52, none)]
theorem fg_X7_addTriangle {w : rf_w} {m : rf_m} {a1 : Int32} {a2 : Int32} {a3 : Int32} {a4 : Int32} {r : (Int32 × rf_m)} (h : g_X7_addTriangle w m a1 a2 a3 a4 = some r) : fr S_X7_addTriangle m r.2 := by
  unfold g_X7_addTriangle at h
  obtain ⟨_, h⟩ := rf_g_some h
  obtain ⟨_, h⟩ := rf_g_some h
  obtain ⟨_, h⟩ := rf_g_some h
  obtain ⟨_, h⟩ := rf_g_some h
  obtain rfl := Option.some.inj h
  exact fr_i (fr_i (fr_i (fr_i (fr_i ((fr_refl _ m)) (fr_c_in (by decide) _)) (fr_c_in (by decide) _)) (fr_c_in (by decide) _)) (fr_c_in (by decide) _)) (by decide)
def S_X7_missOf__31 : fr_S := []
theorem fg_X7_missOf__31 {w : rf_w} {m : rf_m} {a1 : Int32} {r : (Int32 × rf_m)} (h : g_X7_missOf__31 w m a1 = some r) : fr S_X7_missOf__31 m r.2 := by
  unfold g_X7_missOf__31 at h
  rcases rf_ite_some h with ⟨_, h⟩ | ⟨_, h⟩
  · obtain ⟨y0, m0, q1, h⟩ := rf_b_some h
    have e1 : fr S_X7_missOf__31 m m0 := fr_trans ((fr_refl _ m)) (fr_mono (fg_X7_roundMiss__31 q1) (by decide))
    obtain rfl := Option.some.inj h
    exact e1
  · obtain ⟨y1, m1, q2, h⟩ := rf_b_some h
    have e2 : fr S_X7_missOf__31 m m1 := fr_trans ((fr_refl _ m)) (fr_mono (fg_X7_triangleMiss__31 q2) (by decide))
    obtain rfl := Option.some.inj h
    exact e2
def S_X7_wideOnes : fr_S := []
theorem fg_X7_wideOnes_39 {w : rf_w} {rec4 : Int32 → Int32 → Int32 → rf_m → Option (Int32 × rf_m)} {a1 : Int32} {a2 : Int32} {a3 : Int32} {m : rf_m} (hr_rec4 : ∀ {x0 : Int32} {x1 : Int32} {x2 : Int32} {m : rf_m} {r : (Int32 × rf_m)}, rec4 x0 x1 x2 m = some r → fr S_X7_wideOnes m r.2) {r : (Int32 × rf_m)} (h : g_X7_wideOnes_39 w rec4 a1 a2 a3 m = some r) : fr S_X7_wideOnes m r.2 := by
  unfold g_X7_wideOnes_39 at h
  exact fr_trans ((fr_refl _ m)) (hr_rec4 h)
theorem fg_X7_wideOnes_4_b {w : rf_w} {rec4 : Int32 → Int32 → Int32 → rf_m → Option (Int32 × rf_m)} {a1 : Int32} {a2 : Int32} {a3 : Int32} {m : rf_m} (hr_rec4 : ∀ {x0 : Int32} {x1 : Int32} {x2 : Int32} {m : rf_m} {r : (Int32 × rf_m)}, rec4 x0 x1 x2 m = some r → fr S_X7_wideOnes m r.2) {r : (Int32 × rf_m)} (h : g_X7_wideOnes_4_b w rec4 a1 a2 a3 m = some r) : fr S_X7_wideOnes m r.2 := by
  unfold g_X7_wideOnes_4_b at h
  rcases rf_ite_some h with ⟨_, h⟩ | ⟨_, h⟩
  · obtain rfl := Option.some.inj h
    exact (fr_refl _ m)
  · obtain ⟨y0, m0, q1, h⟩ := rf_b_some h
    have e1 : fr S_X7_wideOnes m m0 := fr_trans ((fr_refl _ m)) (fr_mono (fg_X7_missOf__31 q1) (by decide))
    obtain ⟨y1, m1, q2, h⟩ := rf_b_some h
    have e2 : fr S_X7_wideOnes m m1 := fr_trans e1 (fr_mono (fg_X7_isBeyond q2) (by decide))
    rcases rf_ite_some h with ⟨_, h⟩ | ⟨_, h⟩
    · exact fr_trans e2 (fr_mono (fg_X7_wideOnes_39 hr_rec4 h) (by decide))
    · exact fr_trans e2 (fr_mono (fg_X7_wideOnes_39 hr_rec4 h) (by decide))
theorem fg_X7_wideOnes_4 {w : rf_w} (n : Nat) : ∀ {a1 : Int32} {a2 : Int32} {a3 : Int32} {m : rf_m} {r : (Int32 × rf_m)}, g_X7_wideOnes_4 w n a1 a2 a3 m = some r → fr S_X7_wideOnes m r.2 := by
  induction n with
  | zero => intro a1 a2 a3 m r h; cases h
  | succ n ih =>
    intro a1 a2 a3 m r h
    exact fg_X7_wideOnes_4_b ih h
theorem fg_X7_wideOnes {w : rf_w} {m : rf_m} {a1 : Int32} {r : (Int32 × rf_m)} (h : g_X7_wideOnes w m a1 = some r) : fr S_X7_wideOnes m r.2 := by
  unfold g_X7_wideOnes at h
  exact fr_trans ((fr_refl _ m)) (fr_mono (fg_X7_wideOnes_4 _ h) (by decide))
def S_X8_hold : fr_S := [(14, 14, some 18), (17, 17, none)]
theorem fg_X8_hold {w : rf_w} {m : rf_m} {a1 : Int32} {r : (rf_m)} (h : g_X8_hold w m a1 = some r) : fr S_X8_hold m r := by
  unfold g_X8_hold at h
  rcases rf_ite_some h with ⟨_, h⟩ | ⟨_, h⟩
  · obtain rfl := Option.some.inj h
    exact (fr_refl _ m)
  · obtain ⟨_, h⟩ := rf_g_some h
    obtain rfl := Option.some.inj h
    exact fr_i (fr_i ((fr_refl _ m)) (fr_c_in (by decide) _)) (by decide)
def S_X8_fail : fr_S := [(14, 14, some 5), (14, 14, some 6)]
theorem fg_X8_fail {w : rf_w} {m : rf_m} {a1 : Int32} {r : (rf_m)} (h : g_X8_fail w m a1 = some r) : fr S_X8_fail m r := by
  unfold g_X8_fail at h
  obtain rfl := Option.some.inj h
  exact fr_i (fr_i ((fr_refl _ m)) (by decide)) (by decide)
def S_X8_takeNot : fr_S := [(14, 14, some 5), (14, 14, some 6), (14, 14, some 15), (14, 14, some 18), (17, 17, none)]
theorem fg_X8_takeNot {w : rf_w} {m : rf_m} {r : (rf_m)} (h : g_X8_takeNot w m = some r) : fr S_X8_takeNot m r := by
  unfold g_X8_takeNot at h
  rcases rf_ite_some h with ⟨_, h⟩ | ⟨_, h⟩
  · rcases rf_ite_some h with ⟨_, h⟩ | ⟨_, h⟩
    · obtain ⟨m0, q1, h⟩ := rf_bv_some h
      have e1 : fr S_X8_takeNot m m0 := fr_trans (fr_i ((fr_refl _ m)) (by decide)) (fr_mono (fg_X8_hold q1) (by decide))
      obtain rfl := Option.some.inj h
      exact e1
    · obtain ⟨_, h⟩ := rf_g_some h
      rcases rf_ite_some h with ⟨_, h⟩ | ⟨_, h⟩
      · obtain rfl := Option.some.inj h
        exact fr_i (fr_i ((fr_refl _ m)) (by decide)) (by decide)
      · obtain ⟨m2, q2, h⟩ := rf_bv_some h
        have e2 : fr S_X8_takeNot m m2 := fr_trans (fr_i ((fr_refl _ m)) (by decide)) (fr_mono (fg_X8_hold q2) (by decide))
        obtain rfl := Option.some.inj h
        exact e2
  · obtain ⟨m3, q3, h⟩ := rf_bv_some h
    have e3 : fr S_X8_takeNot m m3 := fr_trans (fr_i ((fr_refl _ m)) (by decide)) (fr_mono (fg_X8_fail q3) (by decide))
    obtain rfl := Option.some.inj h
    exact e3
def S_X8_takeBracket : fr_S := [(14, 14, some 5), (14, 14, some 6), (14, 14, some 15), (14, 14, some 16), (14, 14, some 18), (17, 17, none)]
theorem fg_X8_takeBracket {w : rf_w} {m : rf_m} {r : (rf_m)} (h : g_X8_takeBracket w m = some r) : fr S_X8_takeBracket m r := by
  unfold g_X8_takeBracket at h
  rcases rf_ite_some h with ⟨_, h⟩ | ⟨_, h⟩
  · obtain ⟨m0, q1, h⟩ := rf_bv_some h
    have e1 : fr S_X8_takeBracket m m0 := fr_trans (fr_i (fr_i ((fr_refl _ m)) (by decide)) (by decide)) (fr_mono (fg_X8_hold q1) (by decide))
    obtain rfl := Option.some.inj h
    exact e1
  · obtain ⟨m1, q2, h⟩ := rf_bv_some h
    have e2 : fr S_X8_takeBracket m m1 := fr_trans (fr_i ((fr_refl _ m)) (by decide)) (fr_mono (fg_X8_fail q2) (by decide))
    obtain rfl := Option.some.inj h
    exact e2
def S_X8_write : fr_S := [(14, 14, some 2), (16, 16, none)]
theorem fg_X8_write {w : rf_w} {m : rf_m} {a1 : Int32} {r : (rf_m)} (h : g_X8_write w m a1 = some r) : fr S_X8_write m r := by
  unfold g_X8_write at h
  rcases rf_ite_some h with ⟨_, h⟩ | ⟨_, h⟩
  · obtain rfl := Option.some.inj h
    exact (fr_refl _ m)
  · obtain ⟨_, h⟩ := rf_g_some h
    obtain rfl := Option.some.inj h
    exact fr_i (fr_i ((fr_refl _ m)) (fr_c_in (by decide) _)) (by decide)
def S_X8_signHere : fr_S := []
theorem fg_X8_signHere {w : rf_w} {m : rf_m} {r : (Int32 × rf_m)} (h : g_X8_signHere w m = some r) : fr S_X8_signHere m r.2 := by
  unfold g_X8_signHere at h
  rcases rf_ite_some h with ⟨_, h⟩ | ⟨_, h⟩
  · obtain rfl := Option.some.inj h
    exact (fr_refl _ m)
  · rcases rf_ite_some h with ⟨_, h⟩ | ⟨_, h⟩
    · obtain rfl := Option.some.inj h
      exact (fr_refl _ m)
    · rcases rf_ite_some h with ⟨_, h⟩ | ⟨_, h⟩
      · obtain rfl := Option.some.inj h
        exact (fr_refl _ m)
      · rcases rf_ite_some h with ⟨_, h⟩ | ⟨_, h⟩
        · obtain rfl := Option.some.inj h
          exact (fr_refl _ m)
        · rcases rf_ite_some h with ⟨_, h⟩ | ⟨_, h⟩
          · obtain rfl := Option.some.inj h
            exact (fr_refl _ m)
          · rcases rf_ite_some h with ⟨_, h⟩ | ⟨_, h⟩
            · obtain rfl := Option.some.inj h
              exact (fr_refl _ m)
            · obtain rfl := Option.some.inj h
              exact (fr_refl _ m)
def S_X8_looseness : fr_S := []
theorem fg_X8_looseness {w : rf_w} {m : rf_m} {a0 : Int32} {r : (Int32 × rf_m)} (h : g_X8_looseness w m a0 = some r) : fr S_X8_looseness m r.2 := by
  unfold g_X8_looseness at h
  rcases rf_ite_some h with ⟨_, h⟩ | ⟨_, h⟩
  · obtain rfl := Option.some.inj h
    exact (fr_refl _ m)
  · rcases rf_ite_some h with ⟨_, h⟩ | ⟨_, h⟩
    · obtain rfl := Option.some.inj h
      exact (fr_refl _ m)
    · rcases rf_ite_some h with ⟨_, h⟩ | ⟨_, h⟩
      · obtain rfl := Option.some.inj h
        exact (fr_refl _ m)
      · rcases rf_ite_some h with ⟨_, h⟩ | ⟨_, h⟩
        · obtain rfl := Option.some.inj h
          exact (fr_refl _ m)
        · rcases rf_ite_some h with ⟨_, h⟩ | ⟨_, h⟩
          · obtain rfl := Option.some.inj h
            exact (fr_refl _ m)
          · rcases rf_ite_some h with ⟨_, h⟩ | ⟨_, h⟩
            · obtain rfl := Option.some.inj h
              exact (fr_refl _ m)
            · rcases rf_ite_some h with ⟨_, h⟩ | ⟨_, h⟩
              · obtain rfl := Option.some.inj h
                exact (fr_refl _ m)
              · rcases rf_ite_some h with ⟨_, h⟩ | ⟨_, h⟩
                · obtain rfl := Option.some.inj h
                  exact (fr_refl _ m)
                · obtain rfl := Option.some.inj h
                  exact (fr_refl _ m)
def S_X8_release : fr_S := [(14, 14, some 2), (14, 14, some 18), (16, 16, none)]
theorem fg_X8_release_0_b {w : rf_w} {rec0 : Int32 → rf_m → Option (rf_m)} {a1 : Int32} {m : rf_m} (hr_rec0 : ∀ {x0 : Int32} {m : rf_m} {r : (rf_m)}, rec0 x0 m = some r → fr S_X8_release m r) {r : (rf_m)} (h : g_X8_release_0_b w rec0 a1 m = some r) : fr S_X8_release m r := by
  unfold g_X8_release_0_b at h
  rcases rf_ite_some h with ⟨_, h⟩ | ⟨_, h⟩
  · obtain rfl := Option.some.inj h
    exact (fr_refl _ m)
  · obtain ⟨_, h⟩ := rf_g_some h
    obtain ⟨y1, m1, q1, h⟩ := rf_b_some h
    have e1 : fr S_X8_release m m1 := fr_trans ((fr_refl _ m)) (fr_mono (fg_X8_looseness q1) (by decide))
    obtain ⟨y2, m2, q2, h⟩ := rf_b_some h
    have e2 : fr S_X8_release m m2 := fr_trans e1 (fr_mono (fg_X8_looseness q2) (by decide))
    rcases rf_ite_some h with ⟨_, h⟩ | ⟨_, h⟩
    · obtain rfl := Option.some.inj h
      exact e2
    · obtain ⟨_, h⟩ := rf_g_some h
      rcases rf_ite_some h with ⟨_, h⟩ | ⟨_, h⟩
      · obtain rfl := Option.some.inj h
        exact e2
      · obtain ⟨_, h⟩ := rf_g_some h
        obtain ⟨m5, q3, h⟩ := rf_bv_some h
        have e3 : fr S_X8_release m m5 := fr_trans (fr_i e2 (by decide)) (fr_mono (fg_X8_write q3) (by decide))
        exact fr_trans e3 (hr_rec0 h)
theorem fg_X8_release_0 {w : rf_w} (n : Nat) : ∀ {a1 : Int32} {m : rf_m} {r : (rf_m)}, g_X8_release_0 w n a1 m = some r → fr S_X8_release m r := by
  induction n with
  | zero => intro a1 m r h; cases h
  | succ n ih =>
    intro a1 m r h
    exact fg_X8_release_0_b ih h
theorem fg_X8_release {w : rf_w} {m : rf_m} {a1 : Int32} {r : (rf_m)} (h : g_X8_release w m a1 = some r) : fr S_X8_release m r := by
  unfold g_X8_release at h
  exact fr_trans ((fr_refl _ m)) (fr_mono (fg_X8_release_0 _ h) (by decide))
def S_X8_join : fr_S := [(14, 14, some 2), (14, 14, some 12), (14, 14, some 18), (16, 16, none), (17, 17, none)]
theorem fg_X8_join {w : rf_w} {m : rf_m} {a1 : Int32} {a2 : Int32} {r : (rf_m)} (h : g_X8_join w m a1 a2 = some r) : fr S_X8_join m r := by
  unfold g_X8_join at h
  obtain ⟨m0, q1, h⟩ := rf_bv_some h
  have e1 : fr S_X8_join m m0 := fr_trans ((fr_refl _ m)) (fr_mono (fg_X8_release q1) (by decide))
  obtain ⟨m1, q2, h⟩ := rf_bv_some h
  have e2 : fr S_X8_join m m1 := fr_trans e1 (fr_mono (fg_X8_hold q2) (by decide))
  obtain rfl := Option.some.inj h
  exact fr_i e2 (by decide)
def S_X8_isLetter : fr_S := []
theorem fg_X8_isLetter {w : rf_w} {m : rf_m} {a0 : Int32} {r : (Int32 × rf_m)} (h : g_X8_isLetter w m a0 = some r) : fr S_X8_isLetter m r.2 := by
  unfold g_X8_isLetter at h
  rcases rf_ite_some h with ⟨_, h⟩ | ⟨_, h⟩
  · obtain rfl := Option.some.inj h
    exact (fr_refl _ m)
  · rcases rf_ite_some h with ⟨_, h⟩ | ⟨_, h⟩
    · obtain rfl := Option.some.inj h
      exact (fr_refl _ m)
    · obtain rfl := Option.some.inj h
      exact (fr_refl _ m)
def S_X8_takeWord_39 : fr_S := [(14, 14, some 10)]
theorem fg_X8_takeWord_39 {w : rf_w} {m : rf_m} {r : (rf_m)} (h : g_X8_takeWord_39 w m = some r) : fr S_X8_takeWord_39 m r := by
  unfold g_X8_takeWord_39 at h
  rcases rf_ite_some h with ⟨_, h⟩ | ⟨_, h⟩
  · obtain rfl := Option.some.inj h
    exact fr_i ((fr_refl _ m)) (by decide)
  · obtain rfl := Option.some.inj h
    exact fr_i ((fr_refl _ m)) (by decide)
def S_X8_takeWord : fr_S := [(14, 14, some 9), (14, 14, some 10)]
theorem fg_X8_takeWord_0_b {w : rf_w} {rec0 : rf_m → Option (rf_m)} {m : rf_m} (hr_rec0 : ∀ {m : rf_m} {r : (rf_m)}, rec0 m = some r → fr S_X8_takeWord m r) {r : (rf_m)} (h : g_X8_takeWord_0_b w rec0 m = some r) : fr S_X8_takeWord m r := by
  unfold g_X8_takeWord_0_b at h
  rcases rf_ite_some h with ⟨_, h⟩ | ⟨_, h⟩
  · exact fr_trans ((fr_refl _ m)) (fr_mono (fg_X8_takeWord_39 h) (by decide))
  · obtain ⟨_, h⟩ := rf_g_some h
    obtain ⟨y1, m1, q1, h⟩ := rf_b_some h
    have e1 : fr S_X8_takeWord m m1 := fr_trans ((fr_refl _ m)) (fr_mono (fg_X8_isLetter q1) (by decide))
    rcases rf_ite_some h with ⟨_, h⟩ | ⟨_, h⟩
    · exact fr_trans e1 (fr_mono (fg_X8_takeWord_39 h) (by decide))
    · exact fr_trans (fr_i e1 (by decide)) (hr_rec0 h)
theorem fg_X8_takeWord_0 {w : rf_w} (n : Nat) : ∀ {m : rf_m} {r : (rf_m)}, g_X8_takeWord_0 w n m = some r → fr S_X8_takeWord m r := by
  induction n with
  | zero => intro m r h; cases h
  | succ n ih =>
    intro m r h
    exact fg_X8_takeWord_0_b ih h
theorem fg_X8_takeWord {w : rf_w} {m : rf_m} {r : (rf_m)} (h : g_X8_takeWord w m = some r) : fr S_X8_takeWord m r := by
  unfold g_X8_takeWord at h
  exact fr_trans ((fr_refl _ m)) (fr_mono (fg_X8_takeWord_0 _ h) (by decide))
def S_X8_isDigit : fr_S := []
theorem fg_X8_isDigit {w : rf_w} {m : rf_m} {a0 : Int32} {r : (Int32 × rf_m)} (h : g_X8_isDigit w m a0 = some r) : fr S_X8_isDigit m r.2 := by
  unfold g_X8_isDigit at h
  rcases rf_ite_some h with ⟨_, h⟩ | ⟨_, h⟩
  · obtain rfl := Option.some.inj h
    exact (fr_refl _ m)
  · rcases rf_ite_some h with ⟨_, h⟩ | ⟨_, h⟩
    · obtain rfl := Option.some.inj h
      exact (fr_refl _ m)
    · obtain rfl := Option.some.inj h
      exact (fr_refl _ m)
def S_X8_takeWhole_68 : fr_S := [(14, 14, some 10)]
theorem fg_X8_takeWhole_68 {w : rf_w} {m : rf_m} {r : (rf_m)} (h : g_X8_takeWhole_68 w m = some r) : fr S_X8_takeWhole_68 m r := by
  unfold g_X8_takeWhole_68 at h
  rcases rf_ite_some h with ⟨_, h⟩ | ⟨_, h⟩
  · obtain rfl := Option.some.inj h
    exact fr_i ((fr_refl _ m)) (by decide)
  · obtain rfl := Option.some.inj h
    exact fr_i ((fr_refl _ m)) (by decide)
def S_X8_takeWhole : fr_S := [(14, 14, some 9), (14, 14, some 10), (14, 14, some 11)]
theorem fg_X8_takeWhole_5_b {w : rf_w} {rec5 : rf_m → Option (rf_m)} {m : rf_m} (hr_rec5 : ∀ {m : rf_m} {r : (rf_m)}, rec5 m = some r → fr S_X8_takeWhole m r) {r : (rf_m)} (h : g_X8_takeWhole_5_b w rec5 m = some r) : fr S_X8_takeWhole m r := by
  unfold g_X8_takeWhole_5_b at h
  rcases rf_ite_some h with ⟨_, h⟩ | ⟨_, h⟩
  · exact fr_trans ((fr_refl _ m)) (fr_mono (fg_X8_takeWhole_68 h) (by decide))
  · obtain ⟨_, h⟩ := rf_g_some h
    obtain ⟨y1, m1, q1, h⟩ := rf_b_some h
    have e1 : fr S_X8_takeWhole m m1 := fr_trans ((fr_refl _ m)) (fr_mono (fg_X8_isDigit q1) (by decide))
    rcases rf_ite_some h with ⟨_, h⟩ | ⟨_, h⟩
    · exact fr_trans e1 (fr_mono (fg_X8_takeWhole_68 h) (by decide))
    · obtain ⟨_, h⟩ := rf_g_some h
      exact fr_trans (fr_i (fr_i e1 (by decide)) (by decide)) (hr_rec5 h)
theorem fg_X8_takeWhole_5 {w : rf_w} (n : Nat) : ∀ {m : rf_m} {r : (rf_m)}, g_X8_takeWhole_5 w n m = some r → fr S_X8_takeWhole m r := by
  induction n with
  | zero => intro m r h; cases h
  | succ n ih =>
    intro m r h
    exact fg_X8_takeWhole_5_b ih h
theorem fg_X8_takeWhole {w : rf_w} {m : rf_m} {r : (rf_m)} (h : g_X8_takeWhole w m = some r) : fr S_X8_takeWhole m r := by
  unfold g_X8_takeWhole at h
  exact fr_trans (fr_i ((fr_refl _ m)) (by decide)) (fr_mono (fg_X8_takeWhole_5 _ h) (by decide))
def S_X9_takeFour : fr_S := [(13, 13, some 2), (15, 15, none)]
theorem fg_X9_takeFour_3_b {w : rf_w} {rec3 : Int32 → Int32 → rf_m → Option (rf_m)} {a1 : Int32} {a2 : Int32} {m : rf_m} (hr_rec3 : ∀ {x0 : Int32} {x1 : Int32} {m : rf_m} {r : (rf_m)}, rec3 x0 x1 m = some r → fr S_X9_takeFour m r) {r : (rf_m)} (h : g_X9_takeFour_3_b w rec3 a1 a2 m = some r) : fr S_X9_takeFour m r := by
  unfold g_X9_takeFour_3_b at h
  rcases rf_ite_some h with ⟨_, h⟩ | ⟨_, h⟩
  · obtain rfl := Option.some.inj h
    exact (fr_refl _ m)
  · obtain ⟨_, h⟩ := rf_g_some h
    exact fr_trans (fr_i (fr_i ((fr_refl _ m)) (fr_c_in (by decide) _)) (by decide)) (hr_rec3 h)
theorem fg_X9_takeFour_3 {w : rf_w} (n : Nat) : ∀ {a1 : Int32} {a2 : Int32} {m : rf_m} {r : (rf_m)}, g_X9_takeFour_3 w n a1 a2 m = some r → fr S_X9_takeFour m r := by
  induction n with
  | zero => intro a1 a2 m r h; cases h
  | succ n ih =>
    intro a1 a2 m r h
    exact fg_X9_takeFour_3_b ih h
theorem fg_X9_takeFour {w : rf_w} {m : rf_m} {a1 : Int32} {r : (rf_m)} (h : g_X9_takeFour w m a1 = some r) : fr S_X9_takeFour m r := by
  unfold g_X9_takeFour at h
  exact fr_trans ((fr_refl _ m)) (fr_mono (fg_X9_takeFour_3 _ h) (by decide))
def S_X9_takeIn : fr_S := [(13, 13, some 2), (15, 15, none)]
theorem fg_X9_takeIn {w : rf_w} {m : rf_m} {a1 : Int32} {a2 : Int32} {a3 : Int32} {a4 : Int32} {a5 : Int32} {r : (Int32 × rf_m)} (h : g_X9_takeIn w m a1 a2 a3 a4 a5 = some r) : fr S_X9_takeIn m r.2 := by
  unfold g_X9_takeIn at h
  rcases rf_ite_some h with ⟨_, h⟩ | ⟨_, h⟩
  · obtain ⟨m0, q1, h⟩ := rf_bv_some h
    have e1 : fr S_X9_takeIn m m0 := fr_trans ((fr_refl _ m)) (fr_mono (fg_X9_takeFour q1) (by decide))
    obtain ⟨m1, q2, h⟩ := rf_bv_some h
    have e2 : fr S_X9_takeIn m m1 := fr_trans e1 (fr_mono (fg_X9_takeFour q2) (by decide))
    obtain ⟨m2, q3, h⟩ := rf_bv_some h
    have e3 : fr S_X9_takeIn m m2 := fr_trans e2 (fr_mono (fg_X9_takeFour q3) (by decide))
    obtain ⟨m3, q4, h⟩ := rf_bv_some h
    have e4 : fr S_X9_takeIn m m3 := fr_trans e3 (fr_mono (fg_X9_takeFour q4) (by decide))
    obtain ⟨m4, q5, h⟩ := rf_bv_some h
    have e5 : fr S_X9_takeIn m m4 := fr_trans e4 (fr_mono (fg_X9_takeFour q5) (by decide))
    obtain rfl := Option.some.inj h
    exact e5
  · obtain rfl := Option.some.inj h
    exact (fr_refl _ m)
def S_X9_putInForce : fr_S := [(20, 20, none), (21, 21, none)]
theorem fg_X9_putInForce {w : rf_w} {m : rf_m} {a1 : Int32} {a2 : Int32} {a3 : Int32} {r : (rf_m)} (h : g_X9_putInForce w m a1 a2 a3 = some r) : fr S_X9_putInForce m r := by
  unfold g_X9_putInForce at h
  obtain ⟨_, h⟩ := rf_g_some h
  obtain ⟨_, h⟩ := rf_g_some h
  obtain rfl := Option.some.inj h
  exact fr_i (fr_i ((fr_refl _ m)) (fr_c_in (by decide) _)) (fr_c_in (by decide) _)
def S_X9_add : fr_S := [(13, 13, some 3), (19, 19, none), (20, 20, none), (21, 21, none), (22, 22, none), (23, 23, none), (24, 24, none)]
theorem fg_X9_add {w : rf_w} {m : rf_m} {a1 : Int32} {a2 : Int32} {r : (Int32 × rf_m)} (h : g_X9_add w m a1 a2 = some r) : fr S_X9_add m r.2 := by
  unfold g_X9_add at h
  obtain ⟨_, h⟩ := rf_g_some h
  obtain ⟨_, h⟩ := rf_g_some h
  obtain ⟨_, h⟩ := rf_g_some h
  obtain ⟨_, h⟩ := rf_g_some h
  obtain ⟨m4, q1, h⟩ := rf_bv_some h
  have e1 : fr S_X9_add m m4 := fr_trans (fr_i (fr_ci (fr_i (fr_i (fr_i ((fr_refl _ m)) (fr_c_in (by decide) _)) (fr_c_in (by decide) _)) (fr_c_in (by decide) _)) (by decide)) (by decide)) (fr_mono (fg_X9_putInForce q1) (by decide))
  obtain rfl := Option.some.inj h
  exact e1
def S_X9_isStriking : fr_S := []
theorem fg_X9_isStriking {w : rf_w} {m : rf_m} {a1 : Int32} {r : (Int32 × rf_m)} (h : g_X9_isStriking w m a1 = some r) : fr S_X9_isStriking m r.2 := by
  unfold g_X9_isStriking at h
  obtain ⟨_, h⟩ := rf_g_some h
  rcases rf_ite_some h with ⟨_, h⟩ | ⟨_, h⟩
  · obtain rfl := Option.some.inj h
    exact (fr_refl _ m)
  · obtain rfl := Option.some.inj h
    exact (fr_refl _ m)
def S_X9_latest : fr_S := [(18, 18, none), (25, 25, none)]
theorem fg_X9_latest_12_b {w : rf_w} {rec12 : Int32 → Int32 → Int32 → Int32 → rf_m → Option (Int32 × rf_m)} {a1 : Int32} {a2 : Int32} {a3 : Int32} {a4 : Int32} {m : rf_m} (hr_rec12 : ∀ {x0 : Int32} {x1 : Int32} {x2 : Int32} {x3 : Int32} {m : rf_m} {r : (Int32 × rf_m)}, rec12 x0 x1 x2 x3 m = some r → fr S_X9_latest m r.2) {r : (Int32 × rf_m)} (h : g_X9_latest_12_b w rec12 a1 a2 a3 a4 m = some r) : fr S_X9_latest m r.2 := by
  unfold g_X9_latest_12_b at h
  rcases rf_ite_some h with ⟨_, h⟩ | ⟨_, h⟩
  · obtain rfl := Option.some.inj h
    exact (fr_refl _ m)
  · obtain ⟨y0, m0, q1, h⟩ := rf_b_some h
    have e1 : fr S_X9_latest m m0 := fr_trans ((fr_refl _ m)) (fr_mono (fg_X9_isDue q1) (by decide))
    rcases rf_ite_some h with ⟨_, h⟩ | ⟨_, h⟩
    · exact fr_trans e1 (hr_rec12 h)
    · obtain ⟨y1, m1, q2, h⟩ := rf_b_some h
      have e2 : fr S_X9_latest m m1 := fr_trans e1 (fr_mono (fg_X9_total q2) (by decide))
      obtain rfl := Option.some.inj h
      exact e2
theorem fg_X9_latest_12 {w : rf_w} (n : Nat) : ∀ {a1 : Int32} {a2 : Int32} {a3 : Int32} {a4 : Int32} {m : rf_m} {r : (Int32 × rf_m)}, g_X9_latest_12 w n a1 a2 a3 a4 m = some r → fr S_X9_latest m r.2 := by
  induction n with
  | zero => intro a1 a2 a3 a4 m r h; cases h
  | succ n ih =>
    intro a1 a2 a3 a4 m r h
    exact fg_X9_latest_12_b ih h
theorem fg_X9_latest {w : rf_w} {m : rf_m} {a1 : Int32} {a2 : Int32} {a3 : Int32} {r : (Int32 × rf_m)} (h : g_X9_latest w m a1 a2 a3 = some r) : fr S_X9_latest m r.2 := by
  unfold g_X9_latest at h
  obtain ⟨m0, q1, h⟩ := rf_bv_some h
  have e1 : fr S_X9_latest m m0 := fr_trans ((fr_refl _ m)) (fr_mono (fg_X9_clearFacts q1) (by decide))
  exact fr_trans e1 (fr_mono (fg_X9_latest_12 _ h) (by decide))
def S_X9_leastAngle : fr_S := [(18, 18, none), (25, 25, none)]
theorem fg_X9_leastAngle {w : rf_w} {m : rf_m} {a1 : Int32} {r : (Int32 × rf_m)} (h : g_X9_leastAngle w m a1 = some r) : fr S_X9_leastAngle m r.2 := by
  unfold g_X9_leastAngle at h
  obtain ⟨y0, m0, q1, h⟩ := rf_b_some h
  have e1 : fr S_X9_leastAngle m m0 := fr_trans ((fr_refl _ m)) (fr_mono (fg_X9_latest q1) (by decide))
  obtain rfl := Option.some.inj h
  exact e1
def S_X9_allowedMiss : fr_S := [(18, 18, none), (25, 25, none)]
theorem fg_X9_allowedMiss {w : rf_w} {m : rf_m} {a1 : Int32} {r : (Int32 × rf_m)} (h : g_X9_allowedMiss w m a1 = some r) : fr S_X9_allowedMiss m r.2 := by
  unfold g_X9_allowedMiss at h
  obtain ⟨y0, m0, q1, h⟩ := rf_b_some h
  have e1 : fr S_X9_allowedMiss m m0 := fr_trans ((fr_refl _ m)) (fr_mono (fg_X9_latest q1) (by decide))
  obtain ⟨y1, m1, q2, h⟩ := rf_b_some h
  have e2 : fr S_X9_allowedMiss m m1 := fr_trans e1 (fr_mono (fg_max q2) (by decide))
  obtain rfl := Option.some.inj h
  exact e2
def S_X10_sight : fr_S := []
theorem fg_X10_sight {w : rf_w} {m : rf_m} {a0 : Int32} {a1 : Int32} {r : (Int32 × rf_m)} (h : g_X10_sight w m a0 a1 = some r) : fr S_X10_sight m r.2 := by
  unfold g_X10_sight at h
  obtain rfl := Option.some.inj h
  exact (fr_refl _ m)
def S_X10_addStar : fr_S := [(193, 193, some 0), (194, 194, none), (195, 195, none), (196, 196, none)]
theorem fg_X10_addStar {w : rf_w} {m : rf_m} {a1 : Int32} {a2 : Int32} {a3 : Int32} {r : (Int32 × rf_m)} (h : g_X10_addStar w m a1 a2 a3 = some r) : fr S_X10_addStar m r.2 := by
  unfold g_X10_addStar at h
  obtain ⟨_, h⟩ := rf_g_some h
  obtain ⟨_, h⟩ := rf_g_some h
  obtain ⟨_, h⟩ := rf_g_some h
  obtain rfl := Option.some.inj h
  exact fr_i (fr_i (fr_i (fr_i ((fr_refl _ m)) (fr_c_in (by decide) _)) (fr_c_in (by decide) _)) (fr_c_in (by decide) _)) (by decide)
def S_X10_northOf : fr_S := []
theorem fg_X10_northOf {w : rf_w} {m : rf_m} {a1 : Int32} {a2 : Int32} {r : (Int32 × rf_m)} (h : g_X10_northOf w m a1 a2 = some r) : fr S_X10_northOf m r.2 := by
  unfold g_X10_northOf at h
  obtain ⟨y0, m0, q1, h⟩ := rf_b_some h
  have e1 : fr S_X10_northOf m m0 := fr_trans ((fr_refl _ m)) (fr_mono (fg_X10_sight q1) (by decide))
  obtain ⟨_, h⟩ := rf_g_some h
  rcases rf_ite_some h with ⟨_, h⟩ | ⟨_, h⟩
  · obtain ⟨y2, m2, q2, h⟩ := rf_b_some h
    have e2 : fr S_X10_northOf m m2 := fr_trans e1 (fr_mono (fg_X10_sight q2) (by decide))
    obtain ⟨_, h⟩ := rf_g_some h
    obtain rfl := Option.some.inj h
    exact e2
  · obtain rfl := Option.some.inj h
    exact e1
def S_X10_stepsOf : fr_S := []
theorem fg_X10_stepsOf {w : rf_w} {m : rf_m} {a1 : Int32} {a2 : Int32} {r : (Int32 × rf_m)} (h : g_X10_stepsOf w m a1 a2 = some r) : fr S_X10_stepsOf m r.2 := by
  unfold g_X10_stepsOf at h
  obtain ⟨y0, m0, q1, h⟩ := rf_b_some h
  have e1 : fr S_X10_stepsOf m m0 := fr_trans ((fr_refl _ m)) (fr_mono (fg_X10_sight q1) (by decide))
  obtain ⟨_, h⟩ := rf_g_some h
  obtain rfl := Option.some.inj h
  exact e1
def S_X10_rankLayer : fr_S := [(199, 199, none)]
theorem fg_X10_rankLayer_50 {w : rf_w} {rec2 : Int32 → rf_m → Option (rf_m)} {rec14 : Int32 → Int32 → Int32 → rf_m → Option (rf_m)} {a1 : Int32} {a2 : Int32} {a3 : Int32} {m : rf_m} (hr_rec2 : ∀ {x0 : Int32} {m : rf_m} {r : (rf_m)}, rec2 x0 m = some r → fr S_X10_rankLayer m r) (hr_rec14 : ∀ {x0 : Int32} {x1 : Int32} {x2 : Int32} {m : rf_m} {r : (rf_m)}, rec14 x0 x1 x2 m = some r → fr S_X10_rankLayer m r) {r : (rf_m)} (h : g_X10_rankLayer_50 w rec2 rec14 a1 a2 a3 m = some r) : fr S_X10_rankLayer m r := by
  unfold g_X10_rankLayer_50 at h
  exact fr_trans ((fr_refl _ m)) (hr_rec14 h)
theorem fg_X10_rankLayer_14_b {w : rf_w} {rec2 : Int32 → rf_m → Option (rf_m)} {rec14 : Int32 → Int32 → Int32 → rf_m → Option (rf_m)} {a1 : Int32} {a2 : Int32} {a3 : Int32} {m : rf_m} (hr_rec2 : ∀ {x0 : Int32} {m : rf_m} {r : (rf_m)}, rec2 x0 m = some r → fr S_X10_rankLayer m r) (hr_rec14 : ∀ {x0 : Int32} {x1 : Int32} {x2 : Int32} {m : rf_m} {r : (rf_m)}, rec14 x0 x1 x2 m = some r → fr S_X10_rankLayer m r) {r : (rf_m)} (h : g_X10_rankLayer_14_b w rec2 rec14 a1 a2 a3 m = some r) : fr S_X10_rankLayer m r := by
  unfold g_X10_rankLayer_14_b at h
  rcases rf_ite_some h with ⟨_, h⟩ | ⟨_, h⟩
  · obtain ⟨_, h⟩ := rf_g_some h
    obtain ⟨_, h⟩ := rf_g_some h
    exact fr_trans (fr_i ((fr_refl _ m)) (fr_c_in (by decide) _)) (hr_rec2 h)
  · obtain ⟨_, h⟩ := rf_g_some h
    obtain ⟨_, h⟩ := rf_g_some h
    obtain ⟨_, h⟩ := rf_g_some h
    obtain ⟨_, h⟩ := rf_g_some h
    rcases rf_ite_some h with ⟨_, h⟩ | ⟨_, h⟩
    · exact fr_trans ((fr_refl _ m)) (fr_mono (fg_X10_rankLayer_50 hr_rec2 hr_rec14 h) (by decide))
    · exact fr_trans ((fr_refl _ m)) (fr_mono (fg_X10_rankLayer_50 hr_rec2 hr_rec14 h) (by decide))
theorem fg_X10_rankLayer_14 {w : rf_w} {rec2 : Int32 → rf_m → Option (rf_m)} (hr_rec2 : ∀ {x0 : Int32} {m : rf_m} {r : (rf_m)}, rec2 x0 m = some r → fr S_X10_rankLayer m r) (n : Nat) : ∀ {a1 : Int32} {a2 : Int32} {a3 : Int32} {m : rf_m} {r : (rf_m)}, g_X10_rankLayer_14 w rec2 n a1 a2 a3 m = some r → fr S_X10_rankLayer m r := by
  induction n with
  | zero => intro a1 a2 a3 m r h; cases h
  | succ n ih =>
    intro a1 a2 a3 m r h
    exact fg_X10_rankLayer_14_b hr_rec2 ih h
theorem fg_X10_rankLayer_2_b {w : rf_w} {rec2 : Int32 → rf_m → Option (rf_m)} {a1 : Int32} {m : rf_m} (hr_rec2 : ∀ {x0 : Int32} {m : rf_m} {r : (rf_m)}, rec2 x0 m = some r → fr S_X10_rankLayer m r) {r : (rf_m)} (h : g_X10_rankLayer_2_b w rec2 a1 m = some r) : fr S_X10_rankLayer m r := by
  unfold g_X10_rankLayer_2_b at h
  rcases rf_ite_some h with ⟨_, h⟩ | ⟨_, h⟩
  · obtain rfl := Option.some.inj h
    exact (fr_refl _ m)
  · exact fr_trans ((fr_refl _ m)) (fr_mono (fg_X10_rankLayer_14 hr_rec2 _ h) (by decide))
theorem fg_X10_rankLayer_2 {w : rf_w} (n : Nat) : ∀ {a1 : Int32} {m : rf_m} {r : (rf_m)}, g_X10_rankLayer_2 w n a1 m = some r → fr S_X10_rankLayer m r := by
  induction n with
  | zero => intro a1 m r h; cases h
  | succ n ih =>
    intro a1 m r h
    exact fg_X10_rankLayer_2_b ih h
theorem fg_X10_rankLayer {w : rf_w} {m : rf_m} {r : (rf_m)} (h : g_X10_rankLayer w m = some r) : fr S_X10_rankLayer m r := by
  unfold g_X10_rankLayer at h
  exact fr_trans ((fr_refl _ m)) (fr_mono (fg_X10_rankLayer_2 _ h) (by decide))
def S_J9_floorMod_7cf53 : fr_S := []
theorem fg_J9_floorMod_7cf53 {w : rf_w} {m : rf_m} {a0 : Int32} {a1 : Int32} {r : (Int32 × rf_m)} (h : g_J9_floorMod_7cf53 w m a0 a1 = some r) : fr S_J9_floorMod_7cf53 m r.2 := by
  unfold g_J9_floorMod_7cf53 at h
  obtain ⟨_, h⟩ := rf_g_some h
  rcases rf_ite_some h with ⟨_, h⟩ | ⟨_, h⟩
  · obtain rfl := Option.some.inj h
    exact (fr_refl _ m)
  · rcases rf_ite_some h with ⟨_, h⟩ | ⟨_, h⟩
    · obtain rfl := Option.some.inj h
      exact (fr_refl _ m)
    · obtain rfl := Option.some.inj h
      exact (fr_refl _ m)
def S_X10_carry : fr_S := [(193, 193, some 11), (197, 197, none), (198, 198, none), (200, 200, none), (201, 201, none)]
theorem fg_X10_carry_128 {w : rf_w} {a1 : Int32} {a2 : Int32} {a4 : Int32} {a5 : Int32} {a6 : Int32} {a7 : Int32} {m : rf_m} {r : (rf_m)} (h : g_X10_carry_128 w a1 a2 a4 a5 a6 a7 m = some r) : fr S_X10_carry m r := by
  unfold g_X10_carry_128 at h
  obtain ⟨_, h⟩ := rf_g_some h
  obtain ⟨y1, m1, q1, h⟩ := rf_b_some h
  have e1 : fr S_X10_carry m m1 := fr_trans ((fr_refl _ m)) (fr_mono (fg_J9_floorMod_7cf53 q1) (by decide))
  obtain ⟨_, h⟩ := rf_g_some h
  obtain ⟨_, h⟩ := rf_g_some h
  obtain ⟨_, h⟩ := rf_g_some h
  obtain ⟨_, h⟩ := rf_g_some h
  obtain ⟨_, h⟩ := rf_g_some h
  obtain ⟨_, h⟩ := rf_g_some h
  obtain rfl := Option.some.inj h
  exact fr_i (fr_i (fr_i (fr_i (fr_i (fr_i e1 (fr_c_in (by decide) _)) (fr_c_in (by decide) _)) (fr_c_in (by decide) _)) (fr_c_in (by decide) _)) (fr_c_in (by decide) _)) (fr_c_in (by decide) _)
theorem fg_X10_carry_34 {w : rf_w} {a1 : Int32} {a2 : Int32} {a3 : Int32} {a4 : Int32} {a5 : Int32} {m : rf_m} {r : (rf_m)} (h : g_X10_carry_34 w a1 a2 a3 a4 a5 m = some r) : fr S_X10_carry m r := by
  unfold g_X10_carry_34 at h
  obtain ⟨_, h⟩ := rf_g_some h
  have h := fr_vi h
  obtain ⟨y2, m2, q1, h⟩ := rf_b_some h
  have e1 : fr S_X10_carry m m2 := fr_trans ((fr_refl _ m)) (fr_mono (fg_X10_sight q1) (by decide))
  obtain ⟨_, h⟩ := rf_g_some h
  rcases rf_ite_some h with ⟨_, h⟩ | ⟨_, h⟩
  · obtain ⟨_, h⟩ := rf_g_some h
    rcases rf_ite_some h with ⟨_, h⟩ | ⟨_, h⟩
    · exact fr_trans e1 (fr_mono (fg_X10_carry_128 h) (by decide))
    · obtain rfl := Option.some.inj h
      exact e1
  · rcases rf_ite_some h with ⟨_, h⟩ | ⟨_, h⟩
    · exact fr_trans e1 (fr_mono (fg_X10_carry_128 h) (by decide))
    · obtain ⟨_, h⟩ := rf_g_some h
      obtain ⟨_, h⟩ := rf_g_some h
      exact fr_trans (fr_i (fr_i (fr_i e1 (fr_c_in (by decide) _)) (fr_c_in (by decide) _)) (by decide)) (fr_mono (fg_X10_carry_128 h) (by decide))
theorem fg_X10_carry {w : rf_w} {m : rf_m} {a1 : Int32} {a2 : Int32} {a3 : Int32} {a4 : Int32} {a5 : Int32} {r : (rf_m)} (h : g_X10_carry w m a1 a2 a3 a4 a5 = some r) : fr S_X10_carry m r := by
  unfold g_X10_carry at h
  obtain ⟨_, h⟩ := rf_g_some h
  rcases rf_ite_some h with ⟨_, h⟩ | ⟨_, h⟩
  · obtain ⟨_, h⟩ := rf_g_some h
    rcases rf_ite_some h with ⟨_, h⟩ | ⟨_, h⟩
    · exact fr_trans ((fr_refl _ m)) (fr_mono (fg_X10_carry_34 h) (by decide))
    · obtain ⟨_, h⟩ := rf_g_some h
      rcases rf_ite_some h with ⟨_, h⟩ | ⟨_, h⟩
      · exact fr_trans ((fr_refl _ m)) (fr_mono (fg_X10_carry_34 h) (by decide))
      · obtain rfl := Option.some.inj h
        exact (fr_refl _ m)
  · obtain rfl := Option.some.inj h
    exact (fr_refl _ m)
def S_J7_fill_53178__197 : fr_S := [(197, 197, none)]
theorem fg_J7_fill_53178__197_5_b {w : rf_w} {rec5 : Int32 → Int32 → Int32 → rf_m → Option (rf_m)} {a1 : Int32} {a2 : Int32} {a3 : Int32} {m : rf_m} (hr_rec5 : ∀ {x0 : Int32} {x1 : Int32} {x2 : Int32} {m : rf_m} {r : (rf_m)}, rec5 x0 x1 x2 m = some r → fr S_J7_fill_53178__197 m r) {r : (rf_m)} (h : g_J7_fill_53178__197_5_b w rec5 a1 a2 a3 m = some r) : fr S_J7_fill_53178__197 m r := by
  unfold g_J7_fill_53178__197_5_b at h
  rcases rf_ite_some h with ⟨_, h⟩ | ⟨_, h⟩
  · obtain rfl := Option.some.inj h
    exact (fr_refl _ m)
  · obtain ⟨_, h⟩ := rf_g_some h
    exact fr_trans (fr_i ((fr_refl _ m)) (fr_c_in (by decide) _)) (hr_rec5 h)
theorem fg_J7_fill_53178__197_5 {w : rf_w} (n : Nat) : ∀ {a1 : Int32} {a2 : Int32} {a3 : Int32} {m : rf_m} {r : (rf_m)}, g_J7_fill_53178__197_5 w n a1 a2 a3 m = some r → fr S_J7_fill_53178__197 m r := by
  induction n with
  | zero => intro a1 a2 a3 m r h; cases h
  | succ n ih =>
    intro a1 a2 a3 m r h
    exact fg_J7_fill_53178__197_5_b ih h
theorem fg_J7_fill_53178__197 {w : rf_w} {m : rf_m} {a1 : Int32} {r : (rf_m)} (h : g_J7_fill_53178__197 w m a1 = some r) : fr S_J7_fill_53178__197 m r := by
  unfold g_J7_fill_53178__197 at h
  exact fr_trans ((fr_refl _ m)) (fr_mono (fg_J7_fill_53178__197_5 _ h) (by decide))
def S_X10_meanOfStars : fr_S := []
theorem fg_X10_meanOfStars_52 {w : rf_w} {rec8 : Int32 → Int32 → Int32 → Int32 → Int32 → rf_m → Option (Int32 × rf_m)} {a1 : Int32} {a2 : Int32} {a3 : Int32} {a4 : Int32} {a5 : Int32} {m : rf_m} (hr_rec8 : ∀ {x0 : Int32} {x1 : Int32} {x2 : Int32} {x3 : Int32} {x4 : Int32} {m : rf_m} {r : (Int32 × rf_m)}, rec8 x0 x1 x2 x3 x4 m = some r → fr S_X10_meanOfStars m r.2) {r : (Int32 × rf_m)} (h : g_X10_meanOfStars_52 w rec8 a1 a2 a3 a4 a5 m = some r) : fr S_X10_meanOfStars m r.2 := by
  unfold g_X10_meanOfStars_52 at h
  exact fr_trans ((fr_refl _ m)) (hr_rec8 h)
theorem fg_X10_meanOfStars_8_b {w : rf_w} {rec8 : Int32 → Int32 → Int32 → Int32 → Int32 → rf_m → Option (Int32 × rf_m)} {a1 : Int32} {a2 : Int32} {a3 : Int32} {a4 : Int32} {a5 : Int32} {m : rf_m} (hr_rec8 : ∀ {x0 : Int32} {x1 : Int32} {x2 : Int32} {x3 : Int32} {x4 : Int32} {m : rf_m} {r : (Int32 × rf_m)}, rec8 x0 x1 x2 x3 x4 m = some r → fr S_X10_meanOfStars m r.2) {r : (Int32 × rf_m)} (h : g_X10_meanOfStars_8_b w rec8 a1 a2 a3 a4 a5 m = some r) : fr S_X10_meanOfStars m r.2 := by
  unfold g_X10_meanOfStars_8_b at h
  rcases rf_ite_some h with ⟨_, h⟩ | ⟨_, h⟩
  · rcases rf_ite_some h with ⟨_, h⟩ | ⟨_, h⟩
    · obtain rfl := Option.some.inj h
      exact (fr_refl _ m)
    · obtain ⟨_, h⟩ := rf_g_some h
      obtain rfl := Option.some.inj h
      exact (fr_refl _ m)
  · obtain ⟨_, h⟩ := rf_g_some h
    rcases rf_ite_some h with ⟨_, h⟩ | ⟨_, h⟩
    · obtain ⟨_, h⟩ := rf_g_some h
      rcases rf_ite_some h with ⟨_, h⟩ | ⟨_, h⟩
      · obtain ⟨_, h⟩ := rf_g_some h
        have h := fr_vi h
        exact fr_trans ((fr_refl _ m)) (fr_mono (fg_X10_meanOfStars_52 hr_rec8 h) (by decide))
      · exact fr_trans ((fr_refl _ m)) (fr_mono (fg_X10_meanOfStars_52 hr_rec8 h) (by decide))
    · exact fr_trans ((fr_refl _ m)) (fr_mono (fg_X10_meanOfStars_52 hr_rec8 h) (by decide))
theorem fg_X10_meanOfStars_8 {w : rf_w} (n : Nat) : ∀ {a1 : Int32} {a2 : Int32} {a3 : Int32} {a4 : Int32} {a5 : Int32} {m : rf_m} {r : (Int32 × rf_m)}, g_X10_meanOfStars_8 w n a1 a2 a3 a4 a5 m = some r → fr S_X10_meanOfStars m r.2 := by
  induction n with
  | zero => intro a1 a2 a3 a4 a5 m r h; cases h
  | succ n ih =>
    intro a1 a2 a3 a4 a5 m r h
    exact fg_X10_meanOfStars_8_b ih h
theorem fg_X10_meanOfStars {w : rf_w} {m : rf_m} {a1 : Int32} {a2 : Int32} {r : (Int32 × rf_m)} (h : g_X10_meanOfStars w m a1 a2 = some r) : fr S_X10_meanOfStars m r.2 := by
  unfold g_X10_meanOfStars at h
  exact fr_trans ((fr_refl _ m)) (fr_mono (fg_X10_meanOfStars_8 _ h) (by decide))
def S_X10_takeStars : fr_S := [(197, 197, none), (198, 198, none), (199, 199, none)]
theorem fg_X10_takeStars_159 {w : rf_w} {rec75 : Int32 → rf_m → Option (rf_m)} {a1 : Int32} {m : rf_m} (hr_rec75 : ∀ {x0 : Int32} {m : rf_m} {r : (rf_m)}, rec75 x0 m = some r → fr S_X10_takeStars m r) {r : (rf_m)} (h : g_X10_takeStars_159 w rec75 a1 m = some r) : fr S_X10_takeStars m r := by
  unfold g_X10_takeStars_159 at h
  exact fr_trans ((fr_refl _ m)) (hr_rec75 h)
theorem fg_X10_takeStars_75_b {w : rf_w} {rec75 : Int32 → rf_m → Option (rf_m)} {a1 : Int32} {m : rf_m} (hr_rec75 : ∀ {x0 : Int32} {m : rf_m} {r : (rf_m)}, rec75 x0 m = some r → fr S_X10_takeStars m r) {r : (rf_m)} (h : g_X10_takeStars_75_b w rec75 a1 m = some r) : fr S_X10_takeStars m r := by
  unfold g_X10_takeStars_75_b at h
  rcases rf_ite_some h with ⟨_, h⟩ | ⟨_, h⟩
  · obtain rfl := Option.some.inj h
    exact (fr_refl _ m)
  · obtain ⟨_, h⟩ := rf_g_some h
    obtain ⟨_, h⟩ := rf_g_some h
    obtain ⟨y2, m2, q1, h⟩ := rf_b_some h
    have e1 : fr S_X10_takeStars m m2 := fr_trans ((fr_refl _ m)) (fr_mono (fg_X10_sight q1) (by decide))
    obtain ⟨_, h⟩ := rf_g_some h
    rcases rf_ite_some h with ⟨_, h⟩ | ⟨_, h⟩
    · exact fr_trans e1 (fr_mono (fg_X10_takeStars_159 hr_rec75 h) (by decide))
    · obtain ⟨_, h⟩ := rf_g_some h
      obtain ⟨_, h⟩ := rf_g_some h
      obtain ⟨_, h⟩ := rf_g_some h
      obtain ⟨y7, m7, q2, h⟩ := rf_b_some h
      have e2 : fr S_X10_takeStars m m7 := fr_trans (fr_i e1 (fr_c_in (by decide) _)) (fr_mono (fg_X10_sight q2) (by decide))
      obtain ⟨_, h⟩ := rf_g_some h
      obtain ⟨_, h⟩ := rf_g_some h
      obtain ⟨_, h⟩ := rf_g_some h
      obtain ⟨_, h⟩ := rf_g_some h
      exact fr_trans (fr_i (fr_i e2 (fr_c_in (by decide) _)) (fr_c_in (by decide) _)) (fr_mono (fg_X10_takeStars_159 hr_rec75 h) (by decide))
theorem fg_X10_takeStars_75 {w : rf_w} (n : Nat) : ∀ {a1 : Int32} {m : rf_m} {r : (rf_m)}, g_X10_takeStars_75 w n a1 m = some r → fr S_X10_takeStars m r := by
  induction n with
  | zero => intro a1 m r h; cases h
  | succ n ih =>
    intro a1 m r h
    exact fg_X10_takeStars_75_b ih h
theorem fg_X10_takeStars_2_b {w : rf_w} {rec2 : Int32 → rf_m → Option (rf_m)} {a1 : Int32} {m : rf_m} (hr_rec2 : ∀ {x0 : Int32} {m : rf_m} {r : (rf_m)}, rec2 x0 m = some r → fr S_X10_takeStars m r) {r : (rf_m)} (h : g_X10_takeStars_2_b w rec2 a1 m = some r) : fr S_X10_takeStars m r := by
  unfold g_X10_takeStars_2_b at h
  rcases rf_ite_some h with ⟨_, h⟩ | ⟨_, h⟩
  · exact fr_trans ((fr_refl _ m)) (fr_mono (fg_X10_takeStars_75 _ h) (by decide))
  · obtain ⟨_, h⟩ := rf_g_some h
    obtain ⟨_, h⟩ := rf_g_some h
    obtain ⟨y2, m2, q1, h⟩ := rf_b_some h
    have e1 : fr S_X10_takeStars m m2 := fr_trans ((fr_refl _ m)) (fr_mono (fg_X10_sight q1) (by decide))
    obtain ⟨_, h⟩ := rf_g_some h
    obtain ⟨_, h⟩ := rf_g_some h
    obtain ⟨_, h⟩ := rf_g_some h
    obtain ⟨y6, m6, q2, h⟩ := rf_b_some h
    have e2 : fr S_X10_takeStars m m6 := fr_trans (fr_i e1 (fr_c_in (by decide) _)) (fr_mono (fg_X10_meanOfStars q2) (by decide))
    obtain ⟨_, h⟩ := rf_g_some h
    obtain ⟨_, h⟩ := rf_g_some h
    obtain ⟨_, h⟩ := rf_g_some h
    exact fr_trans (fr_i (fr_i e2 (fr_c_in (by decide) _)) (fr_c_in (by decide) _)) (hr_rec2 h)
theorem fg_X10_takeStars_2 {w : rf_w} (n : Nat) : ∀ {a1 : Int32} {m : rf_m} {r : (rf_m)}, g_X10_takeStars_2 w n a1 m = some r → fr S_X10_takeStars m r := by
  induction n with
  | zero => intro a1 m r h; cases h
  | succ n ih =>
    intro a1 m r h
    exact fg_X10_takeStars_2_b ih h
theorem fg_X10_takeStars {w : rf_w} {m : rf_m} {r : (rf_m)} (h : g_X10_takeStars w m = some r) : fr S_X10_takeStars m r := by
  unfold g_X10_takeStars at h
  exact fr_trans ((fr_refl _ m)) (fr_mono (fg_X10_takeStars_2 _ h) (by decide))
def S_X10_carryNorth : fr_S := [(193, 193, some 11), (197, 197, none), (198, 198, none), (199, 199, none), (200, 200, none), (201, 201, none)]
theorem fg_X10_carryNorth_192 {w : rf_w} {rec18 : Int32 → Int32 → Int32 → Int32 → rf_m → Option (rf_m)} {a1 : Int32} {a2 : Int32} {a4 : Int32} {s0 : Int32} {m : rf_m} (hr_rec18 : ∀ {x0 : Int32} {x1 : Int32} {x2 : Int32} {x3 : Int32} {m : rf_m} {r : (rf_m)}, rec18 x0 x1 x2 x3 m = some r → fr S_X10_carryNorth m r) {r : (rf_m)} (h : g_X10_carryNorth_192 w rec18 a1 a2 a4 s0 m = some r) : fr S_X10_carryNorth m r := by
  unfold g_X10_carryNorth_192 at h
  exact fr_trans ((fr_refl _ m)) (hr_rec18 h)
theorem fg_X10_carryNorth_170 {w : rf_w} {rec18 : Int32 → Int32 → Int32 → Int32 → rf_m → Option (rf_m)} {rec50 : Int32 → Int32 → Int32 → Int32 → rf_m → Option (rf_m)} {a1 : Int32} {a2 : Int32} {a4 : Int32} {a5 : Int32} {m : rf_m} (hr_rec18 : ∀ {x0 : Int32} {x1 : Int32} {x2 : Int32} {x3 : Int32} {m : rf_m} {r : (rf_m)}, rec18 x0 x1 x2 x3 m = some r → fr S_X10_carryNorth m r) (hr_rec50 : ∀ {x0 : Int32} {x1 : Int32} {x2 : Int32} {x3 : Int32} {m : rf_m} {r : (rf_m)}, rec50 x0 x1 x2 x3 m = some r → fr S_X10_carryNorth m r) {r : (rf_m)} (h : g_X10_carryNorth_170 w rec18 rec50 a1 a2 a4 a5 m = some r) : fr S_X10_carryNorth m r := by
  unfold g_X10_carryNorth_170 at h
  exact fr_trans ((fr_refl _ m)) (hr_rec50 h)
theorem fg_X10_carryNorth_50_b {w : rf_w} {rec18 : Int32 → Int32 → Int32 → Int32 → rf_m → Option (rf_m)} {rec50 : Int32 → Int32 → Int32 → Int32 → rf_m → Option (rf_m)} {a1 : Int32} {a2 : Int32} {a4 : Int32} {a5 : Int32} {m : rf_m} (hr_rec18 : ∀ {x0 : Int32} {x1 : Int32} {x2 : Int32} {x3 : Int32} {m : rf_m} {r : (rf_m)}, rec18 x0 x1 x2 x3 m = some r → fr S_X10_carryNorth m r) (hr_rec50 : ∀ {x0 : Int32} {x1 : Int32} {x2 : Int32} {x3 : Int32} {m : rf_m} {r : (rf_m)}, rec50 x0 x1 x2 x3 m = some r → fr S_X10_carryNorth m r) {r : (rf_m)} (h : g_X10_carryNorth_50_b w rec18 rec50 a1 a2 a4 a5 m = some r) : fr S_X10_carryNorth m r := by
  unfold g_X10_carryNorth_50_b at h
  rcases rf_ite_some h with ⟨_, h⟩ | ⟨_, h⟩
  · obtain ⟨m0, q1, h⟩ := rf_bv_some h
    have e1 : fr S_X10_carryNorth m m0 := fr_trans ((fr_refl _ m)) (fr_mono (fg_X10_rankLayer q1) (by decide))
    rcases rf_ite_some h with ⟨_, h⟩ | ⟨_, h⟩
    · exact fr_trans e1 (fr_mono (fg_X10_carryNorth_192 hr_rec18 h) (by decide))
    · exact fr_trans e1 (fr_mono (fg_X10_carryNorth_192 hr_rec18 h) (by decide))
  · obtain ⟨_, h⟩ := rf_g_some h
    rcases rf_ite_some h with ⟨_, h⟩ | ⟨_, h⟩
    · exact fr_trans ((fr_refl _ m)) (fr_mono (fg_X10_carryNorth_170 hr_rec18 hr_rec50 h) (by decide))
    · obtain ⟨_, h⟩ := rf_g_some h
      obtain ⟨_, h⟩ := rf_g_some h
      obtain ⟨y4, m4, q2, h⟩ := rf_b_some h
      have e2 : fr S_X10_carryNorth m m4 := fr_trans ((fr_refl _ m)) (fr_mono (fg_X10_sight q2) (by decide))
      obtain ⟨_, h⟩ := rf_g_some h
      obtain ⟨_, h⟩ := rf_g_some h
      obtain ⟨y7, m7, q3, h⟩ := rf_b_some h
      have e3 : fr S_X10_carryNorth m m7 := fr_trans e2 (fr_mono (fg_X10_sight q3) (by decide))
      obtain ⟨_, h⟩ := rf_g_some h
      obtain ⟨m9, q4, h⟩ := rf_bv_some h
      have e4 : fr S_X10_carryNorth m m9 := fr_trans e3 (fr_mono (fg_X10_carry q4) (by decide))
      obtain ⟨_, h⟩ := rf_g_some h
      obtain ⟨m11, q5, h⟩ := rf_bv_some h
      have e5 : fr S_X10_carryNorth m m11 := fr_trans e4 (fr_mono (fg_X10_carry q5) (by decide))
      exact fr_trans e5 (fr_mono (fg_X10_carryNorth_170 hr_rec18 hr_rec50 h) (by decide))
theorem fg_X10_carryNorth_50 {w : rf_w} {rec18 : Int32 → Int32 → Int32 → Int32 → rf_m → Option (rf_m)} (hr_rec18 : ∀ {x0 : Int32} {x1 : Int32} {x2 : Int32} {x3 : Int32} {m : rf_m} {r : (rf_m)}, rec18 x0 x1 x2 x3 m = some r → fr S_X10_carryNorth m r) (n : Nat) : ∀ {a1 : Int32} {a2 : Int32} {a4 : Int32} {a5 : Int32} {m : rf_m} {r : (rf_m)}, g_X10_carryNorth_50 w rec18 n a1 a2 a4 a5 m = some r → fr S_X10_carryNorth m r := by
  induction n with
  | zero => intro a1 a2 a4 a5 m r h; cases h
  | succ n ih =>
    intro a1 a2 a4 a5 m r h
    exact fg_X10_carryNorth_50_b hr_rec18 ih h
theorem fg_X10_carryNorth_18_b {w : rf_w} {rec18 : Int32 → Int32 → Int32 → Int32 → rf_m → Option (rf_m)} {a1 : Int32} {a2 : Int32} {a3 : Int32} {a4 : Int32} {m : rf_m} (hr_rec18 : ∀ {x0 : Int32} {x1 : Int32} {x2 : Int32} {x3 : Int32} {m : rf_m} {r : (rf_m)}, rec18 x0 x1 x2 x3 m = some r → fr S_X10_carryNorth m r) {r : (rf_m)} (h : g_X10_carryNorth_18_b w rec18 a1 a2 a3 a4 m = some r) : fr S_X10_carryNorth m r := by
  unfold g_X10_carryNorth_18_b at h
  rcases rf_ite_some h with ⟨_, h⟩ | ⟨_, h⟩
  · obtain rfl := Option.some.inj h
    exact (fr_refl _ m)
  · rcases rf_ite_some h with ⟨_, h⟩ | ⟨_, h⟩
    · obtain rfl := Option.some.inj h
      exact (fr_refl _ m)
    · obtain ⟨y0, m0, q1, h⟩ := rf_b_some h
      have e1 : fr S_X10_carryNorth m m0 := fr_trans ((fr_refl _ m)) (fr_mono (fg_X10_sight q1) (by decide))
      obtain ⟨_, h⟩ := rf_g_some h
      rcases rf_ite_some h with ⟨_, h⟩ | ⟨_, h⟩
      · obtain rfl := Option.some.inj h
        exact e1
      · exact fr_trans (fr_i e1 (by decide)) (fr_mono (fg_X10_carryNorth_50 hr_rec18 _ h) (by decide))
theorem fg_X10_carryNorth_18 {w : rf_w} (n : Nat) : ∀ {a1 : Int32} {a2 : Int32} {a3 : Int32} {a4 : Int32} {m : rf_m} {r : (rf_m)}, g_X10_carryNorth_18 w n a1 a2 a3 a4 m = some r → fr S_X10_carryNorth m r := by
  induction n with
  | zero => intro a1 a2 a3 a4 m r h; cases h
  | succ n ih =>
    intro a1 a2 a3 a4 m r h
    exact fg_X10_carryNorth_18_b ih h
theorem fg_X10_carryNorth {w : rf_w} {m : rf_m} {a1 : Int32} {a2 : Int32} {r : (rf_m)} (h : g_X10_carryNorth w m a1 a2 = some r) : fr S_X10_carryNorth m r := by
  unfold g_X10_carryNorth at h
  obtain ⟨m0, q1, h⟩ := rf_bv_some h
  have e1 : fr S_X10_carryNorth m m0 := fr_trans ((fr_refl _ m)) (fr_mono (fg_J7_fill_53178__197 q1) (by decide))
  obtain ⟨m1, q2, h⟩ := rf_bv_some h
  have e2 : fr S_X10_carryNorth m m1 := fr_trans e1 (fr_mono (fg_X10_takeStars q2) (by decide))
  exact fr_trans e2 (fr_mono (fg_X10_carryNorth_18 _ h) (by decide))
def S_X10_addLevel : fr_S := [(193, 193, some 1), (202, 202, none), (203, 203, none), (204, 204, none)]
theorem fg_X10_addLevel {w : rf_w} {m : rf_m} {a1 : Int32} {a2 : Int32} {a3 : Int32} {r : (Int32 × rf_m)} (h : g_X10_addLevel w m a1 a2 a3 = some r) : fr S_X10_addLevel m r.2 := by
  unfold g_X10_addLevel at h
  obtain ⟨_, h⟩ := rf_g_some h
  obtain ⟨_, h⟩ := rf_g_some h
  obtain ⟨_, h⟩ := rf_g_some h
  obtain rfl := Option.some.inj h
  exact fr_i (fr_i (fr_i (fr_i ((fr_refl _ m)) (fr_c_in (by decide) _)) (fr_c_in (by decide) _)) (fr_c_in (by decide) _)) (by decide)
def S_X10_meanUp : fr_S := []
theorem fg_X10_meanUp_52 {w : rf_w} {rec8 : Int32 → Int32 → Int32 → Int32 → Int32 → rf_m → Option (Int32 × rf_m)} {a1 : Int32} {a2 : Int32} {a3 : Int32} {a4 : Int32} {a5 : Int32} {m : rf_m} (hr_rec8 : ∀ {x0 : Int32} {x1 : Int32} {x2 : Int32} {x3 : Int32} {x4 : Int32} {m : rf_m} {r : (Int32 × rf_m)}, rec8 x0 x1 x2 x3 x4 m = some r → fr S_X10_meanUp m r.2) {r : (Int32 × rf_m)} (h : g_X10_meanUp_52 w rec8 a1 a2 a3 a4 a5 m = some r) : fr S_X10_meanUp m r.2 := by
  unfold g_X10_meanUp_52 at h
  exact fr_trans ((fr_refl _ m)) (hr_rec8 h)
theorem fg_X10_meanUp_8_b {w : rf_w} {rec8 : Int32 → Int32 → Int32 → Int32 → Int32 → rf_m → Option (Int32 × rf_m)} {a1 : Int32} {a2 : Int32} {a3 : Int32} {a4 : Int32} {a5 : Int32} {m : rf_m} (hr_rec8 : ∀ {x0 : Int32} {x1 : Int32} {x2 : Int32} {x3 : Int32} {x4 : Int32} {m : rf_m} {r : (Int32 × rf_m)}, rec8 x0 x1 x2 x3 x4 m = some r → fr S_X10_meanUp m r.2) {r : (Int32 × rf_m)} (h : g_X10_meanUp_8_b w rec8 a1 a2 a3 a4 a5 m = some r) : fr S_X10_meanUp m r.2 := by
  unfold g_X10_meanUp_8_b at h
  rcases rf_ite_some h with ⟨_, h⟩ | ⟨_, h⟩
  · rcases rf_ite_some h with ⟨_, h⟩ | ⟨_, h⟩
    · obtain rfl := Option.some.inj h
      exact (fr_refl _ m)
    · obtain ⟨y0, m0, q1, h⟩ := rf_b_some h
      have e1 : fr S_X10_meanUp m m0 := fr_trans ((fr_refl _ m)) (fr_mono (fg_J9_floorDiv_7cf53 q1) (by decide))
      obtain rfl := Option.some.inj h
      exact e1
  · obtain ⟨_, h⟩ := rf_g_some h
    rcases rf_ite_some h with ⟨_, h⟩ | ⟨_, h⟩
    · obtain ⟨_, h⟩ := rf_g_some h
      rcases rf_ite_some h with ⟨_, h⟩ | ⟨_, h⟩
      · obtain ⟨_, h⟩ := rf_g_some h
        have h := fr_vi h
        exact fr_trans ((fr_refl _ m)) (fr_mono (fg_X10_meanUp_52 hr_rec8 h) (by decide))
      · exact fr_trans ((fr_refl _ m)) (fr_mono (fg_X10_meanUp_52 hr_rec8 h) (by decide))
    · exact fr_trans ((fr_refl _ m)) (fr_mono (fg_X10_meanUp_52 hr_rec8 h) (by decide))
theorem fg_X10_meanUp_8 {w : rf_w} (n : Nat) : ∀ {a1 : Int32} {a2 : Int32} {a3 : Int32} {a4 : Int32} {a5 : Int32} {m : rf_m} {r : (Int32 × rf_m)}, g_X10_meanUp_8 w n a1 a2 a3 a4 a5 m = some r → fr S_X10_meanUp m r.2 := by
  induction n with
  | zero => intro a1 a2 a3 a4 a5 m r h; cases h
  | succ n ih =>
    intro a1 a2 a3 a4 a5 m r h
    exact fg_X10_meanUp_8_b ih h
theorem fg_X10_meanUp {w : rf_w} {m : rf_m} {a1 : Int32} {a2 : Int32} {r : (Int32 × rf_m)} (h : g_X10_meanUp w m a1 a2 = some r) : fr S_X10_meanUp m r.2 := by
  unfold g_X10_meanUp at h
  exact fr_trans ((fr_refl _ m)) (fr_mono (fg_X10_meanUp_8 _ h) (by decide))
def S_X10_heightFrom : fr_S := []
theorem fg_X10_heightFrom {w : rf_w} {m : rf_m} {a1 : Int32} {a2 : Int32} {r : (Int32 × rf_m)} (h : g_X10_heightFrom w m a1 a2 = some r) : fr S_X10_heightFrom m r.2 := by
  unfold g_X10_heightFrom at h
  obtain ⟨y0, m0, q1, h⟩ := rf_b_some h
  have e1 : fr S_X10_heightFrom m m0 := fr_trans ((fr_refl _ m)) (fr_mono (fg_X10_meanUp q1) (by decide))
  obtain ⟨y1, m1, q2, h⟩ := rf_b_some h
  have e2 : fr S_X10_heightFrom m m1 := fr_trans e1 (fr_mono (fg_X10_meanUp q2) (by decide))
  rcases rf_ite_some h with ⟨_, h⟩ | ⟨_, h⟩
  · obtain rfl := Option.some.inj h
    exact e2
  · rcases rf_ite_some h with ⟨_, h⟩ | ⟨_, h⟩
    · obtain rfl := Option.some.inj h
      exact e2
    · obtain rfl := Option.some.inj h
      exact e2
def S_X10_doubtOf : fr_S := []
theorem fg_X10_doubtOf_42 {w : rf_w} {a3 : Int32} {s0 : Int32} {m : rf_m} {r : (Int32 × rf_m)} (h : g_X10_doubtOf_42 w a3 s0 m = some r) : fr S_X10_doubtOf m r.2 := by
  unfold g_X10_doubtOf_42 at h
  rcases rf_ite_some h with ⟨_, h⟩ | ⟨_, h⟩
  · obtain ⟨y0, m0, q1, h⟩ := rf_b_some h
    have e1 : fr S_X10_doubtOf m m0 := fr_trans ((fr_refl _ m)) (fr_mono (fg_abs q1) (by decide))
    obtain rfl := Option.some.inj h
    exact e1
  · obtain rfl := Option.some.inj h
    exact (fr_refl _ m)
theorem fg_X10_doubtOf_41 {w : rf_w} {a3 : Int32} {m : rf_m} {r : (Int32 × rf_m)} (h : g_X10_doubtOf_41 w a3 m = some r) : fr S_X10_doubtOf m r.2 := by
  unfold g_X10_doubtOf_41 at h
  exact fr_trans ((fr_refl _ m)) (fr_mono (fg_X10_doubtOf_42 h) (by decide))
theorem fg_X10_doubtOf {w : rf_w} {m : rf_m} {a1 : Int32} {a2 : Int32} {r : (Int32 × rf_m)} (h : g_X10_doubtOf w m a1 a2 = some r) : fr S_X10_doubtOf m r.2 := by
  unfold g_X10_doubtOf at h
  obtain ⟨y0, m0, q1, h⟩ := rf_b_some h
  have e1 : fr S_X10_doubtOf m m0 := fr_trans ((fr_refl _ m)) (fr_mono (fg_X10_heightFrom q1) (by decide))
  rcases rf_ite_some h with ⟨_, h⟩ | ⟨_, h⟩
  · obtain rfl := Option.some.inj h
    exact e1
  · obtain ⟨y1, m1, q2, h⟩ := rf_b_some h
    have e2 : fr S_X10_doubtOf m m1 := fr_trans e1 (fr_mono (fg_X10_meanUp q2) (by decide))
    rcases rf_ite_some h with ⟨_, h⟩ | ⟨_, h⟩
    · exact fr_trans e2 (fr_mono (fg_X10_doubtOf_41 h) (by decide))
    · obtain ⟨y2, m2, q3, h⟩ := rf_b_some h
      have e3 : fr S_X10_doubtOf m m2 := fr_trans e2 (fr_mono (fg_X10_meanUp q3) (by decide))
      rcases rf_ite_some h with ⟨_, h⟩ | ⟨_, h⟩
      · exact fr_trans e3 (fr_mono (fg_X10_doubtOf_41 h) (by decide))
      · exact fr_trans e3 (fr_mono (fg_X10_doubtOf_42 h) (by decide))
def S_X11_isWithin : fr_S := []
theorem fg_X11_isWithin {w : rf_w} {m : rf_m} {a0 : Int32} {a1 : Int32} {a2 : Int32} {r : (Int32 × rf_m)} (h : g_X11_isWithin w m a0 a1 a2 = some r) : fr S_X11_isWithin m r.2 := by
  unfold g_X11_isWithin at h
  rcases rf_ite_some h with ⟨_, h⟩ | ⟨_, h⟩
  · obtain rfl := Option.some.inj h
    exact (fr_refl _ m)
  · rcases rf_ite_some h with ⟨_, h⟩ | ⟨_, h⟩
    · obtain rfl := Option.some.inj h
      exact (fr_refl _ m)
    · obtain rfl := Option.some.inj h
      exact (fr_refl _ m)
def S_X11_isCell : fr_S := []
theorem fg_X11_isCell {w : rf_w} {m : rf_m} {a0 : Int32} {r : (Int32 × rf_m)} (h : g_X11_isCell w m a0 = some r) : fr S_X11_isCell m r.2 := by
  unfold g_X11_isCell at h
  obtain ⟨y0, m0, q1, h⟩ := rf_b_some h
  have e1 : fr S_X11_isCell m m0 := fr_trans ((fr_refl _ m)) (fr_mono (fg_X11_isWithin q1) (by decide))
  obtain ⟨_, h⟩ := rf_g_some h
  obtain rfl := Option.some.inj h
  exact e1
def S_X11_denied : fr_S := [(0, 0, some 11)]
theorem fg_X11_denied {w : rf_w} {m : rf_m} {a1 : Int32} {r : (Int32 × rf_m)} (h : g_X11_denied w m a1 = some r) : fr S_X11_denied m r.2 := by
  unfold g_X11_denied at h
  obtain rfl := Option.some.inj h
  exact fr_i ((fr_refl _ m)) (by decide)
def S_X11_granted : fr_S := [(0, 0, some 11)]
theorem fg_X11_granted {w : rf_w} {m : rf_m} {r : (Int32 × rf_m)} (h : g_X11_granted w m = some r) : fr S_X11_granted m r.2 := by
  unfold g_X11_granted at h
  obtain rfl := Option.some.inj h
  exact fr_i ((fr_refl _ m)) (by decide)
def S_X11_cell : fr_S := [(0, 0, some 11), (2, 2, none), (3, 3, none)]
theorem fg_X11_cell {w : rf_w} {m : rf_m} {a1 : Int32} {a2 : Int32} {a3 : Int32} {r : (Int32 × rf_m)} (h : g_X11_cell w m a1 a2 a3 = some r) : fr S_X11_cell m r.2 := by
  unfold g_X11_cell at h
  obtain ⟨y0, m0, q1, h⟩ := rf_b_some h
  have e1 : fr S_X11_cell m m0 := fr_trans ((fr_refl _ m)) (fr_mono (fg_X11_isCell q1) (by decide))
  rcases rf_ite_some h with ⟨_, h⟩ | ⟨_, h⟩
  · obtain ⟨y8, m8, q2, h⟩ := rf_b_some h
    have e2 : fr S_X11_cell m m8 := fr_trans e1 (fr_mono (fg_X11_denied q2) (by decide))
    obtain ⟨_, h⟩ := rf_g_some h
    obtain rfl := Option.some.inj h
    exact e2
  · obtain ⟨y1, m1, q3, h⟩ := rf_b_some h
    have e3 : fr S_X11_cell m m1 := fr_trans e1 (fr_mono (fg_X11_isWithin q3) (by decide))
    rcases rf_ite_some h with ⟨_, h⟩ | ⟨_, h⟩
    · obtain ⟨y2, m2, q4, h⟩ := rf_b_some h
      have e4 : fr S_X11_cell m m2 := fr_trans e3 (fr_mono (fg_X11_denied q4) (by decide))
      obtain ⟨_, h⟩ := rf_g_some h
      obtain rfl := Option.some.inj h
      exact e4
    · obtain ⟨y3, m3, q5, h⟩ := rf_b_some h
      have e5 : fr S_X11_cell m m3 := fr_trans e3 (fr_mono (fg_X11_isWithin q5) (by decide))
      rcases rf_ite_some h with ⟨_, h⟩ | ⟨_, h⟩
      · obtain ⟨y7, m7, q6, h⟩ := rf_b_some h
        have e6 : fr S_X11_cell m m7 := fr_trans e5 (fr_mono (fg_X11_denied q6) (by decide))
        obtain ⟨_, h⟩ := rf_g_some h
        obtain rfl := Option.some.inj h
        exact e6
      · obtain ⟨_, h⟩ := rf_g_some h
        obtain ⟨_, h⟩ := rf_g_some h
        obtain ⟨y6, m6, q7, h⟩ := rf_b_some h
        have e7 : fr S_X11_cell m m6 := fr_trans (fr_i (fr_i e5 (fr_c_in (by decide) _)) (fr_c_in (by decide) _)) (fr_mono (fg_X11_granted q7) (by decide))
        obtain ⟨_, h⟩ := rf_g_some h
        obtain rfl := Option.some.inj h
        exact e7
def S_X11_answered : fr_S := [(0, 0, some 11)]
theorem fg_X11_answered {w : rf_w} {m : rf_m} {a1 : Int32} {r : (Int32 × rf_m)} (h : g_X11_answered w m a1 = some r) : fr S_X11_answered m r.2 := by
  unfold g_X11_answered at h
  obtain rfl := Option.some.inj h
  exact fr_i ((fr_refl _ m)) (by decide)
def S_X11_refused : fr_S := [(0, 0, some 11)]
theorem fg_X11_refused {w : rf_w} {m : rf_m} {a1 : Int32} {r : (Int32 × rf_m)} (h : g_X11_refused w m a1 = some r) : fr S_X11_refused m r.2 := by
  unfold g_X11_refused at h
  obtain rfl := Option.some.inj h
  exact fr_i ((fr_refl _ m)) (by decide)
def S_X11_mark : fr_S := [(0, 0, some 11), (1, 1, some 4), (4, 4, none)]
theorem fg_X11_mark {w : rf_w} {m : rf_m} {a1 : Int32} {r : (Int32 × rf_m)} (h : g_X11_mark w m a1 = some r) : fr S_X11_mark m r.2 := by
  unfold g_X11_mark at h
  obtain ⟨y0, m0, q1, h⟩ := rf_b_some h
  have e1 : fr S_X11_mark m m0 := fr_trans ((fr_refl _ m)) (fr_mono (fg_X11_isCell q1) (by decide))
  rcases rf_ite_some h with ⟨_, h⟩ | ⟨_, h⟩
  · obtain ⟨y6, m6, q2, h⟩ := rf_b_some h
    have e2 : fr S_X11_mark m m6 := fr_trans e1 (fr_mono (fg_X11_refused q2) (by decide))
    obtain rfl := Option.some.inj h
    exact e2
  · obtain ⟨y1, m1, q3, h⟩ := rf_b_some h
    have e3 : fr S_X11_mark m m1 := fr_trans e1 (fr_mono (fg_X5_isTaken q3) (by decide))
    rcases rf_ite_some h with ⟨_, h⟩ | ⟨_, h⟩
    · rcases rf_ite_some h with ⟨_, h⟩ | ⟨_, h⟩
      · obtain ⟨y2, m2, q4, h⟩ := rf_b_some h
        have e4 : fr S_X11_mark m m2 := fr_trans e3 (fr_mono (fg_X5_addMark q4) (by decide))
        obtain ⟨y3, m3, q5, h⟩ := rf_b_some h
        have e5 : fr S_X11_mark m m3 := fr_trans e4 (fr_mono (fg_X11_answered q5) (by decide))
        obtain rfl := Option.some.inj h
        exact e5
      · obtain ⟨y4, m4, q6, h⟩ := rf_b_some h
        have e6 : fr S_X11_mark m m4 := fr_trans e3 (fr_mono (fg_X11_refused q6) (by decide))
        obtain rfl := Option.some.inj h
        exact e6
    · obtain ⟨y5, m5, q7, h⟩ := rf_b_some h
      have e7 : fr S_X11_mark m m5 := fr_trans e3 (fr_mono (fg_X11_refused q7) (by decide))
      obtain rfl := Option.some.inj h
      exact e7
def S_X11_tower : fr_S := [(0, 0, some 11), (1, 1, some 9), (6, 6, none), (7, 7, none), (8, 8, none)]
theorem fg_X11_tower {w : rf_w} {m : rf_m} {a1 : Int32} {a2 : Int32} {r : (Int32 × rf_m)} (h : g_X11_tower w m a1 a2 = some r) : fr S_X11_tower m r.2 := by
  unfold g_X11_tower at h
  obtain ⟨y0, m0, q1, h⟩ := rf_b_some h
  have e1 : fr S_X11_tower m m0 := fr_trans ((fr_refl _ m)) (fr_mono (fg_X5_isMark q1) (by decide))
  rcases rf_ite_some h with ⟨_, h⟩ | ⟨_, h⟩
  · obtain ⟨y5, m5, q2, h⟩ := rf_b_some h
    have e2 : fr S_X11_tower m m5 := fr_trans e1 (fr_mono (fg_X11_denied q2) (by decide))
    obtain ⟨_, h⟩ := rf_g_some h
    obtain rfl := Option.some.inj h
    exact e2
  · obtain ⟨y1, m1, q3, h⟩ := rf_b_some h
    have e3 : fr S_X11_tower m m1 := fr_trans e1 (fr_mono (fg_X11_isWithin q3) (by decide))
    rcases rf_ite_some h with ⟨_, h⟩ | ⟨_, h⟩
    · obtain ⟨y4, m4, q4, h⟩ := rf_b_some h
      have e4 : fr S_X11_tower m m4 := fr_trans e3 (fr_mono (fg_X11_denied q4) (by decide))
      obtain ⟨_, h⟩ := rf_g_some h
      obtain rfl := Option.some.inj h
      exact e4
    · obtain ⟨m2, q5, h⟩ := rf_bv_some h
      have e5 : fr S_X11_tower m m2 := fr_trans e3 (fr_mono (fg_X5_raise q5) (by decide))
      obtain ⟨y3, m3, q6, h⟩ := rf_b_some h
      have e6 : fr S_X11_tower m m3 := fr_trans e5 (fr_mono (fg_X11_granted q6) (by decide))
      obtain ⟨_, h⟩ := rf_g_some h
      obtain rfl := Option.some.inj h
      exact e6
def S_X11_lamp : fr_S := [(0, 0, some 11), (5, 5, none)]
theorem fg_X11_lamp {w : rf_w} {m : rf_m} {a1 : Int32} {a2 : Int32} {r : (Int32 × rf_m)} (h : g_X11_lamp w m a1 a2 = some r) : fr S_X11_lamp m r.2 := by
  unfold g_X11_lamp at h
  obtain ⟨y0, m0, q1, h⟩ := rf_b_some h
  have e1 : fr S_X11_lamp m m0 := fr_trans ((fr_refl _ m)) (fr_mono (fg_X5_isMark q1) (by decide))
  rcases rf_ite_some h with ⟨_, h⟩ | ⟨_, h⟩
  · obtain ⟨y3, m3, q2, h⟩ := rf_b_some h
    have e2 : fr S_X11_lamp m m3 := fr_trans e1 (fr_mono (fg_X11_denied q2) (by decide))
    obtain ⟨_, h⟩ := rf_g_some h
    obtain rfl := Option.some.inj h
    exact e2
  · obtain ⟨_, h⟩ := rf_g_some h
    obtain ⟨y2, m2, q3, h⟩ := rf_b_some h
    have e3 : fr S_X11_lamp m m2 := fr_trans (fr_i e1 (fr_c_in (by decide) _)) (fr_mono (fg_X11_granted q3) (by decide))
    obtain ⟨_, h⟩ := rf_g_some h
    obtain rfl := Option.some.inj h
    exact e3
def S_X11_isDay : fr_S := []
theorem fg_X11_isDay {w : rf_w} {m : rf_m} {a0 : Int32} {r : (Int32 × rf_m)} (h : g_X11_isDay w m a0 = some r) : fr S_X11_isDay m r.2 := by
  unfold g_X11_isDay at h
  obtain ⟨y0, m0, q1, h⟩ := rf_b_some h
  have e1 : fr S_X11_isDay m m0 := fr_trans ((fr_refl _ m)) (fr_mono (fg_X11_isWithin q1) (by decide))
  obtain ⟨_, h⟩ := rf_g_some h
  obtain rfl := Option.some.inj h
  exact e1
def S_X11_isHour : fr_S := []
theorem fg_X11_isHour {w : rf_w} {m : rf_m} {a0 : Int32} {r : (Int32 × rf_m)} (h : g_X11_isHour w m a0 = some r) : fr S_X11_isHour m r.2 := by
  unfold g_X11_isHour at h
  obtain ⟨y0, m0, q1, h⟩ := rf_b_some h
  have e1 : fr S_X11_isHour m m0 := fr_trans ((fr_refl _ m)) (fr_mono (fg_X11_isWithin q1) (by decide))
  obtain ⟨_, h⟩ := rf_g_some h
  obtain rfl := Option.some.inj h
  exact e1
def S_X11_haze : fr_S := [(0, 0, some 11), (1, 1, some 12), (9, 9, none), (10, 10, none)]
theorem fg_X11_haze {w : rf_w} {m : rf_m} {a1 : Int32} {a2 : Int32} {a3 : Int32} {r : (Int32 × rf_m)} (h : g_X11_haze w m a1 a2 a3 = some r) : fr S_X11_haze m r.2 := by
  unfold g_X11_haze at h
  obtain ⟨y0, m0, q1, h⟩ := rf_b_some h
  have e1 : fr S_X11_haze m m0 := fr_trans ((fr_refl _ m)) (fr_mono (fg_X11_isDay q1) (by decide))
  rcases rf_ite_some h with ⟨_, h⟩ | ⟨_, h⟩
  · obtain ⟨y1, m1, q2, h⟩ := rf_b_some h
    have e2 : fr S_X11_haze m m1 := fr_trans e1 (fr_mono (fg_X11_denied q2) (by decide))
    obtain ⟨_, h⟩ := rf_g_some h
    obtain rfl := Option.some.inj h
    exact e2
  · obtain ⟨y2, m2, q3, h⟩ := rf_b_some h
    have e3 : fr S_X11_haze m m2 := fr_trans e1 (fr_mono (fg_X11_isHour q3) (by decide))
    rcases rf_ite_some h with ⟨_, h⟩ | ⟨_, h⟩
    · obtain ⟨y3, m3, q4, h⟩ := rf_b_some h
      have e4 : fr S_X11_haze m m3 := fr_trans e3 (fr_mono (fg_X11_denied q4) (by decide))
      obtain ⟨_, h⟩ := rf_g_some h
      obtain rfl := Option.some.inj h
      exact e4
    · obtain ⟨y4, m4, q5, h⟩ := rf_b_some h
      have e5 : fr S_X11_haze m m4 := fr_trans e3 (fr_mono (fg_X11_isWithin q5) (by decide))
      rcases rf_ite_some h with ⟨_, h⟩ | ⟨_, h⟩
      · obtain ⟨y8, m8, q6, h⟩ := rf_b_some h
        have e6 : fr S_X11_haze m m8 := fr_trans e5 (fr_mono (fg_X11_denied q6) (by decide))
        obtain ⟨_, h⟩ := rf_g_some h
        obtain rfl := Option.some.inj h
        exact e6
      · obtain ⟨y5, m5, q7, h⟩ := rf_b_some h
        have e7 : fr S_X11_haze m m5 := fr_trans e5 (fr_mono (fg_X5_setReach q7) (by decide))
        rcases rf_ite_some h with ⟨_, h⟩ | ⟨_, h⟩
        · obtain ⟨y6, m6, q8, h⟩ := rf_b_some h
          have e8 : fr S_X11_haze m m6 := fr_trans e7 (fr_mono (fg_X11_denied q8) (by decide))
          obtain ⟨_, h⟩ := rf_g_some h
          obtain rfl := Option.some.inj h
          exact e8
        · obtain ⟨y7, m7, q9, h⟩ := rf_b_some h
          have e9 : fr S_X11_haze m m7 := fr_trans e7 (fr_mono (fg_X11_granted q9) (by decide))
          obtain ⟨_, h⟩ := rf_g_some h
          obtain rfl := Option.some.inj h
          exact e9
def S_X11_see : fr_S := []
theorem fg_X11_see {w : rf_w} {m : rf_m} {a1 : Int32} {a2 : Int32} {a3 : Int32} {a4 : Int32} {r : (Int32 × rf_m)} (h : g_X11_see w m a1 a2 a3 a4 = some r) : fr S_X11_see m r.2 := by
  unfold g_X11_see at h
  obtain ⟨y0, m0, q1, h⟩ := rf_b_some h
  have e1 : fr S_X11_see m m0 := fr_trans ((fr_refl _ m)) (fr_mono (fg_X5_isPair q1) (by decide))
  rcases rf_ite_some h with ⟨_, h⟩ | ⟨_, h⟩
  · obtain rfl := Option.some.inj h
    exact e1
  · obtain ⟨y1, m1, q2, h⟩ := rf_b_some h
    have e2 : fr S_X11_see m m1 := fr_trans e1 (fr_mono (fg_X11_isDay q2) (by decide))
    rcases rf_ite_some h with ⟨_, h⟩ | ⟨_, h⟩
    · obtain rfl := Option.some.inj h
      exact e2
    · obtain ⟨y2, m2, q3, h⟩ := rf_b_some h
      have e3 : fr S_X11_see m m2 := fr_trans e2 (fr_mono (fg_X11_isHour q3) (by decide))
      rcases rf_ite_some h with ⟨_, h⟩ | ⟨_, h⟩
      · obtain rfl := Option.some.inj h
        exact e3
      · obtain ⟨y3, m3, q4, h⟩ := rf_b_some h
        have e4 : fr S_X11_see m m3 := fr_trans e3 (fr_mono (fg_X5_lookOver q4) (by decide))
        obtain rfl := Option.some.inj h
        exact e4
def S_X11_party : fr_S := [(0, 0, some 11), (26, 26, some 5), (27, 27, none)]
theorem fg_X11_party {w : rf_w} {m : rf_m} {a1 : Int32} {r : (Int32 × rf_m)} (h : g_X11_party w m a1 = some r) : fr S_X11_party m r.2 := by
  unfold g_X11_party at h
  rcases rf_ite_some h with ⟨_, h⟩ | ⟨_, h⟩
  · obtain ⟨y0, m0, q1, h⟩ := rf_b_some h
    have e1 : fr S_X11_party m m0 := fr_trans ((fr_refl _ m)) (fr_mono (fg_X3_addParty q1) (by decide))
    obtain ⟨y1, m1, q2, h⟩ := rf_b_some h
    have e2 : fr S_X11_party m m1 := fr_trans e1 (fr_mono (fg_X11_answered q2) (by decide))
    obtain rfl := Option.some.inj h
    exact e2
  · obtain ⟨y2, m2, q3, h⟩ := rf_b_some h
    have e3 : fr S_X11_party m m2 := fr_trans ((fr_refl _ m)) (fr_mono (fg_X11_refused q3) (by decide))
    obtain rfl := Option.some.inj h
    exact e3
def S_X11_angle : fr_S := [(0, 0, some 11), (26, 26, some 6), (26, 26, some 19), (28, 28, none), (29, 29, none), (30, 30, none), (40, 40, none)]
theorem fg_X11_angle {w : rf_w} {m : rf_m} {a1 : Int32} {a2 : Int32} {a3 : Int32} {r : (Int32 × rf_m)} (h : g_X11_angle w m a1 a2 a3 = some r) : fr S_X11_angle m r.2 := by
  unfold g_X11_angle at h
  obtain ⟨y0, m0, q1, h⟩ := rf_b_some h
  have e1 : fr S_X11_angle m m0 := fr_trans ((fr_refl _ m)) (fr_mono (fg_X5_isMark q1) (by decide))
  rcases rf_ite_some h with ⟨_, h⟩ | ⟨_, h⟩
  · obtain ⟨y1, m1, q2, h⟩ := rf_b_some h
    have e2 : fr S_X11_angle m m1 := fr_trans e1 (fr_mono (fg_X11_refused q2) (by decide))
    obtain rfl := Option.some.inj h
    exact e2
  · obtain ⟨y2, m2, q3, h⟩ := rf_b_some h
    have e3 : fr S_X11_angle m m2 := fr_trans e1 (fr_mono (fg_X5_isMark q3) (by decide))
    rcases rf_ite_some h with ⟨_, h⟩ | ⟨_, h⟩
    · obtain ⟨y3, m3, q4, h⟩ := rf_b_some h
      have e4 : fr S_X11_angle m m3 := fr_trans e3 (fr_mono (fg_X11_refused q4) (by decide))
      obtain rfl := Option.some.inj h
      exact e4
    · obtain ⟨y4, m4, q5, h⟩ := rf_b_some h
      have e5 : fr S_X11_angle m m4 := fr_trans e3 (fr_mono (fg_X5_isMark q5) (by decide))
      rcases rf_ite_some h with ⟨_, h⟩ | ⟨_, h⟩
      · obtain ⟨y11, m11, q6, h⟩ := rf_b_some h
        have e6 : fr S_X11_angle m m11 := fr_trans e5 (fr_mono (fg_X11_refused q6) (by decide))
        obtain rfl := Option.some.inj h
        exact e6
      · rcases rf_ite_some h with ⟨_, h⟩ | ⟨_, h⟩
        · obtain ⟨y5, m5, q7, h⟩ := rf_b_some h
          have e7 : fr S_X11_angle m m5 := fr_trans e5 (fr_mono (fg_X11_refused q7) (by decide))
          obtain rfl := Option.some.inj h
          exact e7
        · rcases rf_ite_some h with ⟨_, h⟩ | ⟨_, h⟩
          · obtain ⟨y6, m6, q8, h⟩ := rf_b_some h
            have e8 : fr S_X11_angle m m6 := fr_trans e5 (fr_mono (fg_X11_refused q8) (by decide))
            obtain rfl := Option.some.inj h
            exact e8
          · rcases rf_ite_some h with ⟨_, h⟩ | ⟨_, h⟩
            · obtain ⟨y10, m10, q9, h⟩ := rf_b_some h
              have e9 : fr S_X11_angle m m10 := fr_trans e5 (fr_mono (fg_X11_refused q9) (by decide))
              obtain rfl := Option.some.inj h
              exact e9
            · rcases rf_ite_some h with ⟨_, h⟩ | ⟨_, h⟩
              · obtain ⟨y7, m7, q10, h⟩ := rf_b_some h
                have e10 : fr S_X11_angle m m7 := fr_trans e5 (fr_mono (fg_X3_addAngle q10) (by decide))
                obtain ⟨y8, m8, q11, h⟩ := rf_b_some h
                have e11 : fr S_X11_angle m m8 := fr_trans e10 (fr_mono (fg_X11_answered q11) (by decide))
                obtain rfl := Option.some.inj h
                exact e11
              · obtain ⟨y9, m9, q12, h⟩ := rf_b_some h
                have e12 : fr S_X11_angle m m9 := fr_trans e5 (fr_mono (fg_X11_refused q12) (by decide))
                obtain rfl := Option.some.inj h
                exact e12
def S_X11_wholeOf : fr_S := []
theorem fg_X11_wholeOf {w : rf_w} {m : rf_m} {a0 : Int32} {r : (Int32 × rf_m)} (h : g_X11_wholeOf w m a0 = some r) : fr S_X11_wholeOf m r.2 := by
  unfold g_X11_wholeOf at h
  have h := fr_vi h
  rcases rf_ite_some h with ⟨_, h⟩ | ⟨_, h⟩
  · rcases rf_ite_some h with ⟨_, h⟩ | ⟨_, h⟩
    · obtain rfl := Option.some.inj h
      exact (fr_refl _ m)
    · obtain rfl := Option.some.inj h
      exact (fr_refl _ m)
  · rcases rf_ite_some h with ⟨_, h⟩ | ⟨_, h⟩
    · rcases rf_ite_some h with ⟨_, h⟩ | ⟨_, h⟩
      · obtain rfl := Option.some.inj h
        exact (fr_refl _ m)
      · rcases rf_ite_some h with ⟨_, h⟩ | ⟨_, h⟩
        · have h := fr_vi h
          rcases rf_ite_some h with ⟨_, h⟩ | ⟨_, h⟩
          · obtain rfl := Option.some.inj h
            exact (fr_refl _ m)
          · obtain rfl := Option.some.inj h
            exact (fr_refl _ m)
        · obtain rfl := Option.some.inj h
          exact (fr_refl _ m)
    · obtain rfl := Option.some.inj h
      exact (fr_refl _ m)
def S_X11_read : fr_S := [(0, 0, some 11), (26, 26, some 7), (26, 26, some 19), (32, 32, none), (33, 33, none), (34, 34, none), (36, 36, none), (40, 40, none)]
theorem fg_X11_read {w : rf_w} {m : rf_m} {a1 : Int32} {a2 : Int32} {a3 : Int32} {a4 : Int32} {r : (Int32 × rf_m)} (h : g_X11_read w m a1 a2 a3 a4 = some r) : fr S_X11_read m r.2 := by
  unfold g_X11_read at h
  obtain ⟨y0, m0, q1, h⟩ := rf_b_some h
  have e1 : fr S_X11_read m m0 := fr_trans ((fr_refl _ m)) (fr_mono (fg_X3_isAngle q1) (by decide))
  rcases rf_ite_some h with ⟨_, h⟩ | ⟨_, h⟩
  · obtain ⟨y1, m1, q2, h⟩ := rf_b_some h
    have e2 : fr S_X11_read m m1 := fr_trans e1 (fr_mono (fg_X11_refused q2) (by decide))
    obtain rfl := Option.some.inj h
    exact e2
  · obtain ⟨y2, m2, q3, h⟩ := rf_b_some h
    have e3 : fr S_X11_read m m2 := fr_trans e1 (fr_mono (fg_X3_isParty q3) (by decide))
    rcases rf_ite_some h with ⟨_, h⟩ | ⟨_, h⟩
    · obtain ⟨y12, m12, q4, h⟩ := rf_b_some h
      have e4 : fr S_X11_read m m12 := fr_trans e3 (fr_mono (fg_X11_refused q4) (by decide))
      obtain rfl := Option.some.inj h
      exact e4
    · obtain ⟨y3, m3, q5, h⟩ := rf_b_some h
      have e5 : fr S_X11_read m m3 := fr_trans e3 (fr_mono (fg_X11_wholeOf q5) (by decide))
      obtain ⟨y4, m4, q6, h⟩ := rf_b_some h
      have e6 : fr S_X11_read m m4 := fr_trans e5 (fr_mono (fg_X11_isHour q6) (by decide))
      rcases rf_ite_some h with ⟨_, h⟩ | ⟨_, h⟩
      · obtain ⟨y5, m5, q7, h⟩ := rf_b_some h
        have e7 : fr S_X11_read m m5 := fr_trans e6 (fr_mono (fg_X11_refused q7) (by decide))
        obtain rfl := Option.some.inj h
        exact e7
      · rcases rf_ite_some h with ⟨_, h⟩ | ⟨_, h⟩
        · obtain ⟨y11, m11, q8, h⟩ := rf_b_some h
          have e8 : fr S_X11_read m m11 := fr_trans e6 (fr_mono (fg_X11_refused q8) (by decide))
          obtain rfl := Option.some.inj h
          exact e8
        · obtain ⟨y6, m6, q9, h⟩ := rf_b_some h
          have e9 : fr S_X11_read m m6 := fr_trans e6 (fr_mono (fg_X3_hasRoomFor q9) (by decide))
          rcases rf_ite_some h with ⟨_, h⟩ | ⟨_, h⟩
          · obtain ⟨y10, m10, q10, h⟩ := rf_b_some h
            have e10 : fr S_X11_read m m10 := fr_trans e9 (fr_mono (fg_X11_refused q10) (by decide))
            obtain rfl := Option.some.inj h
            exact e10
          · obtain ⟨y7, m7, q11, h⟩ := rf_b_some h
            have e11 : fr S_X11_read m m7 := fr_trans e9 (fr_mono (fg_X3_addReading q11) (by decide))
            obtain ⟨m8, q12, h⟩ := rf_bv_some h
            have e12 : fr S_X11_read m m8 := fr_trans e11 (fr_mono (fg_X3_sign q12) (by decide))
            obtain ⟨y9, m9, q13, h⟩ := rf_b_some h
            have e13 : fr S_X11_read m m9 := fr_trans e12 (fr_mono (fg_X11_answered q13) (by decide))
            obtain rfl := Option.some.inj h
            exact e13
def S_X11_reading : fr_S := [(18, 18, none), (25, 25, none), (31, 31, none), (32, 32, none), (34, 34, none), (35, 35, none), (40, 40, none)]
theorem fg_X11_reading {w : rf_w} {m : rf_m} {a1 : Int32} {a2 : Int32} {r : (Int32 × rf_m)} (h : g_X11_reading w m a1 a2 = some r) : fr S_X11_reading m r.2 := by
  unfold g_X11_reading at h
  obtain ⟨y0, m0, q1, h⟩ := rf_b_some h
  have e1 : fr S_X11_reading m m0 := fr_trans ((fr_refl _ m)) (fr_mono (fg_X3_isReading q1) (by decide))
  rcases rf_ite_some h with ⟨_, h⟩ | ⟨_, h⟩
  · obtain rfl := Option.some.inj h
    exact e1
  · obtain ⟨y1, m1, q2, h⟩ := rf_b_some h
    have e2 : fr S_X11_reading m m1 := fr_trans e1 (fr_mono (fg_X11_isWithin q2) (by decide))
    rcases rf_ite_some h with ⟨_, h⟩ | ⟨_, h⟩
    · obtain rfl := Option.some.inj h
      exact e2
    · obtain ⟨y2, m2, q3, h⟩ := rf_b_some h
      have e3 : fr S_X11_reading m m2 := fr_trans e2 (fr_mono (fg_X3_factOf q3) (by decide))
      obtain ⟨m3, q4, h⟩ := rf_bv_some h
      have e4 : fr S_X11_reading m m3 := fr_trans e3 (fr_mono (fg_X3_freshen q4) (by decide))
      obtain ⟨y4, m4, q5, h⟩ := rf_b_some h
      have e5 : fr S_X11_reading m m4 := fr_trans e4 (fr_mono (fg_X3_factOf q5) (by decide))
      obtain rfl := Option.some.inj h
      exact e5
def S_X11_strike : fr_S := [(0, 0, some 11), (26, 26, some 17), (26, 26, some 19), (36, 36, none), (37, 37, none), (38, 38, none), (39, 39, none), (40, 40, none)]
theorem fg_X11_strike {w : rf_w} {m : rf_m} {a1 : Int32} {a2 : Int32} {a3 : Int32} {r : (Int32 × rf_m)} (h : g_X11_strike w m a1 a2 a3 = some r) : fr S_X11_strike m r.2 := by
  unfold g_X11_strike at h
  obtain ⟨y0, m0, q1, h⟩ := rf_b_some h
  have e1 : fr S_X11_strike m m0 := fr_trans ((fr_refl _ m)) (fr_mono (fg_X3_isReading q1) (by decide))
  rcases rf_ite_some h with ⟨_, h⟩ | ⟨_, h⟩
  · obtain ⟨y1, m1, q2, h⟩ := rf_b_some h
    have e2 : fr S_X11_strike m m1 := fr_trans e1 (fr_mono (fg_X11_denied q2) (by decide))
    obtain ⟨_, h⟩ := rf_g_some h
    obtain rfl := Option.some.inj h
    exact e2
  · obtain ⟨y2, m2, q3, h⟩ := rf_b_some h
    have e3 : fr S_X11_strike m m2 := fr_trans e1 (fr_mono (fg_X3_isParty q3) (by decide))
    rcases rf_ite_some h with ⟨_, h⟩ | ⟨_, h⟩
    · obtain ⟨y12, m12, q4, h⟩ := rf_b_some h
      have e4 : fr S_X11_strike m m12 := fr_trans e3 (fr_mono (fg_X11_denied q4) (by decide))
      obtain ⟨_, h⟩ := rf_g_some h
      obtain rfl := Option.some.inj h
      exact e4
    · obtain ⟨_, h⟩ := rf_g_some h
      rcases rf_ite_some h with ⟨_, h⟩ | ⟨_, h⟩
      · obtain ⟨y4, m4, q5, h⟩ := rf_b_some h
        have e5 : fr S_X11_strike m m4 := fr_trans e3 (fr_mono (fg_X11_denied q5) (by decide))
        obtain ⟨_, h⟩ := rf_g_some h
        obtain rfl := Option.some.inj h
        exact e5
      · obtain ⟨y5, m5, q6, h⟩ := rf_b_some h
        have e6 : fr S_X11_strike m m5 := fr_trans e3 (fr_mono (fg_X3_isSeen q6) (by decide))
        rcases rf_ite_some h with ⟨_, h⟩ | ⟨_, h⟩
        · obtain ⟨y6, m6, q7, h⟩ := rf_b_some h
          have e7 : fr S_X11_strike m m6 := fr_trans e6 (fr_mono (fg_X11_denied q7) (by decide))
          obtain ⟨_, h⟩ := rf_g_some h
          obtain rfl := Option.some.inj h
          exact e7
        · obtain ⟨y7, m7, q8, h⟩ := rf_b_some h
          have e8 : fr S_X11_strike m m7 := fr_trans e6 (fr_mono (fg_X3_isStruck q8) (by decide))
          rcases rf_ite_some h with ⟨_, h⟩ | ⟨_, h⟩
          · obtain ⟨y11, m11, q9, h⟩ := rf_b_some h
            have e9 : fr S_X11_strike m m11 := fr_trans e8 (fr_mono (fg_X11_denied q9) (by decide))
            obtain ⟨_, h⟩ := rf_g_some h
            obtain rfl := Option.some.inj h
            exact e9
          · obtain ⟨y8, m8, q10, h⟩ := rf_b_some h
            have e10 : fr S_X11_strike m m8 := fr_trans e8 (fr_mono (fg_X3_addStrike q10) (by decide))
            rcases rf_ite_some h with ⟨_, h⟩ | ⟨_, h⟩
            · obtain ⟨y9, m9, q11, h⟩ := rf_b_some h
              have e11 : fr S_X11_strike m m9 := fr_trans e10 (fr_mono (fg_X11_denied q11) (by decide))
              obtain ⟨_, h⟩ := rf_g_some h
              obtain rfl := Option.some.inj h
              exact e11
            · obtain ⟨y10, m10, q12, h⟩ := rf_b_some h
              have e12 : fr S_X11_strike m m10 := fr_trans e10 (fr_mono (fg_X11_granted q12) (by decide))
              obtain ⟨_, h⟩ := rf_g_some h
              obtain rfl := Option.some.inj h
              exact e12
def S_X11_angleOf : fr_S := [(18, 18, none), (25, 25, none), (31, 31, none), (32, 32, none), (34, 34, none), (35, 35, none), (40, 40, none)]
theorem fg_X11_angleOf {w : rf_w} {m : rf_m} {a1 : Int32} {a2 : Int32} {r : (Int32 × rf_m)} (h : g_X11_angleOf w m a1 a2 = some r) : fr S_X11_angleOf m r.2 := by
  unfold g_X11_angleOf at h
  obtain ⟨y0, m0, q1, h⟩ := rf_b_some h
  have e1 : fr S_X11_angleOf m m0 := fr_trans ((fr_refl _ m)) (fr_mono (fg_X3_isAngle q1) (by decide))
  rcases rf_ite_some h with ⟨_, h⟩ | ⟨_, h⟩
  · obtain rfl := Option.some.inj h
    exact e1
  · obtain ⟨m1, q2, h⟩ := rf_bv_some h
    have e2 : fr S_X11_angleOf m m1 := fr_trans e1 (fr_mono (fg_X3_freshen q2) (by decide))
    obtain ⟨y2, m2, q3, h⟩ := rf_b_some h
    have e3 : fr S_X11_angleOf m m2 := fr_trans e2 (fr_mono (fg_X11_isWithin q3) (by decide))
    rcases rf_ite_some h with ⟨_, h⟩ | ⟨_, h⟩
    · rcases rf_ite_some h with ⟨_, h⟩ | ⟨_, h⟩
      · obtain ⟨y3, m3, q4, h⟩ := rf_b_some h
        have e4 : fr S_X11_angleOf m m3 := fr_trans e3 (fr_mono (fg_X3_weightOf q4) (by decide))
        obtain rfl := Option.some.inj h
        exact e4
      · rcases rf_ite_some h with ⟨_, h⟩ | ⟨_, h⟩
        · obtain ⟨y4, m4, q5, h⟩ := rf_b_some h
          have e5 : fr S_X11_angleOf m m4 := fr_trans e3 (fr_mono (fg_X3_isAgain q5) (by decide))
          rcases rf_ite_some h with ⟨_, h⟩ | ⟨_, h⟩
          · obtain rfl := Option.some.inj h
            exact e5
          · obtain rfl := Option.some.inj h
            exact e5
        · rcases rf_ite_some h with ⟨_, h⟩ | ⟨_, h⟩
          · obtain ⟨_, h⟩ := rf_g_some h
            obtain rfl := Option.some.inj h
            exact e3
          · obtain rfl := Option.some.inj h
            exact e3
    · obtain ⟨y6, m6, q6, h⟩ := rf_b_some h
      have e6 : fr S_X11_angleOf m m6 := fr_trans e3 (fr_mono (fg_X3_tallyOf q6) (by decide))
      obtain rfl := Option.some.inj h
      exact e6
def S_X11_known : fr_S := [(18, 18, none), (25, 25, none), (26, 26, some 19), (31, 31, none), (32, 32, none), (34, 34, none), (35, 35, none), (40, 40, none)]
theorem fg_X11_known {w : rf_w} {m : rf_m} {a1 : Int32} {a2 : Int32} {r : (Int32 × rf_m)} (h : g_X11_known w m a1 a2 = some r) : fr S_X11_known m r.2 := by
  unfold g_X11_known at h
  obtain ⟨y0, m0, q1, h⟩ := rf_b_some h
  have e1 : fr S_X11_known m m0 := fr_trans ((fr_refl _ m)) (fr_mono (fg_X3_isAngle q1) (by decide))
  rcases rf_ite_some h with ⟨_, h⟩ | ⟨_, h⟩
  · obtain rfl := Option.some.inj h
    exact e1
  · obtain ⟨y1, m1, q2, h⟩ := rf_b_some h
    have e2 : fr S_X11_known m m1 := fr_trans e1 (fr_mono (fg_X11_isWithin q2) (by decide))
    rcases rf_ite_some h with ⟨_, h⟩ | ⟨_, h⟩
    · obtain rfl := Option.some.inj h
      exact e2
    · obtain ⟨m2, q3, h⟩ := rf_bv_some h
      have e3 : fr S_X11_known m m2 := fr_trans e2 (fr_mono (fg_X3_recount q3) (by decide))
      obtain ⟨_, h⟩ := rf_g_some h
      have h := fr_vi h
      obtain ⟨m5, q4, h⟩ := rf_bv_some h
      have e4 : fr S_X11_known m m5 := fr_trans e3 (fr_mono (fg_X3_forget q4) (by decide))
      obtain rfl := Option.some.inj h
      exact e4
def S_X11_feed : fr_S := [(13, 13, some 2), (15, 15, none)]
theorem fg_X11_feed {w : rf_w} {m : rf_m} {a1 : Int32} {a2 : Int32} {a3 : Int32} {a4 : Int32} {a5 : Int32} {r : (Int32 × rf_m)} (h : g_X11_feed w m a1 a2 a3 a4 a5 = some r) : fr S_X11_feed m r.2 := by
  unfold g_X11_feed at h
  obtain ⟨y0, m0, q1, h⟩ := rf_b_some h
  have e1 : fr S_X11_feed m m0 := fr_trans ((fr_refl _ m)) (fr_mono (fg_X9_takeIn q1) (by decide))
  obtain rfl := Option.some.inj h
  exact e1
def S_X11_isTime : fr_S := []
theorem fg_X11_isTime {w : rf_w} {m : rf_m} {a0 : Int32} {a1 : Int32} {r : (Int32 × rf_m)} (h : g_X11_isTime w m a0 a1 = some r) : fr S_X11_isTime m r.2 := by
  unfold g_X11_isTime at h
  obtain ⟨y0, m0, q1, h⟩ := rf_b_some h
  have e1 : fr S_X11_isTime m m0 := fr_trans ((fr_refl _ m)) (fr_mono (fg_X11_isDay q1) (by decide))
  rcases rf_ite_some h with ⟨_, h⟩ | ⟨_, h⟩
  · obtain rfl := Option.some.inj h
    exact e1
  · obtain ⟨y1, m1, q2, h⟩ := rf_b_some h
    have e2 : fr S_X11_isTime m m1 := fr_trans e1 (fr_mono (fg_X11_isDay q2) (by decide))
    rcases rf_ite_some h with ⟨_, h⟩ | ⟨_, h⟩
    · obtain rfl := Option.some.inj h
      exact e2
    · rcases rf_ite_some h with ⟨_, h⟩ | ⟨_, h⟩
      · obtain rfl := Option.some.inj h
        exact e2
      · obtain rfl := Option.some.inj h
        exact e2
def S_X11_fault : fr_S := []
theorem fg_X11_fault {w : rf_w} {m : rf_m} {r : (Int32 × rf_m)} (h : g_X11_fault w m = some r) : fr S_X11_fault m r.2 := by
  unfold g_X11_fault at h
  obtain rfl := Option.some.inj h
  exact (fr_refl _ m)
def S_X11_where : fr_S := []
theorem fg_X11_where {w : rf_w} {m : rf_m} {r : (Int32 × rf_m)} (h : g_X11_where w m = some r) : fr S_X11_where m r.2 := by
  unfold g_X11_where at h
  rcases rf_ite_some h with ⟨_, h⟩ | ⟨_, h⟩
  · obtain rfl := Option.some.inj h
    exact (fr_refl _ m)
  · obtain rfl := Option.some.inj h
    exact (fr_refl _ m)
def S_X11_force : fr_S := [(0, 0, some 11), (20, 20, none), (21, 21, none), (26, 26, some 19), (40, 40, none)]
theorem fg_X11_force {w : rf_w} {m : rf_m} {a1 : Int32} {a2 : Int32} {a3 : Int32} {r : (Int32 × rf_m)} (h : g_X11_force w m a1 a2 a3 = some r) : fr S_X11_force m r.2 := by
  unfold g_X11_force at h
  obtain ⟨y0, m0, q1, h⟩ := rf_b_some h
  have e1 : fr S_X11_force m m0 := fr_trans ((fr_refl _ m)) (fr_mono (fg_X11_isWithin q1) (by decide))
  rcases rf_ite_some h with ⟨_, h⟩ | ⟨_, h⟩
  · obtain ⟨y8, m8, q2, h⟩ := rf_b_some h
    have e2 : fr S_X11_force m m8 := fr_trans e1 (fr_mono (fg_X11_denied q2) (by decide))
    obtain ⟨_, h⟩ := rf_g_some h
    obtain rfl := Option.some.inj h
    exact e2
  · obtain ⟨y1, m1, q3, h⟩ := rf_b_some h
    have e3 : fr S_X11_force m m1 := fr_trans e1 (fr_mono (fg_X11_isTime q3) (by decide))
    rcases rf_ite_some h with ⟨_, h⟩ | ⟨_, h⟩
    · obtain ⟨y7, m7, q4, h⟩ := rf_b_some h
      have e4 : fr S_X11_force m m7 := fr_trans e3 (fr_mono (fg_X11_denied q4) (by decide))
      obtain ⟨_, h⟩ := rf_g_some h
      obtain rfl := Option.some.inj h
      exact e4
    · obtain ⟨m2, q5, h⟩ := rf_bv_some h
      have e5 : fr S_X11_force m m2 := fr_trans e3 (fr_mono (fg_X9_putInForce q5) (by decide))
      obtain ⟨y3, m3, q6, h⟩ := rf_b_some h
      have e6 : fr S_X11_force m m3 := fr_trans e5 (fr_mono (fg_X9_isStriking q6) (by decide))
      rcases rf_ite_some h with ⟨_, h⟩ | ⟨_, h⟩
      · obtain ⟨y4, m4, q7, h⟩ := rf_b_some h
        have e7 : fr S_X11_force m m4 := fr_trans e6 (fr_mono (fg_X11_granted q7) (by decide))
        obtain ⟨_, h⟩ := rf_g_some h
        obtain rfl := Option.some.inj h
        exact e7
      · obtain ⟨m5, q8, h⟩ := rf_bv_some h
        have e8 : fr S_X11_force m m5 := fr_trans e6 (fr_mono (fg_X3_forgetAll q8) (by decide))
        obtain ⟨y6, m6, q9, h⟩ := rf_b_some h
        have e9 : fr S_X11_force m m6 := fr_trans e8 (fr_mono (fg_X11_granted q9) (by decide))
        obtain ⟨_, h⟩ := rf_g_some h
        obtain rfl := Option.some.inj h
        exact e9
def S_X11_told : fr_S := [(18, 18, none), (25, 25, none)]
theorem fg_X11_told {w : rf_w} {m : rf_m} {a1 : Int32} {r : (Int32 × rf_m)} (h : g_X11_told w m a1 = some r) : fr S_X11_told m r.2 := by
  unfold g_X11_told at h
  rcases rf_ite_some h with ⟨_, h⟩ | ⟨_, h⟩
  · obtain ⟨y0, m0, q1, h⟩ := rf_b_some h
    have e1 : fr S_X11_told m m0 := fr_trans ((fr_refl _ m)) (fr_mono (fg_X9_leastAngle q1) (by decide))
    obtain rfl := Option.some.inj h
    exact e1
  · rcases rf_ite_some h with ⟨_, h⟩ | ⟨_, h⟩
    · obtain ⟨y1, m1, q2, h⟩ := rf_b_some h
      have e2 : fr S_X11_told m m1 := fr_trans ((fr_refl _ m)) (fr_mono (fg_X9_allowedMiss q2) (by decide))
      obtain rfl := Option.some.inj h
      exact e2
    · obtain rfl := Option.some.inj h
      exact (fr_refl _ m)
def S_X11_base : fr_S := [(0, 0, some 11), (41, 41, some 1), (43, 43, none), (44, 44, none)]
theorem fg_X11_base {w : rf_w} {m : rf_m} {a1 : Int32} {a2 : Int32} {a3 : Int32} {r : (Int32 × rf_m)} (h : g_X11_base w m a1 a2 a3 = some r) : fr S_X11_base m r.2 := by
  unfold g_X11_base at h
  obtain ⟨y0, m0, q1, h⟩ := rf_b_some h
  have e1 : fr S_X11_base m m0 := fr_trans ((fr_refl _ m)) (fr_mono (fg_X5_isMark q1) (by decide))
  rcases rf_ite_some h with ⟨_, h⟩ | ⟨_, h⟩
  · obtain ⟨y1, m1, q2, h⟩ := rf_b_some h
    have e2 : fr S_X11_base m m1 := fr_trans e1 (fr_mono (fg_X11_refused q2) (by decide))
    obtain rfl := Option.some.inj h
    exact e2
  · obtain ⟨y2, m2, q3, h⟩ := rf_b_some h
    have e3 : fr S_X11_base m m2 := fr_trans e1 (fr_mono (fg_X5_isMark q3) (by decide))
    rcases rf_ite_some h with ⟨_, h⟩ | ⟨_, h⟩
    · obtain ⟨y3, m3, q4, h⟩ := rf_b_some h
      have e4 : fr S_X11_base m m3 := fr_trans e3 (fr_mono (fg_X11_refused q4) (by decide))
      obtain rfl := Option.some.inj h
      exact e4
    · obtain ⟨y4, m4, q5, h⟩ := rf_b_some h
      have e5 : fr S_X11_base m m4 := fr_trans e3 (fr_mono (fg_X3_isParty q5) (by decide))
      rcases rf_ite_some h with ⟨_, h⟩ | ⟨_, h⟩
      · obtain ⟨y11, m11, q6, h⟩ := rf_b_some h
        have e6 : fr S_X11_base m m11 := fr_trans e5 (fr_mono (fg_X11_refused q6) (by decide))
        obtain rfl := Option.some.inj h
        exact e6
      · rcases rf_ite_some h with ⟨_, h⟩ | ⟨_, h⟩
        · obtain ⟨y5, m5, q7, h⟩ := rf_b_some h
          have e7 : fr S_X11_base m m5 := fr_trans e5 (fr_mono (fg_X11_refused q7) (by decide))
          obtain rfl := Option.some.inj h
          exact e7
        · obtain ⟨y6, m6, q8, h⟩ := rf_b_some h
          have e8 : fr S_X11_base m m6 := fr_trans e5 (fr_mono (fg_X6_mayLay q8) (by decide))
          rcases rf_ite_some h with ⟨_, h⟩ | ⟨_, h⟩
          · obtain ⟨y10, m10, q9, h⟩ := rf_b_some h
            have e9 : fr S_X11_base m m10 := fr_trans e8 (fr_mono (fg_X11_refused q9) (by decide))
            obtain rfl := Option.some.inj h
            exact e9
          · rcases rf_ite_some h with ⟨_, h⟩ | ⟨_, h⟩
            · obtain ⟨y7, m7, q10, h⟩ := rf_b_some h
              have e10 : fr S_X11_base m m7 := fr_trans e8 (fr_mono (fg_X6_addBase q10) (by decide))
              obtain ⟨y8, m8, q11, h⟩ := rf_b_some h
              have e11 : fr S_X11_base m m8 := fr_trans e10 (fr_mono (fg_X11_answered q11) (by decide))
              obtain rfl := Option.some.inj h
              exact e11
            · obtain ⟨y9, m9, q12, h⟩ := rf_b_some h
              have e12 : fr S_X11_base m m9 := fr_trans e8 (fr_mono (fg_X11_refused q12) (by decide))
              obtain rfl := Option.some.inj h
              exact e12
def S_X11_bar : fr_S := [(0, 0, some 11), (42, 42, none), (45, 45, none), (46, 46, none), (47, 47, none)]
theorem fg_X11_bar {w : rf_w} {m : rf_m} {a1 : Int32} {a2 : Int32} {a3 : Int32} {a4 : Int32} {r : (Int32 × rf_m)} (h : g_X11_bar w m a1 a2 a3 a4 = some r) : fr S_X11_bar m r.2 := by
  unfold g_X11_bar at h
  obtain ⟨y0, m0, q1, h⟩ := rf_b_some h
  have e1 : fr S_X11_bar m m0 := fr_trans ((fr_refl _ m)) (fr_mono (fg_X6_isBase q1) (by decide))
  rcases rf_ite_some h with ⟨_, h⟩ | ⟨_, h⟩
  · obtain ⟨y12, m12, q2, h⟩ := rf_b_some h
    have e2 : fr S_X11_bar m m12 := fr_trans e1 (fr_mono (fg_X11_refused q2) (by decide))
    obtain rfl := Option.some.inj h
    exact e2
  · obtain ⟨y1, m1, q3, h⟩ := rf_b_some h
    have e3 : fr S_X11_bar m m1 := fr_trans e1 (fr_mono (fg_X11_isWithin q3) (by decide))
    rcases rf_ite_some h with ⟨_, h⟩ | ⟨_, h⟩
    · obtain ⟨y2, m2, q4, h⟩ := rf_b_some h
      have e4 : fr S_X11_bar m m2 := fr_trans e3 (fr_mono (fg_X11_refused q4) (by decide))
      obtain rfl := Option.some.inj h
      exact e4
    · obtain ⟨y3, m3, q5, h⟩ := rf_b_some h
      have e5 : fr S_X11_bar m m3 := fr_trans e3 (fr_mono (fg_X11_isWithin q5) (by decide))
      rcases rf_ite_some h with ⟨_, h⟩ | ⟨_, h⟩
      · obtain ⟨y4, m4, q6, h⟩ := rf_b_some h
        have e6 : fr S_X11_bar m m4 := fr_trans e5 (fr_mono (fg_X11_refused q6) (by decide))
        obtain rfl := Option.some.inj h
        exact e6
      · obtain ⟨y5, m5, q7, h⟩ := rf_b_some h
        have e7 : fr S_X11_bar m m5 := fr_trans e5 (fr_mono (fg_X11_isWithin q7) (by decide))
        rcases rf_ite_some h with ⟨_, h⟩ | ⟨_, h⟩
        · obtain ⟨y6, m6, q8, h⟩ := rf_b_some h
          have e8 : fr S_X11_bar m m6 := fr_trans e7 (fr_mono (fg_X11_refused q8) (by decide))
          obtain rfl := Option.some.inj h
          exact e8
        · rcases rf_ite_some h with ⟨_, h⟩ | ⟨_, h⟩
          · obtain ⟨_, h⟩ := rf_g_some h
            rcases rf_ite_some h with ⟨_, h⟩ | ⟨_, h⟩
            · obtain ⟨y8, m8, q9, h⟩ := rf_b_some h
              have e9 : fr S_X11_bar m m8 := fr_trans e7 (fr_mono (fg_X6_addBar q9) (by decide))
              obtain ⟨y9, m9, q10, h⟩ := rf_b_some h
              have e10 : fr S_X11_bar m m9 := fr_trans e9 (fr_mono (fg_X11_answered q10) (by decide))
              obtain rfl := Option.some.inj h
              exact e10
            · obtain ⟨y10, m10, q11, h⟩ := rf_b_some h
              have e11 : fr S_X11_bar m m10 := fr_trans e7 (fr_mono (fg_X11_refused q11) (by decide))
              obtain rfl := Option.some.inj h
              exact e11
          · obtain ⟨y11, m11, q12, h⟩ := rf_b_some h
            have e12 : fr S_X11_bar m m11 := fr_trans e7 (fr_mono (fg_X11_refused q12) (by decide))
            obtain rfl := Option.some.inj h
            exact e12
def S_X11_growth : fr_S := [(0, 0, some 11), (41, 41, some 2)]
theorem fg_X11_growth {w : rf_w} {m : rf_m} {a1 : Int32} {r : (Int32 × rf_m)} (h : g_X11_growth w m a1 = some r) : fr S_X11_growth m r.2 := by
  unfold g_X11_growth at h
  obtain ⟨y0, m0, q1, h⟩ := rf_b_some h
  have e1 : fr S_X11_growth m m0 := fr_trans ((fr_refl _ m)) (fr_mono (fg_X11_isWithin q1) (by decide))
  rcases rf_ite_some h with ⟨_, h⟩ | ⟨_, h⟩
  · obtain ⟨y2, m2, q2, h⟩ := rf_b_some h
    have e2 : fr S_X11_growth m m2 := fr_trans e1 (fr_mono (fg_X11_denied q2) (by decide))
    obtain ⟨_, h⟩ := rf_g_some h
    obtain rfl := Option.some.inj h
    exact e2
  · obtain ⟨y1, m1, q3, h⟩ := rf_b_some h
    have e3 : fr S_X11_growth m m1 := fr_trans (fr_i e1 (by decide)) (fr_mono (fg_X11_granted q3) (by decide))
    obtain ⟨_, h⟩ := rf_g_some h
    obtain rfl := Option.some.inj h
    exact e3
def S_X11_baseOf : fr_S := []
theorem fg_X11_baseOf {w : rf_w} {m : rf_m} {a1 : Int32} {a2 : Int32} {r : (Int32 × rf_m)} (h : g_X11_baseOf w m a1 a2 = some r) : fr S_X11_baseOf m r.2 := by
  unfold g_X11_baseOf at h
  obtain ⟨y0, m0, q1, h⟩ := rf_b_some h
  have e1 : fr S_X11_baseOf m m0 := fr_trans ((fr_refl _ m)) (fr_mono (fg_X6_isBase q1) (by decide))
  rcases rf_ite_some h with ⟨_, h⟩ | ⟨_, h⟩
  · obtain rfl := Option.some.inj h
    exact e1
  · rcases rf_ite_some h with ⟨_, h⟩ | ⟨_, h⟩
    · obtain ⟨y1, m1, q2, h⟩ := rf_b_some h
      have e2 : fr S_X11_baseOf m m1 := fr_trans e1 (fr_mono (fg_X6_lengthOf q2) (by decide))
      obtain rfl := Option.some.inj h
      exact e2
    · rcases rf_ite_some h with ⟨_, h⟩ | ⟨_, h⟩
      · obtain ⟨_, h⟩ := rf_g_some h
        obtain rfl := Option.some.inj h
        exact e1
      · rcases rf_ite_some h with ⟨_, h⟩ | ⟨_, h⟩
        · obtain ⟨y3, m3, q3, h⟩ := rf_b_some h
          have e3 : fr S_X11_baseOf m m3 := fr_trans e1 (fr_mono (fg_X6_leastOf q3) (by decide))
          obtain rfl := Option.some.inj h
          exact e3
        · rcases rf_ite_some h with ⟨_, h⟩ | ⟨_, h⟩
          · obtain ⟨y4, m4, q4, h⟩ := rf_b_some h
            have e4 : fr S_X11_baseOf m m4 := fr_trans e1 (fr_mono (fg_X6_mostOf q4) (by decide))
            obtain rfl := Option.some.inj h
            exact e4
          · rcases rf_ite_some h with ⟨_, h⟩ | ⟨_, h⟩
            · obtain ⟨y5, m5, q5, h⟩ := rf_b_some h
              have e5 : fr S_X11_baseOf m m5 := fr_trans e1 (fr_mono (fg_X6_laidAgain q5) (by decide))
              obtain rfl := Option.some.inj h
              exact e5
            · obtain rfl := Option.some.inj h
              exact e1
def S_X11_triangle : fr_S := [(0, 0, some 11), (50, 50, some 0), (51, 51, none), (52, 52, none)]
theorem fg_X11_triangle {w : rf_w} {m : rf_m} {a1 : Int32} {a2 : Int32} {a3 : Int32} {a4 : Int32} {r : (Int32 × rf_m)} (h : g_X11_triangle w m a1 a2 a3 a4 = some r) : fr S_X11_triangle m r.2 := by
  unfold g_X11_triangle at h
  obtain ⟨y0, m0, q1, h⟩ := rf_b_some h
  have e1 : fr S_X11_triangle m m0 := fr_trans ((fr_refl _ m)) (fr_mono (fg_X3_isAngle q1) (by decide))
  rcases rf_ite_some h with ⟨_, h⟩ | ⟨_, h⟩
  · obtain ⟨y1, m1, q2, h⟩ := rf_b_some h
    have e2 : fr S_X11_triangle m m1 := fr_trans e1 (fr_mono (fg_X11_refused q2) (by decide))
    obtain rfl := Option.some.inj h
    exact e2
  · obtain ⟨y2, m2, q3, h⟩ := rf_b_some h
    have e3 : fr S_X11_triangle m m2 := fr_trans e1 (fr_mono (fg_X3_isAngle q3) (by decide))
    rcases rf_ite_some h with ⟨_, h⟩ | ⟨_, h⟩
    · obtain ⟨y3, m3, q4, h⟩ := rf_b_some h
      have e4 : fr S_X11_triangle m m3 := fr_trans e3 (fr_mono (fg_X11_refused q4) (by decide))
      obtain rfl := Option.some.inj h
      exact e4
    · obtain ⟨y4, m4, q5, h⟩ := rf_b_some h
      have e5 : fr S_X11_triangle m m4 := fr_trans e3 (fr_mono (fg_X3_isAngle q5) (by decide))
      rcases rf_ite_some h with ⟨_, h⟩ | ⟨_, h⟩
      · obtain ⟨y12, m12, q6, h⟩ := rf_b_some h
        have e6 : fr S_X11_triangle m m12 := fr_trans e5 (fr_mono (fg_X11_refused q6) (by decide))
        obtain rfl := Option.some.inj h
        exact e6
      · obtain ⟨y5, m5, q7, h⟩ := rf_b_some h
        have e7 : fr S_X11_triangle m m5 := fr_trans e5 (fr_mono (fg_X11_isWithin q7) (by decide))
        rcases rf_ite_some h with ⟨_, h⟩ | ⟨_, h⟩
        · obtain ⟨y11, m11, q8, h⟩ := rf_b_some h
          have e8 : fr S_X11_triangle m m11 := fr_trans e7 (fr_mono (fg_X11_refused q8) (by decide))
          obtain rfl := Option.some.inj h
          exact e8
        · obtain ⟨y6, m6, q9, h⟩ := rf_b_some h
          have e9 : fr S_X11_triangle m m6 := fr_trans e7 (fr_mono (fg_X7_isTriangular q9) (by decide))
          rcases rf_ite_some h with ⟨_, h⟩ | ⟨_, h⟩
          · obtain ⟨y10, m10, q10, h⟩ := rf_b_some h
            have e10 : fr S_X11_triangle m m10 := fr_trans e9 (fr_mono (fg_X11_refused q10) (by decide))
            obtain rfl := Option.some.inj h
            exact e10
          · rcases rf_ite_some h with ⟨_, h⟩ | ⟨_, h⟩
            · obtain ⟨y7, m7, q11, h⟩ := rf_b_some h
              have e11 : fr S_X11_triangle m m7 := fr_trans e9 (fr_mono (fg_X7_addTriangle q11) (by decide))
              obtain ⟨y8, m8, q12, h⟩ := rf_b_some h
              have e12 : fr S_X11_triangle m m8 := fr_trans e11 (fr_mono (fg_X11_answered q12) (by decide))
              obtain rfl := Option.some.inj h
              exact e12
            · obtain ⟨y9, m9, q13, h⟩ := rf_b_some h
              have e13 : fr S_X11_triangle m m9 := fr_trans e9 (fr_mono (fg_X11_refused q13) (by decide))
              obtain rfl := Option.some.inj h
              exact e13
def S_X11_isAhead__205 : fr_S := []
theorem fg_X11_isAhead__205_2_b {w : rf_w} {rec2 : Int32 → Int32 → rf_m → Option (Int32 × rf_m)} {a1 : Int32} {a2 : Int32} {m : rf_m} (hr_rec2 : ∀ {x0 : Int32} {x1 : Int32} {m : rf_m} {r : (Int32 × rf_m)}, rec2 x0 x1 m = some r → fr S_X11_isAhead__205 m r.2) {r : (Int32 × rf_m)} (h : g_X11_isAhead__205_2_b w rec2 a1 a2 m = some r) : fr S_X11_isAhead__205 m r.2 := by
  unfold g_X11_isAhead__205_2_b at h
  rcases rf_ite_some h with ⟨_, h⟩ | ⟨_, h⟩
  · obtain rfl := Option.some.inj h
    exact (fr_refl _ m)
  · obtain ⟨_, h⟩ := rf_g_some h
    obtain ⟨_, h⟩ := rf_g_some h
    rcases rf_ite_some h with ⟨_, h⟩ | ⟨_, h⟩
    · obtain rfl := Option.some.inj h
      exact (fr_refl _ m)
    · exact fr_trans ((fr_refl _ m)) (hr_rec2 h)
theorem fg_X11_isAhead__205_2 {w : rf_w} (n : Nat) : ∀ {a1 : Int32} {a2 : Int32} {m : rf_m} {r : (Int32 × rf_m)}, g_X11_isAhead__205_2 w n a1 a2 m = some r → fr S_X11_isAhead__205 m r.2 := by
  induction n with
  | zero => intro a1 a2 m r h; cases h
  | succ n ih =>
    intro a1 a2 m r h
    exact fg_X11_isAhead__205_2_b ih h
theorem fg_X11_isAhead__205 {w : rf_w} {m : rf_m} {a1 : Int32} {r : (Int32 × rf_m)} (h : g_X11_isAhead__205 w m a1 = some r) : fr S_X11_isAhead__205 m r.2 := by
  unfold g_X11_isAhead__205 at h
  exact fr_trans ((fr_refl _ m)) (fr_mono (fg_X11_isAhead__205_2 _ h) (by decide))
def S_X7_goesRound__205 : fr_S := []
theorem fg_X7_goesRound__205_16_b {w : rf_w} {rec16 : Int32 → Int32 → Int32 → rf_m → Option (Int32 × rf_m)} {a2 : Int32} {a3 : Int32} {a4 : Int32} {m : rf_m} (hr_rec16 : ∀ {x0 : Int32} {x1 : Int32} {x2 : Int32} {m : rf_m} {r : (Int32 × rf_m)}, rec16 x0 x1 x2 m = some r → fr S_X7_goesRound__205 m r.2) {r : (Int32 × rf_m)} (h : g_X7_goesRound__205_16_b w rec16 a2 a3 a4 m = some r) : fr S_X7_goesRound__205 m r.2 := by
  unfold g_X7_goesRound__205_16_b at h
  rcases rf_ite_some h with ⟨_, h⟩ | ⟨_, h⟩
  · obtain rfl := Option.some.inj h
    exact (fr_refl _ m)
  · obtain ⟨_, h⟩ := rf_g_some h
    obtain ⟨_, h⟩ := rf_g_some h
    obtain ⟨_, h⟩ := rf_g_some h
    rcases rf_ite_some h with ⟨_, h⟩ | ⟨_, h⟩
    · obtain ⟨_, h⟩ := rf_g_some h
      obtain ⟨_, h⟩ := rf_g_some h
      obtain ⟨_, h⟩ := rf_g_some h
      rcases rf_ite_some h with ⟨_, h⟩ | ⟨_, h⟩
      · obtain ⟨y6, m6, q1, h⟩ := rf_b_some h
        have e1 : fr S_X7_goesRound__205 m m6 := fr_trans ((fr_refl _ m)) (fr_mono (fg_X11_isAhead__205 q1) (by decide))
        rcases rf_ite_some h with ⟨_, h⟩ | ⟨_, h⟩
        · obtain ⟨_, h⟩ := rf_g_some h
          have h := fr_vi h
          exact fr_trans e1 (hr_rec16 h)
        · obtain rfl := Option.some.inj h
          exact e1
      · obtain rfl := Option.some.inj h
        exact (fr_refl _ m)
    · obtain rfl := Option.some.inj h
      exact (fr_refl _ m)
theorem fg_X7_goesRound__205_16 {w : rf_w} (n : Nat) : ∀ {a2 : Int32} {a3 : Int32} {a4 : Int32} {m : rf_m} {r : (Int32 × rf_m)}, g_X7_goesRound__205_16 w n a2 a3 a4 m = some r → fr S_X7_goesRound__205 m r.2 := by
  induction n with
  | zero => intro a2 a3 a4 m r h; cases h
  | succ n ih =>
    intro a2 a3 a4 m r h
    exact fg_X7_goesRound__205_16_b ih h
theorem fg_X7_goesRound__205 {w : rf_w} {m : rf_m} {a2 : Int32} {r : (Int32 × rf_m)} (h : g_X7_goesRound__205 w m a2 = some r) : fr S_X7_goesRound__205 m r.2 := by
  unfold g_X7_goesRound__205 at h
  rcases rf_ite_some h with ⟨_, h⟩ | ⟨_, h⟩
  · obtain ⟨_, h⟩ := rf_g_some h
    have h := fr_vi h
    exact fr_trans ((fr_refl _ m)) (fr_mono (fg_X7_goesRound__205_16 _ h) (by decide))
  · obtain rfl := Option.some.inj h
    exact (fr_refl _ m)
def S_X7_addRound__205 : fr_S := [(50, 50, some 1), (53, 53, none), (54, 54, none)]
theorem fg_X7_addRound__205 {w : rf_w} {m : rf_m} {a2 : Int32} {r : (Int32 × rf_m)} (h : g_X7_addRound__205 w m a2 = some r) : fr S_X7_addRound__205 m r.2 := by
  unfold g_X7_addRound__205 at h
  obtain ⟨_, h⟩ := rf_g_some h
  obtain ⟨_, h⟩ := rf_g_some h
  obtain rfl := Option.some.inj h
  exact fr_i (fr_i (fr_ci ((fr_refl _ m)) (by decide)) (fr_c_in (by decide) _)) (by decide)
def S_X11_fillRow : fr_S := [(205, 205, none)]
theorem fg_X11_fillRow_48_b {w : rf_w} {rec48 : Int32 → rf_m → Option (Int32 × rf_m)} {a7 : Int32} {m : rf_m} (hr_rec48 : ∀ {x0 : Int32} {m : rf_m} {r : (Int32 × rf_m)}, rec48 x0 m = some r → fr S_X11_fillRow m r.2) {r : (Int32 × rf_m)} (h : g_X11_fillRow_48_b w rec48 a7 m = some r) : fr S_X11_fillRow m r.2 := by
  unfold g_X11_fillRow_48_b at h
  rcases rf_ite_some h with ⟨_, h⟩ | ⟨_, h⟩
  · obtain rfl := Option.some.inj h
    exact (fr_refl _ m)
  · obtain ⟨_, h⟩ := rf_g_some h
    rcases rf_ite_some h with ⟨_, h⟩ | ⟨_, h⟩
    · obtain rfl := Option.some.inj h
      exact (fr_refl _ m)
    · exact fr_trans ((fr_refl _ m)) (hr_rec48 h)
theorem fg_X11_fillRow_48 {w : rf_w} (n : Nat) : ∀ {a7 : Int32} {m : rf_m} {r : (Int32 × rf_m)}, g_X11_fillRow_48 w n a7 m = some r → fr S_X11_fillRow m r.2 := by
  induction n with
  | zero => intro a7 m r h; cases h
  | succ n ih =>
    intro a7 m r h
    exact fg_X11_fillRow_48_b ih h
theorem fg_X11_fillRow {w : rf_w} {m : rf_m} {a1 : Int32} {a2 : Int32} {a3 : Int32} {a4 : Int32} {a5 : Int32} {a6 : Int32} {r : (Int32 × rf_m)} (h : g_X11_fillRow w m a1 a2 a3 a4 a5 a6 = some r) : fr S_X11_fillRow m r.2 := by
  unfold g_X11_fillRow at h
  exact fr_trans (fr_i (fr_i (fr_i (fr_i (fr_i (fr_i ((fr_refl _ m)) (fr_c_in (by decide) _)) (fr_c_in (by decide) _)) (fr_c_in (by decide) _)) (fr_c_in (by decide) _)) (fr_c_in (by decide) _)) (fr_c_in (by decide) _)) (fr_mono (fg_X11_fillRow_48 _ h) (by decide))
def S_X11_round : fr_S := [(0, 0, some 11), (50, 50, some 1), (53, 53, none), (54, 54, none), (205, 205, none)]
theorem fg_X11_round_18_b {w : rf_w} {rec18 : Int32 → Int32 → rf_m → Option (Int32 × rf_m)} {a7 : Int32} {a8 : Int32} {m : rf_m} (hr_rec18 : ∀ {x0 : Int32} {x1 : Int32} {m : rf_m} {r : (Int32 × rf_m)}, rec18 x0 x1 m = some r → fr S_X11_round m r.2) {r : (Int32 × rf_m)} (h : g_X11_round_18_b w rec18 a7 a8 m = some r) : fr S_X11_round m r.2 := by
  unfold g_X11_round_18_b at h
  rcases rf_ite_some h with ⟨_, h⟩ | ⟨_, h⟩
  · obtain ⟨y0, m0, q1, h⟩ := rf_b_some h
    have e1 : fr S_X11_round m m0 := fr_trans ((fr_refl _ m)) (fr_mono (fg_X7_goesRound__205 q1) (by decide))
    rcases rf_ite_some h with ⟨_, h⟩ | ⟨_, h⟩
    · obtain ⟨y4, m4, q2, h⟩ := rf_b_some h
      have e2 : fr S_X11_round m m4 := fr_trans e1 (fr_mono (fg_X11_refused q2) (by decide))
      obtain rfl := Option.some.inj h
      exact e2
    · rcases rf_ite_some h with ⟨_, h⟩ | ⟨_, h⟩
      · obtain ⟨y1, m1, q3, h⟩ := rf_b_some h
        have e3 : fr S_X11_round m m1 := fr_trans e1 (fr_mono (fg_X7_addRound__205 q3) (by decide))
        obtain ⟨y2, m2, q4, h⟩ := rf_b_some h
        have e4 : fr S_X11_round m m2 := fr_trans e3 (fr_mono (fg_X11_answered q4) (by decide))
        obtain rfl := Option.some.inj h
        exact e4
      · obtain ⟨y3, m3, q5, h⟩ := rf_b_some h
        have e5 : fr S_X11_round m m3 := fr_trans e1 (fr_mono (fg_X11_refused q5) (by decide))
        obtain rfl := Option.some.inj h
        exact e5
  · obtain ⟨_, h⟩ := rf_g_some h
    obtain ⟨y6, m6, q6, h⟩ := rf_b_some h
    have e6 : fr S_X11_round m m6 := fr_trans ((fr_refl _ m)) (fr_mono (fg_X3_isAngle q6) (by decide))
    rcases rf_ite_some h with ⟨_, h⟩ | ⟨_, h⟩
    · obtain ⟨y7, m7, q7, h⟩ := rf_b_some h
      have e7 : fr S_X11_round m m7 := fr_trans e6 (fr_mono (fg_X11_refused q7) (by decide))
      obtain rfl := Option.some.inj h
      exact e7
    · exact fr_trans e6 (hr_rec18 h)
theorem fg_X11_round_18 {w : rf_w} (n : Nat) : ∀ {a7 : Int32} {a8 : Int32} {m : rf_m} {r : (Int32 × rf_m)}, g_X11_round_18 w n a7 a8 m = some r → fr S_X11_round m r.2 := by
  induction n with
  | zero => intro a7 a8 m r h; cases h
  | succ n ih =>
    intro a7 a8 m r h
    exact fg_X11_round_18_b ih h
theorem fg_X11_round {w : rf_w} {m : rf_m} {a1 : Int32} {a2 : Int32} {a3 : Int32} {a4 : Int32} {a5 : Int32} {a6 : Int32} {r : (Int32 × rf_m)} (h : g_X11_round w m a1 a2 a3 a4 a5 a6 = some r) : fr S_X11_round m r.2 := by
  unfold g_X11_round at h
  obtain ⟨y0, m0, q1, h⟩ := rf_b_some h
  have e1 : fr S_X11_round m m0 := fr_trans ((fr_refl _ m)) (fr_mono (fg_X11_fillRow q1) (by decide))
  exact fr_trans e1 (fr_mono (fg_X11_round_18 _ h) (by decide))
def S_X11_miss : fr_S := [(18, 18, none), (25, 25, none), (26, 26, some 19), (31, 31, none), (32, 32, none), (34, 34, none), (35, 35, none), (40, 40, none)]
theorem fg_X11_miss {w : rf_w} {m : rf_m} {a1 : Int32} {a2 : Int32} {r : (Int32 × rf_m)} (h : g_X11_miss w m a1 a2 = some r) : fr S_X11_miss m r.2 := by
  unfold g_X11_miss at h
  obtain ⟨m0, q1, h⟩ := rf_bv_some h
  have e1 : fr S_X11_miss m m0 := fr_trans ((fr_refl _ m)) (fr_mono (fg_X3_freshenAll q1) (by decide))
  rcases rf_ite_some h with ⟨_, h⟩ | ⟨_, h⟩
  · obtain ⟨y1, m1, q2, h⟩ := rf_b_some h
    have e2 : fr S_X11_miss m m1 := fr_trans e1 (fr_mono (fg_X7_isTriangle q2) (by decide))
    rcases rf_ite_some h with ⟨_, h⟩ | ⟨_, h⟩
    · obtain rfl := Option.some.inj h
      exact e2
    · obtain ⟨y2, m2, q3, h⟩ := rf_b_some h
      have e3 : fr S_X11_miss m m2 := fr_trans e2 (fr_mono (fg_X7_triangleMiss__31 q3) (by decide))
      obtain rfl := Option.some.inj h
      exact e3
  · obtain ⟨y3, m3, q4, h⟩ := rf_b_some h
    have e4 : fr S_X11_miss m m3 := fr_trans e1 (fr_mono (fg_X11_isWithin q4) (by decide))
    rcases rf_ite_some h with ⟨_, h⟩ | ⟨_, h⟩
    · obtain rfl := Option.some.inj h
      exact e4
    · obtain ⟨y4, m4, q5, h⟩ := rf_b_some h
      have e5 : fr S_X11_miss m m4 := fr_trans e4 (fr_mono (fg_X7_roundMiss__31 q5) (by decide))
      obtain rfl := Option.some.inj h
      exact e5
def S_X11_well : fr_S := [(18, 18, none), (25, 25, none), (26, 26, some 19), (31, 31, none), (32, 32, none), (34, 34, none), (35, 35, none), (40, 40, none)]
theorem fg_X11_well {w : rf_w} {m : rf_m} {a1 : Int32} {r : (Int32 × rf_m)} (h : g_X11_well w m a1 = some r) : fr S_X11_well m r.2 := by
  unfold g_X11_well at h
  obtain ⟨y0, m0, q1, h⟩ := rf_b_some h
  have e1 : fr S_X11_well m m0 := fr_trans ((fr_refl _ m)) (fr_mono (fg_X7_isTriangle q1) (by decide))
  rcases rf_ite_some h with ⟨_, h⟩ | ⟨_, h⟩
  · obtain rfl := Option.some.inj h
    exact e1
  · obtain ⟨m1, q2, h⟩ := rf_bv_some h
    have e2 : fr S_X11_well m m1 := fr_trans e1 (fr_mono (fg_X3_freshenAll q2) (by decide))
    obtain ⟨y2, m2, q3, h⟩ := rf_b_some h
    have e3 : fr S_X11_well m m2 := fr_trans e2 (fr_mono (fg_X9_leastAngle q3) (by decide))
    obtain ⟨y3, m3, q4, h⟩ := rf_b_some h
    have e4 : fr S_X11_well m m3 := fr_trans e3 (fr_mono (fg_X7_isWell q4) (by decide))
    rcases rf_ite_some h with ⟨_, h⟩ | ⟨_, h⟩
    · obtain rfl := Option.some.inj h
      exact e4
    · obtain rfl := Option.some.inj h
      exact e4
def S_X11_wide : fr_S := [(18, 18, none), (25, 25, none), (26, 26, some 19), (31, 31, none), (32, 32, none), (34, 34, none), (35, 35, none), (40, 40, none)]
theorem fg_X11_wide {w : rf_w} {m : rf_m} {r : (Int32 × rf_m)} (h : g_X11_wide w m = some r) : fr S_X11_wide m r.2 := by
  unfold g_X11_wide at h
  obtain ⟨m0, q1, h⟩ := rf_bv_some h
  have e1 : fr S_X11_wide m m0 := fr_trans ((fr_refl _ m)) (fr_mono (fg_X3_freshenAll q1) (by decide))
  obtain ⟨y1, m1, q2, h⟩ := rf_b_some h
  have e2 : fr S_X11_wide m m1 := fr_trans e1 (fr_mono (fg_X9_allowedMiss q2) (by decide))
  obtain ⟨y2, m2, q3, h⟩ := rf_b_some h
  have e3 : fr S_X11_wide m m2 := fr_trans e2 (fr_mono (fg_X7_wideOnes q3) (by decide))
  obtain rfl := Option.some.inj h
  exact e3
def S_J6_bitCount_0f7a4 : fr_S := []
theorem fg_J6_bitCount_0f7a4 {w : rf_w} {m : rf_m} {a0 : Int32} {r : (Int32 × rf_m)} (h : g_J6_bitCount_0f7a4 w m a0 = some r) : fr S_J6_bitCount_0f7a4 m r.2 := by
  unfold g_J6_bitCount_0f7a4 at h
  have h := fr_vi h
  have h := fr_vi h
  have h := fr_vi h
  have h := fr_vi h
  have h := fr_vi h
  obtain rfl := Option.some.inj h
  exact (fr_refl _ m)
def S_X11_cost : fr_S := []
theorem fg_X11_cost {w : rf_w} {m : rf_m} {r : (Int64 × rf_m)} (h : g_X11_cost w m = some r) : fr S_X11_cost m r.2 := by
  unfold g_X11_cost at h
  obtain rfl := Option.some.inj h
  exact (fr_refl _ m)
def S_X11_sine : fr_S := []
theorem fg_X11_sine {w : rf_w} {m : rf_m} {a1 : Int32} {r : (Int32 × rf_m)} (h : g_X11_sine w m a1 = some r) : fr S_X11_sine m r.2 := by
  unfold g_X11_sine at h
  obtain ⟨y0, m0, q1, h⟩ := rf_b_some h
  have e1 : fr S_X11_sine m m0 := fr_trans ((fr_refl _ m)) (fr_mono (fg_X11_isWithin q1) (by decide))
  rcases rf_ite_some h with ⟨_, h⟩ | ⟨_, h⟩
  · obtain rfl := Option.some.inj h
    exact e1
  · obtain ⟨y1, m1, q2, h⟩ := rf_b_some h
    have e2 : fr S_X11_sine m m1 := fr_trans e1 (fr_mono (fg_X11_sineOf q2) (by decide))
    obtain rfl := Option.some.inj h
    exact e2
def S_X11_link : fr_S := []
theorem fg_X11_link {w : rf_w} {m : rf_m} {a1 : Int32} {r : (Int32 × rf_m)} (h : g_X11_link w m a1 = some r) : fr S_X11_link m r.2 := by
  unfold g_X11_link at h
  obtain ⟨y0, m0, q1, h⟩ := rf_b_some h
  have e1 : fr S_X11_link m m0 := fr_trans ((fr_refl _ m)) (fr_mono (fg_X11_isWithin q1) (by decide))
  rcases rf_ite_some h with ⟨_, h⟩ | ⟨_, h⟩
  · obtain rfl := Option.some.inj h
    exact e1
  · obtain ⟨_, h⟩ := rf_g_some h
    obtain rfl := Option.some.inj h
    exact e1
def S_X11_side : fr_S := []
theorem fg_X11_side {w : rf_w} {m : rf_m} {a1 : Int32} {r : (Int32 × rf_m)} (h : g_X11_side w m a1 = some r) : fr S_X11_side m r.2 := by
  unfold g_X11_side at h
  rcases rf_ite_some h with ⟨_, h⟩ | ⟨_, h⟩
  · obtain rfl := Option.some.inj h
    exact (fr_refl _ m)
  · obtain rfl := Option.some.inj h
    exact (fr_refl _ m)
def S_X4_firstBad__205 : fr_S := [(183, 183, none)]
theorem fg_X4_firstBad__205_139 {w : rf_w} {rec13 : Int32 → Int32 → Int32 → Int32 → Int32 → Int32 → rf_m → Option (Int32 × rf_m)} {a2 : Int32} {a4 : Int32} {a5 : Int32} {a6 : Int32} {a7 : Int32} {a8 : Int32} {m : rf_m} (hr_rec13 : ∀ {x0 : Int32} {x1 : Int32} {x2 : Int32} {x3 : Int32} {x4 : Int32} {x5 : Int32} {m : rf_m} {r : (Int32 × rf_m)}, rec13 x0 x1 x2 x3 x4 x5 m = some r → fr S_X4_firstBad__205 m r.2) {r : (Int32 × rf_m)} (h : g_X4_firstBad__205_139 w rec13 a2 a4 a5 a6 a7 a8 m = some r) : fr S_X4_firstBad__205 m r.2 := by
  unfold g_X4_firstBad__205_139 at h
  exact fr_trans ((fr_refl _ m)) (hr_rec13 h)
theorem fg_X4_firstBad__205_108 {w : rf_w} {rec13 : Int32 → Int32 → Int32 → Int32 → Int32 → Int32 → rf_m → Option (Int32 × rf_m)} {a2 : Int32} {a4 : Int32} {a5 : Int32} {a6 : Int32} {a8 : Int32} {s0 : Int32} {m : rf_m} (hr_rec13 : ∀ {x0 : Int32} {x1 : Int32} {x2 : Int32} {x3 : Int32} {x4 : Int32} {x5 : Int32} {m : rf_m} {r : (Int32 × rf_m)}, rec13 x0 x1 x2 x3 x4 x5 m = some r → fr S_X4_firstBad__205 m r.2) {r : (Int32 × rf_m)} (h : g_X4_firstBad__205_108 w rec13 a2 a4 a5 a6 a8 s0 m = some r) : fr S_X4_firstBad__205 m r.2 := by
  unfold g_X4_firstBad__205_108 at h
  rcases rf_ite_some h with ⟨_, h⟩ | ⟨_, h⟩
  · obtain rfl := Option.some.inj h
    exact (fr_refl _ m)
  · rcases rf_ite_some h with ⟨_, h⟩ | ⟨_, h⟩
    · obtain ⟨y0, m0, q1, h⟩ := rf_b_some h
      have e1 : fr S_X4_firstBad__205 m m0 := fr_trans ((fr_refl _ m)) (fr_mono (fg_X4_isReached q1) (by decide))
      rcases rf_ite_some h with ⟨_, h⟩ | ⟨_, h⟩
      · obtain rfl := Option.some.inj h
        exact e1
      · exact fr_trans e1 (fr_mono (fg_X4_firstBad__205_139 hr_rec13 h) (by decide))
    · exact fr_trans ((fr_refl _ m)) (fr_mono (fg_X4_firstBad__205_139 hr_rec13 h) (by decide))
theorem fg_X4_firstBad__205_87 {w : rf_w} {rec13 : Int32 → Int32 → Int32 → Int32 → Int32 → Int32 → rf_m → Option (Int32 × rf_m)} {a2 : Int32} {a4 : Int32} {a5 : Int32} {a6 : Int32} {a7 : Int32} {a8 : Int32} {s0 : Int32} {m : rf_m} (hr_rec13 : ∀ {x0 : Int32} {x1 : Int32} {x2 : Int32} {x3 : Int32} {x4 : Int32} {x5 : Int32} {m : rf_m} {r : (Int32 × rf_m)}, rec13 x0 x1 x2 x3 x4 x5 m = some r → fr S_X4_firstBad__205 m r.2) {r : (Int32 × rf_m)} (h : g_X4_firstBad__205_87 w rec13 a2 a4 a5 a6 a7 a8 s0 m = some r) : fr S_X4_firstBad__205 m r.2 := by
  unfold g_X4_firstBad__205_87 at h
  rcases rf_ite_some h with ⟨_, h⟩ | ⟨_, h⟩
  · exact fr_trans ((fr_refl _ m)) (fr_mono (fg_X4_firstBad__205_108 hr_rec13 h) (by decide))
  · obtain ⟨_, h⟩ := rf_g_some h
    obtain ⟨y1, m1, q1, h⟩ := rf_b_some h
    have e1 : fr S_X4_firstBad__205 m m1 := fr_trans ((fr_refl _ m)) (fr_mono (fg_X4_goOver q1) (by decide))
    exact fr_trans e1 (fr_mono (fg_X4_firstBad__205_108 hr_rec13 h) (by decide))
theorem fg_X4_firstBad__205_86 {w : rf_w} {rec13 : Int32 → Int32 → Int32 → Int32 → Int32 → Int32 → rf_m → Option (Int32 × rf_m)} {a2 : Int32} {a4 : Int32} {a5 : Int32} {a6 : Int32} {a7 : Int32} {a8 : Int32} {m : rf_m} (hr_rec13 : ∀ {x0 : Int32} {x1 : Int32} {x2 : Int32} {x3 : Int32} {x4 : Int32} {x5 : Int32} {m : rf_m} {r : (Int32 × rf_m)}, rec13 x0 x1 x2 x3 x4 x5 m = some r → fr S_X4_firstBad__205 m r.2) {r : (Int32 × rf_m)} (h : g_X4_firstBad__205_86 w rec13 a2 a4 a5 a6 a7 a8 m = some r) : fr S_X4_firstBad__205 m r.2 := by
  unfold g_X4_firstBad__205_86 at h
  exact fr_trans ((fr_refl _ m)) (fr_mono (fg_X4_firstBad__205_87 hr_rec13 h) (by decide))
theorem fg_X4_firstBad__205_13_b {w : rf_w} {rec13 : Int32 → Int32 → Int32 → Int32 → Int32 → Int32 → rf_m → Option (Int32 × rf_m)} {a2 : Int32} {a4 : Int32} {a5 : Int32} {a6 : Int32} {a7 : Int32} {a8 : Int32} {m : rf_m} (hr_rec13 : ∀ {x0 : Int32} {x1 : Int32} {x2 : Int32} {x3 : Int32} {x4 : Int32} {x5 : Int32} {m : rf_m} {r : (Int32 × rf_m)}, rec13 x0 x1 x2 x3 x4 x5 m = some r → fr S_X4_firstBad__205 m r.2) {r : (Int32 × rf_m)} (h : g_X4_firstBad__205_13_b w rec13 a2 a4 a5 a6 a7 a8 m = some r) : fr S_X4_firstBad__205 m r.2 := by
  unfold g_X4_firstBad__205_13_b at h
  rcases rf_ite_some h with ⟨_, h⟩ | ⟨_, h⟩
  · obtain rfl := Option.some.inj h
    exact (fr_refl _ m)
  · obtain ⟨_, h⟩ := rf_g_some h
    obtain ⟨y1, m1, q1, h⟩ := rf_b_some h
    have e1 : fr S_X4_firstBad__205 m m1 := fr_trans ((fr_refl _ m)) (fr_mono (fg_X7_isWell q1) (by decide))
    rcases rf_ite_some h with ⟨_, h⟩ | ⟨_, h⟩
    · exact fr_trans e1 (fr_mono (fg_X4_firstBad__205_86 hr_rec13 h) (by decide))
    · obtain ⟨_, h⟩ := rf_g_some h
      obtain ⟨y3, m3, q2, h⟩ := rf_b_some h
      have e2 : fr S_X4_firstBad__205 m m3 := fr_trans e1 (fr_mono (fg_X7_triangleMiss__31 q2) (by decide))
      obtain ⟨y4, m4, q3, h⟩ := rf_b_some h
      have e3 : fr S_X4_firstBad__205 m m4 := fr_trans e2 (fr_mono (fg_X7_isBeyond q3) (by decide))
      rcases rf_ite_some h with ⟨_, h⟩ | ⟨_, h⟩
      · obtain ⟨_, h⟩ := rf_g_some h
        obtain ⟨y6, m6, q4, h⟩ := rf_b_some h
        have e4 : fr S_X4_firstBad__205 m m6 := fr_trans e3 (fr_mono (fg_X4_isAble q4) (by decide))
        rcases rf_ite_some h with ⟨_, h⟩ | ⟨_, h⟩
        · exact fr_trans e4 (fr_mono (fg_X4_firstBad__205_86 hr_rec13 h) (by decide))
        · obtain ⟨y7, m7, q5, h⟩ := rf_b_some h
          have e5 : fr S_X4_firstBad__205 m m7 := fr_trans e4 (fr_mono (fg_X11_isAhead__205 q5) (by decide))
          rcases rf_ite_some h with ⟨_, h⟩ | ⟨_, h⟩
          · exact fr_trans e5 (fr_mono (fg_X4_firstBad__205_87 hr_rec13 h) (by decide))
          · exact fr_trans e5 (fr_mono (fg_X4_firstBad__205_86 hr_rec13 h) (by decide))
      · exact fr_trans e3 (fr_mono (fg_X4_firstBad__205_86 hr_rec13 h) (by decide))
theorem fg_X4_firstBad__205_13 {w : rf_w} (n : Nat) : ∀ {a2 : Int32} {a4 : Int32} {a5 : Int32} {a6 : Int32} {a7 : Int32} {a8 : Int32} {m : rf_m} {r : (Int32 × rf_m)}, g_X4_firstBad__205_13 w n a2 a4 a5 a6 a7 a8 m = some r → fr S_X4_firstBad__205 m r.2 := by
  induction n with
  | zero => intro a2 a4 a5 a6 a7 a8 m r h; cases h
  | succ n ih =>
    intro a2 a4 a5 a6 a7 a8 m r h
    exact fg_X4_firstBad__205_13_b ih h
theorem fg_X4_firstBad__205 {w : rf_w} {m : rf_m} {a1 : Int32} {a2 : Int32} {a4 : Int32} {a5 : Int32} {a6 : Int32} {r : (Int32 × rf_m)} (h : g_X4_firstBad__205 w m a1 a2 a4 a5 a6 = some r) : fr S_X4_firstBad__205 m r.2 := by
  unfold g_X4_firstBad__205 at h
  exact fr_trans (fr_i ((fr_refl _ m)) (fr_c_in (by decide) _)) (fr_mono (fg_X4_firstBad__205_13 _ h) (by decide))
def S_X11_check : fr_S := [(0, 0, some 11), (18, 18, none), (25, 25, none), (26, 26, some 19), (31, 31, none), (32, 32, none), (34, 34, none), (35, 35, none), (40, 40, none), (183, 183, none), (205, 205, none)]
theorem fg_X11_check_55_b {w : rf_w} {rec55 : Int32 → Int32 → Int32 → Int32 → Int32 → rf_m → Option (Int32 × rf_m)} {a1 : Int32} {a2 : Int32} {a3 : Int32} {a10 : Int32} {a11 : Int32} {m : rf_m} (hr_rec55 : ∀ {x0 : Int32} {x1 : Int32} {x2 : Int32} {x3 : Int32} {x4 : Int32} {m : rf_m} {r : (Int32 × rf_m)}, rec55 x0 x1 x2 x3 x4 m = some r → fr S_X11_check m r.2) {r : (Int32 × rf_m)} (h : g_X11_check_55_b w rec55 a1 a2 a3 a10 a11 m = some r) : fr S_X11_check m r.2 := by
  unfold g_X11_check_55_b at h
  rcases rf_ite_some h with ⟨_, h⟩ | ⟨_, h⟩
  · obtain ⟨m0, q1, h⟩ := rf_bv_some h
    have e1 : fr S_X11_check m m0 := fr_trans ((fr_refl _ m)) (fr_mono (fg_X3_freshenAll q1) (by decide))
    obtain ⟨y1, m1, q2, h⟩ := rf_b_some h
    have e2 : fr S_X11_check m m1 := fr_trans e1 (fr_mono (fg_X9_allowedMiss q2) (by decide))
    obtain ⟨y2, m2, q3, h⟩ := rf_b_some h
    have e3 : fr S_X11_check m m2 := fr_trans e2 (fr_mono (fg_X9_leastAngle q3) (by decide))
    obtain ⟨y3, m3, q4, h⟩ := rf_b_some h
    have e4 : fr S_X11_check m m3 := fr_trans e3 (fr_mono (fg_X6_sideAt q4) (by decide))
    obtain ⟨y4, m4, q5, h⟩ := rf_b_some h
    have e5 : fr S_X11_check m m4 := fr_trans e4 (fr_mono (fg_X11_sideOf q5) (by decide))
    obtain ⟨y5, m5, q6, h⟩ := rf_b_some h
    have e6 : fr S_X11_check m m5 := fr_trans e5 (fr_mono (fg_X4_firstBad__205 q6) (by decide))
    obtain ⟨y6, m6, q7, h⟩ := rf_b_some h
    have e7 : fr S_X11_check m m6 := fr_trans e6 (fr_mono (fg_X11_answered q7) (by decide))
    obtain rfl := Option.some.inj h
    exact e7
  · obtain ⟨_, h⟩ := rf_g_some h
    obtain ⟨y8, m8, q8, h⟩ := rf_b_some h
    have e8 : fr S_X11_check m m8 := fr_trans ((fr_refl _ m)) (fr_mono (fg_X7_isTriangle q8) (by decide))
    rcases rf_ite_some h with ⟨_, h⟩ | ⟨_, h⟩
    · obtain ⟨y9, m9, q9, h⟩ := rf_b_some h
      have e9 : fr S_X11_check m m9 := fr_trans e8 (fr_mono (fg_X11_refused q9) (by decide))
      obtain rfl := Option.some.inj h
      exact e9
    · exact fr_trans e8 (hr_rec55 h)
theorem fg_X11_check_55 {w : rf_w} (n : Nat) : ∀ {a1 : Int32} {a2 : Int32} {a3 : Int32} {a10 : Int32} {a11 : Int32} {m : rf_m} {r : (Int32 × rf_m)}, g_X11_check_55 w n a1 a2 a3 a10 a11 m = some r → fr S_X11_check m r.2 := by
  induction n with
  | zero => intro a1 a2 a3 a10 a11 m r h; cases h
  | succ n ih =>
    intro a1 a2 a3 a10 a11 m r h
    exact fg_X11_check_55_b ih h
theorem fg_X11_check {w : rf_w} {m : rf_m} {a1 : Int32} {a2 : Int32} {a3 : Int32} {a4 : Int32} {a5 : Int32} {a6 : Int32} {a7 : Int32} {a8 : Int32} {a9 : Int32} {r : (Int32 × rf_m)} (h : g_X11_check w m a1 a2 a3 a4 a5 a6 a7 a8 a9 = some r) : fr S_X11_check m r.2 := by
  unfold g_X11_check at h
  obtain ⟨y0, m0, q1, h⟩ := rf_b_some h
  have e1 : fr S_X11_check m m0 := fr_trans ((fr_refl _ m)) (fr_mono (fg_X11_fillRow q1) (by decide))
  obtain ⟨y1, m1, q2, h⟩ := rf_b_some h
  have e2 : fr S_X11_check m m1 := fr_trans e1 (fr_mono (fg_X6_isBase q2) (by decide))
  rcases rf_ite_some h with ⟨_, h⟩ | ⟨_, h⟩
  · obtain ⟨y2, m2, q3, h⟩ := rf_b_some h
    have e3 : fr S_X11_check m m2 := fr_trans e2 (fr_mono (fg_X11_refused q3) (by decide))
    obtain rfl := Option.some.inj h
    exact e3
  · obtain ⟨y3, m3, q4, h⟩ := rf_b_some h
    have e4 : fr S_X11_check m m3 := fr_trans e2 (fr_mono (fg_X5_isPair q4) (by decide))
    rcases rf_ite_some h with ⟨_, h⟩ | ⟨_, h⟩
    · obtain ⟨y4, m4, q5, h⟩ := rf_b_some h
      have e5 : fr S_X11_check m m4 := fr_trans e4 (fr_mono (fg_X11_refused q5) (by decide))
      obtain rfl := Option.some.inj h
      exact e5
    · rcases rf_ite_some h with ⟨_, h⟩ | ⟨_, h⟩
      · obtain ⟨y5, m5, q6, h⟩ := rf_b_some h
        have e6 : fr S_X11_check m m5 := fr_trans e4 (fr_mono (fg_X11_refused q6) (by decide))
        obtain rfl := Option.some.inj h
        exact e6
      · exact fr_trans e4 (fr_mono (fg_X11_check_55 _ h) (by decide))
def S_X11_suspect : fr_S := [(0, 0, some 11), (18, 18, none), (25, 25, none), (26, 26, some 19), (31, 31, none), (32, 32, none), (34, 34, none), (35, 35, none), (40, 40, none), (184, 184, some 1), (186, 186, none)]
theorem fg_X11_suspect {w : rf_w} {m : rf_m} {a1 : Int32} {r : (Int32 × rf_m)} (h : g_X11_suspect w m a1 = some r) : fr S_X11_suspect m r.2 := by
  unfold g_X11_suspect at h
  obtain ⟨y0, m0, q1, h⟩ := rf_b_some h
  have e1 : fr S_X11_suspect m m0 := fr_trans ((fr_refl _ m)) (fr_mono (fg_X3_isReading q1) (by decide))
  rcases rf_ite_some h with ⟨_, h⟩ | ⟨_, h⟩
  · obtain ⟨y9, m9, q2, h⟩ := rf_b_some h
    have e2 : fr S_X11_suspect m m9 := fr_trans e1 (fr_mono (fg_X11_refused q2) (by decide))
    obtain rfl := Option.some.inj h
    exact e2
  · obtain ⟨m1, q3, h⟩ := rf_bv_some h
    have e3 : fr S_X11_suspect m m1 := fr_trans e1 (fr_mono (fg_X3_freshenAll q3) (by decide))
    obtain ⟨y2, m2, q4, h⟩ := rf_b_some h
    have e4 : fr S_X11_suspect m m2 := fr_trans e3 (fr_mono (fg_X3_isKept q4) (by decide))
    rcases rf_ite_some h with ⟨_, h⟩ | ⟨_, h⟩
    · obtain ⟨y3, m3, q5, h⟩ := rf_b_some h
      have e5 : fr S_X11_suspect m m3 := fr_trans e4 (fr_mono (fg_X11_refused q5) (by decide))
      obtain rfl := Option.some.inj h
      exact e5
    · obtain ⟨y4, m4, q6, h⟩ := rf_b_some h
      have e6 : fr S_X11_suspect m m4 := fr_trans e4 (fr_mono (fg_X2_isSuspect q6) (by decide))
      rcases rf_ite_some h with ⟨_, h⟩ | ⟨_, h⟩
      · rcases rf_ite_some h with ⟨_, h⟩ | ⟨_, h⟩
        · obtain ⟨y5, m5, q7, h⟩ := rf_b_some h
          have e7 : fr S_X11_suspect m m5 := fr_trans e6 (fr_mono (fg_X2_addSuspect q7) (by decide))
          obtain ⟨y6, m6, q8, h⟩ := rf_b_some h
          have e8 : fr S_X11_suspect m m6 := fr_trans e7 (fr_mono (fg_X11_answered q8) (by decide))
          obtain rfl := Option.some.inj h
          exact e8
        · obtain ⟨y7, m7, q9, h⟩ := rf_b_some h
          have e9 : fr S_X11_suspect m m7 := fr_trans e6 (fr_mono (fg_X11_refused q9) (by decide))
          obtain rfl := Option.some.inj h
          exact e9
      · obtain ⟨y8, m8, q10, h⟩ := rf_b_some h
        have e10 : fr S_X11_suspect m m8 := fr_trans e6 (fr_mono (fg_X11_refused q10) (by decide))
        obtain rfl := Option.some.inj h
        exact e10
def S_X11_clear : fr_S := [(184, 184, some 1)]
theorem fg_X11_clear {w : rf_w} {m : rf_m} {r : (Int32 × rf_m)} (h : g_X11_clear w m = some r) : fr S_X11_clear m r.2 := by
  unfold g_X11_clear at h
  obtain rfl := Option.some.inj h
  exact fr_i ((fr_refl _ m)) (by decide)
def S_X11_blunder : fr_S := [(18, 18, none), (25, 25, none), (26, 26, some 19), (31, 31, none), (32, 32, none), (34, 34, none), (35, 35, none), (40, 40, none), (50, 50, some 7), (184, 184, some 2), (184, 184, some 3), (184, 184, some 8), (185, 185, none), (187, 187, none), (188, 188, none), (189, 189, none), (190, 190, none), (191, 191, none), (192, 192, none)]
theorem fg_X11_blunder {w : rf_w} {m : rf_m} {r : (Int32 × rf_m)} (h : g_X11_blunder w m = some r) : fr S_X11_blunder m r.2 := by
  unfold g_X11_blunder at h
  obtain ⟨m0, q1, h⟩ := rf_bv_some h
  have e1 : fr S_X11_blunder m m0 := fr_trans ((fr_refl _ m)) (fr_mono (fg_X3_freshenAll q1) (by decide))
  obtain ⟨y1, m1, q2, h⟩ := rf_b_some h
  have e2 : fr S_X11_blunder m m1 := fr_trans e1 (fr_mono (fg_X9_allowedMiss q2) (by decide))
  obtain ⟨y2, m2, q3, h⟩ := rf_b_some h
  have e3 : fr S_X11_blunder m m2 := fr_trans e2 (fr_mono (fg_X2_fewest q3) (by decide))
  obtain rfl := Option.some.inj h
  exact e3
def S_X11_guilty : fr_S := []
theorem fg_X11_guilty {w : rf_w} {m : rf_m} {a1 : Int32} {r : (Int32 × rf_m)} (h : g_X11_guilty w m a1 = some r) : fr S_X11_guilty m r.2 := by
  unfold g_X11_guilty at h
  obtain ⟨y0, m0, q1, h⟩ := rf_b_some h
  have e1 : fr S_X11_guilty m m0 := fr_trans ((fr_refl _ m)) (fr_mono (fg_X11_isWithin q1) (by decide))
  rcases rf_ite_some h with ⟨_, h⟩ | ⟨_, h⟩
  · obtain rfl := Option.some.inj h
    exact e1
  · obtain ⟨_, h⟩ := rf_g_some h
    obtain rfl := Option.some.inj h
    exact e1
def S_X11_rivals : fr_S := []
theorem fg_X11_rivals {w : rf_w} {m : rf_m} {r : (Int32 × rf_m)} (h : g_X11_rivals w m = some r) : fr S_X11_rivals m r.2 := by
  unfold g_X11_rivals at h
  obtain rfl := Option.some.inj h
  exact (fr_refl _ m)
def S_X11_star : fr_S := [(0, 0, some 11), (193, 193, some 0), (194, 194, none), (195, 195, none), (196, 196, none)]
theorem fg_X11_star {w : rf_w} {m : rf_m} {a1 : Int32} {a2 : Int32} {a3 : Int32} {a4 : Int32} {r : (Int32 × rf_m)} (h : g_X11_star w m a1 a2 a3 a4 = some r) : fr S_X11_star m r.2 := by
  unfold g_X11_star at h
  obtain ⟨y0, m0, q1, h⟩ := rf_b_some h
  have e1 : fr S_X11_star m m0 := fr_trans ((fr_refl _ m)) (fr_mono (fg_X5_isPair q1) (by decide))
  rcases rf_ite_some h with ⟨_, h⟩ | ⟨_, h⟩
  · obtain ⟨y8, m8, q2, h⟩ := rf_b_some h
    have e2 : fr S_X11_star m m8 := fr_trans e1 (fr_mono (fg_X11_refused q2) (by decide))
    obtain rfl := Option.some.inj h
    exact e2
  · obtain ⟨y1, m1, q3, h⟩ := rf_b_some h
    have e3 : fr S_X11_star m m1 := fr_trans e1 (fr_mono (fg_X11_isWithin q3) (by decide))
    rcases rf_ite_some h with ⟨_, h⟩ | ⟨_, h⟩
    · obtain ⟨y2, m2, q4, h⟩ := rf_b_some h
      have e4 : fr S_X11_star m m2 := fr_trans e3 (fr_mono (fg_X11_refused q4) (by decide))
      obtain rfl := Option.some.inj h
      exact e4
    · obtain ⟨y3, m3, q5, h⟩ := rf_b_some h
      have e5 : fr S_X11_star m m3 := fr_trans e3 (fr_mono (fg_X11_isHour q5) (by decide))
      rcases rf_ite_some h with ⟨_, h⟩ | ⟨_, h⟩
      · obtain ⟨y7, m7, q6, h⟩ := rf_b_some h
        have e6 : fr S_X11_star m m7 := fr_trans e5 (fr_mono (fg_X11_refused q6) (by decide))
        obtain rfl := Option.some.inj h
        exact e6
      · rcases rf_ite_some h with ⟨_, h⟩ | ⟨_, h⟩
        · obtain ⟨y4, m4, q7, h⟩ := rf_b_some h
          have e7 : fr S_X11_star m m4 := fr_trans e5 (fr_mono (fg_X10_addStar q7) (by decide))
          obtain ⟨y5, m5, q8, h⟩ := rf_b_some h
          have e8 : fr S_X11_star m m5 := fr_trans e7 (fr_mono (fg_X11_answered q8) (by decide))
          obtain rfl := Option.some.inj h
          exact e8
        · obtain ⟨y6, m6, q9, h⟩ := rf_b_some h
          have e9 : fr S_X11_star m m6 := fr_trans e5 (fr_mono (fg_X11_refused q9) (by decide))
          obtain rfl := Option.some.inj h
          exact e9
def S_X11_north : fr_S := [(18, 18, none), (25, 25, none), (26, 26, some 19), (31, 31, none), (32, 32, none), (34, 34, none), (35, 35, none), (40, 40, none), (193, 193, some 11), (197, 197, none), (198, 198, none), (199, 199, none), (200, 200, none), (201, 201, none)]
theorem fg_X11_north {w : rf_w} {m : rf_m} {a1 : Int32} {a2 : Int32} {r : (Int32 × rf_m)} (h : g_X11_north w m a1 a2 = some r) : fr S_X11_north m r.2 := by
  unfold g_X11_north at h
  obtain ⟨y0, m0, q1, h⟩ := rf_b_some h
  have e1 : fr S_X11_north m m0 := fr_trans ((fr_refl _ m)) (fr_mono (fg_X5_isPair q1) (by decide))
  rcases rf_ite_some h with ⟨_, h⟩ | ⟨_, h⟩
  · obtain rfl := Option.some.inj h
    exact e1
  · obtain ⟨m1, q2, h⟩ := rf_bv_some h
    have e2 : fr S_X11_north m m1 := fr_trans e1 (fr_mono (fg_X3_freshenAll q2) (by decide))
    obtain ⟨m2, q3, h⟩ := rf_bv_some h
    have e3 : fr S_X11_north m m2 := fr_trans e2 (fr_mono (fg_X10_carryNorth q3) (by decide))
    obtain ⟨y3, m3, q4, h⟩ := rf_b_some h
    have e4 : fr S_X11_north m m3 := fr_trans e3 (fr_mono (fg_X10_northOf q4) (by decide))
    obtain rfl := Option.some.inj h
    exact e4
def S_X11_steps : fr_S := [(18, 18, none), (25, 25, none), (26, 26, some 19), (31, 31, none), (32, 32, none), (34, 34, none), (35, 35, none), (40, 40, none), (193, 193, some 11), (197, 197, none), (198, 198, none), (199, 199, none), (200, 200, none), (201, 201, none)]
theorem fg_X11_steps {w : rf_w} {m : rf_m} {a1 : Int32} {a2 : Int32} {r : (Int32 × rf_m)} (h : g_X11_steps w m a1 a2 = some r) : fr S_X11_steps m r.2 := by
  unfold g_X11_steps at h
  obtain ⟨y0, m0, q1, h⟩ := rf_b_some h
  have e1 : fr S_X11_steps m m0 := fr_trans ((fr_refl _ m)) (fr_mono (fg_X5_isPair q1) (by decide))
  rcases rf_ite_some h with ⟨_, h⟩ | ⟨_, h⟩
  · obtain rfl := Option.some.inj h
    exact e1
  · obtain ⟨m1, q2, h⟩ := rf_bv_some h
    have e2 : fr S_X11_steps m m1 := fr_trans e1 (fr_mono (fg_X3_freshenAll q2) (by decide))
    obtain ⟨m2, q3, h⟩ := rf_bv_some h
    have e3 : fr S_X11_steps m m2 := fr_trans e2 (fr_mono (fg_X10_carryNorth q3) (by decide))
    obtain ⟨y3, m3, q4, h⟩ := rf_b_some h
    have e4 : fr S_X11_steps m m3 := fr_trans e3 (fr_mono (fg_X10_stepsOf q4) (by decide))
    obtain rfl := Option.some.inj h
    exact e4
def S_X11_level : fr_S := [(0, 0, some 11), (193, 193, some 1), (202, 202, none), (203, 203, none), (204, 204, none)]
theorem fg_X11_level {w : rf_w} {m : rf_m} {a1 : Int32} {a2 : Int32} {a3 : Int32} {a4 : Int32} {r : (Int32 × rf_m)} (h : g_X11_level w m a1 a2 a3 a4 = some r) : fr S_X11_level m r.2 := by
  unfold g_X11_level at h
  obtain ⟨y0, m0, q1, h⟩ := rf_b_some h
  have e1 : fr S_X11_level m m0 := fr_trans ((fr_refl _ m)) (fr_mono (fg_X5_isPair q1) (by decide))
  rcases rf_ite_some h with ⟨_, h⟩ | ⟨_, h⟩
  · obtain ⟨y8, m8, q2, h⟩ := rf_b_some h
    have e2 : fr S_X11_level m m8 := fr_trans e1 (fr_mono (fg_X11_refused q2) (by decide))
    obtain rfl := Option.some.inj h
    exact e2
  · obtain ⟨y1, m1, q3, h⟩ := rf_b_some h
    have e3 : fr S_X11_level m m1 := fr_trans e1 (fr_mono (fg_X11_isWithin q3) (by decide))
    rcases rf_ite_some h with ⟨_, h⟩ | ⟨_, h⟩
    · obtain ⟨y2, m2, q4, h⟩ := rf_b_some h
      have e4 : fr S_X11_level m m2 := fr_trans e3 (fr_mono (fg_X11_refused q4) (by decide))
      obtain rfl := Option.some.inj h
      exact e4
    · obtain ⟨y3, m3, q5, h⟩ := rf_b_some h
      have e5 : fr S_X11_level m m3 := fr_trans e3 (fr_mono (fg_X11_isHour q5) (by decide))
      rcases rf_ite_some h with ⟨_, h⟩ | ⟨_, h⟩
      · obtain ⟨y7, m7, q6, h⟩ := rf_b_some h
        have e6 : fr S_X11_level m m7 := fr_trans e5 (fr_mono (fg_X11_refused q6) (by decide))
        obtain rfl := Option.some.inj h
        exact e6
      · rcases rf_ite_some h with ⟨_, h⟩ | ⟨_, h⟩
        · obtain ⟨y4, m4, q7, h⟩ := rf_b_some h
          have e7 : fr S_X11_level m m4 := fr_trans e5 (fr_mono (fg_X10_addLevel q7) (by decide))
          obtain ⟨y5, m5, q8, h⟩ := rf_b_some h
          have e8 : fr S_X11_level m m5 := fr_trans e7 (fr_mono (fg_X11_answered q8) (by decide))
          obtain rfl := Option.some.inj h
          exact e8
        · obtain ⟨y6, m6, q9, h⟩ := rf_b_some h
          have e9 : fr S_X11_level m m6 := fr_trans e5 (fr_mono (fg_X11_refused q9) (by decide))
          obtain rfl := Option.some.inj h
          exact e9
def S_X11_between : fr_S := []
theorem fg_X11_between {w : rf_w} {m : rf_m} {a1 : Int32} {a2 : Int32} {r : (Int32 × rf_m)} (h : g_X11_between w m a1 a2 = some r) : fr S_X11_between m r.2 := by
  unfold g_X11_between at h
  obtain ⟨y0, m0, q1, h⟩ := rf_b_some h
  have e1 : fr S_X11_between m m0 := fr_trans ((fr_refl _ m)) (fr_mono (fg_X5_isPair q1) (by decide))
  rcases rf_ite_some h with ⟨_, h⟩ | ⟨_, h⟩
  · obtain rfl := Option.some.inj h
    exact e1
  · obtain ⟨y1, m1, q2, h⟩ := rf_b_some h
    have e2 : fr S_X11_between m m1 := fr_trans e1 (fr_mono (fg_X10_heightFrom q2) (by decide))
    obtain rfl := Option.some.inj h
    exact e2
end FRL
