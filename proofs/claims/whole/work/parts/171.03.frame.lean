section FRL
theorem fg_X14_allMeans_2 {w : rf_w} (n : Nat) : ∀ {a1 : Int32} {m : rf_m} {r : (rf_m)}, g_X14_allMeans_2 w n a1 m = some r → fr S_X14_allMeans m r := by
  induction n with
  | zero => intro a1 m r h; cases h
  | succ n ih =>
    intro a1 m r h
    exact fg_X14_allMeans_2_b ih h
theorem fg_X14_allMeans {w : rf_w} {m : rf_m} {r : (rf_m)} (h : g_X14_allMeans w m = some r) : fr S_X14_allMeans m r := by
  unfold g_X14_allMeans at h
  exact fr_trans ((fr_refl _ m)) (fr_mono (fg_X14_allMeans_2 _ h) (by decide))
def S_X14_sizeOf : fr_S := []
theorem fg_X14_sizeOf {w : rf_w} {m : rf_m} {a1 : Int32} {a2 : Int32} {r : (Int32 × rf_m)} (h : g_X14_sizeOf w m a1 a2 = some r) : fr S_X14_sizeOf m r.2 := by
  unfold g_X14_sizeOf at h
  rcases rf_ite_some h with ⟨_, h⟩ | ⟨_, h⟩
  · obtain rfl := Option.some.inj h
    exact (fr_refl _ m)
  · obtain ⟨_, h⟩ := rf_g_some h
    obtain rfl := Option.some.inj h
    exact (fr_refl _ m)
def S_X14_angleIn : fr_S := []
theorem fg_X14_angleIn {w : rf_w} {m : rf_m} {a1 : Int32} {a2 : Int32} {a3 : Int32} {r : (Int32 × rf_m)} (h : g_X14_angleIn w m a1 a2 a3 = some r) : fr S_X14_angleIn m r.2 := by
  unfold g_X14_angleIn at h
  rcases rf_ite_some h with ⟨_, h⟩ | ⟨_, h⟩
  · obtain ⟨_, h⟩ := rf_g_some h
    obtain rfl := Option.some.inj h
    exact (fr_refl _ m)
  · obtain ⟨_, h⟩ := rf_g_some h
    obtain rfl := Option.some.inj h
    exact (fr_refl _ m)
def S_X14_missOf : fr_S := []
theorem fg_X14_missOf_24_b {w : rf_w} {rec24 : Int32 → Int32 → Int32 → Int32 → rf_m → Option (Int32 × rf_m)} {a1 : Int32} {a2 : Int32} {a3 : Int32} {a4 : Int32} {m : rf_m} (hr_rec24 : ∀ {x0 : Int32} {x1 : Int32} {x2 : Int32} {x3 : Int32} {m : rf_m} {r : (Int32 × rf_m)}, rec24 x0 x1 x2 x3 m = some r → fr S_X14_missOf m r.2) {r : (Int32 × rf_m)} (h : g_X14_missOf_24_b w rec24 a1 a2 a3 a4 m = some r) : fr S_X14_missOf m r.2 := by
  unfold g_X14_missOf_24_b at h
  obtain ⟨y0, m0, q1, h⟩ := rf_b_some h
  have e1 : fr S_X14_missOf m m0 := fr_trans ((fr_refl _ m)) (fr_mono (fg_X14_sizeOf q1) (by decide))
  rcases rf_ite_some h with ⟨_, h⟩ | ⟨_, h⟩
  · obtain rfl := Option.some.inj h
    exact e1
  · obtain ⟨y1, m1, q2, h⟩ := rf_b_some h
    have e2 : fr S_X14_missOf m m1 := fr_trans e1 (fr_mono (fg_X14_angleIn q2) (by decide))
    obtain ⟨_, h⟩ := rf_g_some h
    have h := fr_vi h
    rcases rf_ite_some h with ⟨_, h⟩ | ⟨_, h⟩
    · obtain rfl := Option.some.inj h
      exact e2
    · exact fr_trans e2 (hr_rec24 h)
theorem fg_X14_missOf_24 {w : rf_w} (n : Nat) : ∀ {a1 : Int32} {a2 : Int32} {a3 : Int32} {a4 : Int32} {m : rf_m} {r : (Int32 × rf_m)}, g_X14_missOf_24 w n a1 a2 a3 a4 m = some r → fr S_X14_missOf m r.2 := by
  induction n with
  | zero => intro a1 a2 a3 a4 m r h; cases h
  | succ n ih =>
    intro a1 a2 a3 a4 m r h
    exact fg_X14_missOf_24_b ih h
theorem fg_X14_missOf_20 {w : rf_w} {a1 : Int32} {a2 : Int32} {s0 : Int32} {m : rf_m} {r : (Int32 × rf_m)} (h : g_X14_missOf_20 w a1 a2 s0 m = some r) : fr S_X14_missOf m r.2 := by
  unfold g_X14_missOf_20 at h
  exact fr_trans ((fr_refl _ m)) (fr_mono (fg_X14_missOf_24 _ h) (by decide))
theorem fg_X14_missOf {w : rf_w} {m : rf_m} {a1 : Int32} {a2 : Int32} {r : (Int32 × rf_m)} (h : g_X14_missOf w m a1 a2 = some r) : fr S_X14_missOf m r.2 := by
  unfold g_X14_missOf at h
  rcases rf_ite_some h with ⟨_, h⟩ | ⟨_, h⟩
  · obtain ⟨_, h⟩ := rf_g_some h
    exact fr_trans ((fr_refl _ m)) (fr_mono (fg_X14_missOf_20 h) (by decide))
  · exact fr_trans ((fr_refl _ m)) (fr_mono (fg_X14_missOf_20 h) (by decide))
def S_X14_miss : fr_S := [(206, 206, some 0), (206, 206, some 33), (206, 206, some 34), (206, 206, some 35), (206, 206, some 36), (206, 206, some 37), (206, 206, some 38), (226, 226, none), (227, 227, none), (228, 228, none), (235, 235, none), (248, 248, none)]
theorem fg_X14_miss {w : rf_w} {m : rf_m} {a1 : Int32} {a2 : Int32} {r : (Int32 × rf_m)} (h : g_X14_miss w m a1 a2 = some r) : fr S_X14_miss m r.2 := by
  unfold g_X14_miss at h
  rcases rf_ite_some h with ⟨_, h⟩ | ⟨_, h⟩
  · obtain rfl := Option.some.inj h
    exact fr_i ((fr_refl _ m)) (by decide)
  · rcases rf_ite_some h with ⟨_, h⟩ | ⟨_, h⟩
    · rcases rf_ite_some h with ⟨_, h⟩ | ⟨_, h⟩
      · obtain ⟨m0, q1, h⟩ := rf_bv_some h
        have e1 : fr S_X14_miss m m0 := fr_trans (fr_i ((fr_refl _ m)) (by decide)) (fr_mono (fg_X14_allMeans q1) (by decide))
        obtain ⟨y1, m1, q2, h⟩ := rf_b_some h
        have e2 : fr S_X14_miss m m1 := fr_trans e1 (fr_mono (fg_X14_missOf q2) (by decide))
        obtain rfl := Option.some.inj h
        exact e2
      · obtain rfl := Option.some.inj h
        exact fr_i ((fr_refl _ m)) (by decide)
    · rcases rf_ite_some h with ⟨_, h⟩ | ⟨_, h⟩
      · obtain ⟨m2, q3, h⟩ := rf_bv_some h
        have e3 : fr S_X14_miss m m2 := fr_trans (fr_i ((fr_refl _ m)) (by decide)) (fr_mono (fg_X14_allMeans q3) (by decide))
        obtain ⟨y3, m3, q4, h⟩ := rf_b_some h
        have e4 : fr S_X14_miss m m3 := fr_trans e3 (fr_mono (fg_X14_missOf q4) (by decide))
        obtain rfl := Option.some.inj h
        exact e4
      · obtain rfl := Option.some.inj h
        exact fr_i ((fr_refl _ m)) (by decide)
def S_X14_isWell : fr_S := [(228, 228, none), (235, 235, none)]
theorem fg_X14_isWell_68 {w : rf_w} {rec12 : Int32 → Int32 → Int32 → Int32 → rf_m → Option (Int32 × rf_m)} {a1 : Int32} {a3 : Int32} {a4 : Int32} {s0 : Int32} {m : rf_m} (hr_rec12 : ∀ {x0 : Int32} {x1 : Int32} {x2 : Int32} {x3 : Int32} {m : rf_m} {r : (Int32 × rf_m)}, rec12 x0 x1 x2 x3 m = some r → fr S_X14_isWell m r.2) {r : (Int32 × rf_m)} (h : g_X14_isWell_68 w rec12 a1 a3 a4 s0 m = some r) : fr S_X14_isWell m r.2 := by
  unfold g_X14_isWell_68 at h
  exact fr_trans ((fr_refl _ m)) (hr_rec12 h)
theorem fg_X14_isWell_67 {w : rf_w} {rec12 : Int32 → Int32 → Int32 → Int32 → rf_m → Option (Int32 × rf_m)} {a1 : Int32} {a3 : Int32} {a4 : Int32} {m : rf_m} (hr_rec12 : ∀ {x0 : Int32} {x1 : Int32} {x2 : Int32} {x3 : Int32} {m : rf_m} {r : (Int32 × rf_m)}, rec12 x0 x1 x2 x3 m = some r → fr S_X14_isWell m r.2) {r : (Int32 × rf_m)} (h : g_X14_isWell_67 w rec12 a1 a3 a4 m = some r) : fr S_X14_isWell m r.2 := by
  unfold g_X14_isWell_67 at h
  exact fr_trans ((fr_refl _ m)) (fr_mono (fg_X14_isWell_68 hr_rec12 h) (by decide))
theorem fg_X14_isWell_12_b {w : rf_w} {rec12 : Int32 → Int32 → Int32 → Int32 → rf_m → Option (Int32 × rf_m)} {a1 : Int32} {a2 : Int32} {a3 : Int32} {a4 : Int32} {m : rf_m} (hr_rec12 : ∀ {x0 : Int32} {x1 : Int32} {x2 : Int32} {x3 : Int32} {m : rf_m} {r : (Int32 × rf_m)}, rec12 x0 x1 x2 x3 m = some r → fr S_X14_isWell m r.2) {r : (Int32 × rf_m)} (h : g_X14_isWell_12_b w rec12 a1 a2 a3 a4 m = some r) : fr S_X14_isWell m r.2 := by
  unfold g_X14_isWell_12_b at h
  rcases rf_ite_some h with ⟨_, h⟩ | ⟨_, h⟩
  · obtain ⟨_, h⟩ := rf_g_some h
    obtain rfl := Option.some.inj h
    exact (fr_refl _ m)
  · rcases rf_ite_some h with ⟨_, h⟩ | ⟨_, h⟩
    · exact fr_trans ((fr_refl _ m)) (fr_mono (fg_X14_isWell_67 hr_rec12 h) (by decide))
    · obtain ⟨_, h⟩ := rf_g_some h
      obtain ⟨_, h⟩ := rf_g_some h
      rcases rf_ite_some h with ⟨_, h⟩ | ⟨_, h⟩
      · exact fr_trans ((fr_refl _ m)) (fr_mono (fg_X14_isWell_67 hr_rec12 h) (by decide))
      · obtain ⟨_, h⟩ := rf_g_some h
        obtain ⟨_, h⟩ := rf_g_some h
        rcases rf_ite_some h with ⟨_, h⟩ | ⟨_, h⟩
        · exact fr_trans ((fr_refl _ m)) (fr_mono (fg_X14_isWell_67 hr_rec12 h) (by decide))
        · exact fr_trans ((fr_refl _ m)) (fr_mono (fg_X14_isWell_68 hr_rec12 h) (by decide))
theorem fg_X14_isWell_12 {w : rf_w} (n : Nat) : ∀ {a1 : Int32} {a2 : Int32} {a3 : Int32} {a4 : Int32} {m : rf_m} {r : (Int32 × rf_m)}, g_X14_isWell_12 w n a1 a2 a3 a4 m = some r → fr S_X14_isWell m r.2 := by
  induction n with
  | zero => intro a1 a2 a3 a4 m r h; cases h
  | succ n ih =>
    intro a1 a2 a3 a4 m r h
    exact fg_X14_isWell_12_b ih h
theorem fg_X14_isWell {w : rf_w} {m : rf_m} {a1 : Int32} {r : (Int32 × rf_m)} (h : g_X14_isWell w m a1 = some r) : fr S_X14_isWell m r.2 := by
  unfold g_X14_isWell at h
  obtain ⟨y0, m0, q1, h⟩ := rf_b_some h
  have e1 : fr S_X14_isWell m m0 := fr_trans ((fr_refl _ m)) (fr_mono (fg_X14_latest q1) (by decide))
  exact fr_trans e1 (fr_mono (fg_X14_isWell_12 _ h) (by decide))
def S_X14_well : fr_S := [(206, 206, some 0), (206, 206, some 33), (206, 206, some 34), (206, 206, some 35), (206, 206, some 36), (206, 206, some 37), (206, 206, some 38), (226, 226, none), (227, 227, none), (228, 228, none), (235, 235, none), (248, 248, none)]
theorem fg_X14_well {w : rf_w} {m : rf_m} {a1 : Int32} {r : (Int32 × rf_m)} (h : g_X14_well w m a1 = some r) : fr S_X14_well m r.2 := by
  unfold g_X14_well at h
  obtain ⟨y0, m0, q1, h⟩ := rf_b_some h
  have e1 : fr S_X14_well m m0 := fr_trans (fr_i ((fr_refl _ m)) (by decide)) (fr_mono (fg_X14_isTriangle q1) (by decide))
  rcases rf_ite_some h with ⟨_, h⟩ | ⟨_, h⟩
  · obtain rfl := Option.some.inj h
    exact e1
  · obtain ⟨m1, q2, h⟩ := rf_bv_some h
    have e2 : fr S_X14_well m m1 := fr_trans e1 (fr_mono (fg_X14_allMeans q2) (by decide))
    obtain ⟨y2, m2, q3, h⟩ := rf_b_some h
    have e3 : fr S_X14_well m m2 := fr_trans e2 (fr_mono (fg_X14_isWell q3) (by decide))
    rcases rf_ite_some h with ⟨_, h⟩ | ⟨_, h⟩
    · obtain rfl := Option.some.inj h
      exact e3
    · obtain rfl := Option.some.inj h
      exact e3
def S_X14_isWide : fr_S := []
theorem fg_X14_isWide {w : rf_w} {m : rf_m} {a0 : Int32} {a1 : Int32} {r : (Int32 × rf_m)} (h : g_X14_isWide w m a0 a1 = some r) : fr S_X14_isWide m r.2 := by
  unfold g_X14_isWide at h
  rcases rf_ite_some h with ⟨_, h⟩ | ⟨_, h⟩
  · obtain rfl := Option.some.inj h
    exact (fr_refl _ m)
  · rcases rf_ite_some h with ⟨_, h⟩ | ⟨_, h⟩
    · obtain rfl := Option.some.inj h
      exact (fr_refl _ m)
    · rcases rf_ite_some h with ⟨_, h⟩ | ⟨_, h⟩
      · obtain rfl := Option.some.inj h
        exact (fr_refl _ m)
      · obtain rfl := Option.some.inj h
        exact (fr_refl _ m)
def S_X14_wideOnes : fr_S := []
theorem fg_X14_wideOnes_68 {w : rf_w} {rec41 : Int32 → Int32 → Int32 → rf_m → Option (Int32 × rf_m)} {a1 : Int32} {a3 : Int32} {s0 : Int32} {s1 : Int32} {m : rf_m} (hr_rec41 : ∀ {x0 : Int32} {x1 : Int32} {x2 : Int32} {m : rf_m} {r : (Int32 × rf_m)}, rec41 x0 x1 x2 m = some r → fr S_X14_wideOnes m r.2) {r : (Int32 × rf_m)} (h : g_X14_wideOnes_68 w rec41 a1 a3 s0 s1 m = some r) : fr S_X14_wideOnes m r.2 := by
  unfold g_X14_wideOnes_68 at h
  exact fr_trans ((fr_refl _ m)) (hr_rec41 h)
theorem fg_X14_wideOnes_41_b {w : rf_w} {rec41 : Int32 → Int32 → Int32 → rf_m → Option (Int32 × rf_m)} {a1 : Int32} {a2 : Int32} {a3 : Int32} {m : rf_m} (hr_rec41 : ∀ {x0 : Int32} {x1 : Int32} {x2 : Int32} {m : rf_m} {r : (Int32 × rf_m)}, rec41 x0 x1 x2 m = some r → fr S_X14_wideOnes m r.2) {r : (Int32 × rf_m)} (h : g_X14_wideOnes_41_b w rec41 a1 a2 a3 m = some r) : fr S_X14_wideOnes m r.2 := by
  unfold g_X14_wideOnes_41_b at h
  rcases rf_ite_some h with ⟨_, h⟩ | ⟨_, h⟩
  · obtain rfl := Option.some.inj h
    exact (fr_refl _ m)
  · obtain ⟨y0, m0, q1, h⟩ := rf_b_some h
    have e1 : fr S_X14_wideOnes m m0 := fr_trans ((fr_refl _ m)) (fr_mono (fg_X14_missOf q1) (by decide))
    obtain ⟨y1, m1, q2, h⟩ := rf_b_some h
    have e2 : fr S_X14_wideOnes m m1 := fr_trans e1 (fr_mono (fg_X14_isWide q2) (by decide))
    rcases rf_ite_some h with ⟨_, h⟩ | ⟨_, h⟩
    · exact fr_trans e2 (fr_mono (fg_X14_wideOnes_68 hr_rec41 h) (by decide))
    · exact fr_trans e2 (fr_mono (fg_X14_wideOnes_68 hr_rec41 h) (by decide))
theorem fg_X14_wideOnes_41 {w : rf_w} (n : Nat) : ∀ {a1 : Int32} {a2 : Int32} {a3 : Int32} {m : rf_m} {r : (Int32 × rf_m)}, g_X14_wideOnes_41 w n a1 a2 a3 m = some r → fr S_X14_wideOnes m r.2 := by
  induction n with
  | zero => intro a1 a2 a3 m r h; cases h
  | succ n ih =>
    intro a1 a2 a3 m r h
    exact fg_X14_wideOnes_41_b ih h
theorem fg_X14_wideOnes_31 {w : rf_w} {rec4 : Int32 → Int32 → Int32 → rf_m → Option (Int32 × rf_m)} {a1 : Int32} {a3 : Int32} {s0 : Int32} {s1 : Int32} {m : rf_m} (hr_rec4 : ∀ {x0 : Int32} {x1 : Int32} {x2 : Int32} {m : rf_m} {r : (Int32 × rf_m)}, rec4 x0 x1 x2 m = some r → fr S_X14_wideOnes m r.2) {r : (Int32 × rf_m)} (h : g_X14_wideOnes_31 w rec4 a1 a3 s0 s1 m = some r) : fr S_X14_wideOnes m r.2 := by
  unfold g_X14_wideOnes_31 at h
  exact fr_trans ((fr_refl _ m)) (hr_rec4 h)
theorem fg_X14_wideOnes_4_b {w : rf_w} {rec4 : Int32 → Int32 → Int32 → rf_m → Option (Int32 × rf_m)} {a1 : Int32} {a2 : Int32} {a3 : Int32} {m : rf_m} (hr_rec4 : ∀ {x0 : Int32} {x1 : Int32} {x2 : Int32} {m : rf_m} {r : (Int32 × rf_m)}, rec4 x0 x1 x2 m = some r → fr S_X14_wideOnes m r.2) {r : (Int32 × rf_m)} (h : g_X14_wideOnes_4_b w rec4 a1 a2 a3 m = some r) : fr S_X14_wideOnes m r.2 := by
  unfold g_X14_wideOnes_4_b at h
  rcases rf_ite_some h with ⟨_, h⟩ | ⟨_, h⟩
  · exact fr_trans ((fr_refl _ m)) (fr_mono (fg_X14_wideOnes_41 _ h) (by decide))
  · obtain ⟨y0, m0, q1, h⟩ := rf_b_some h
    have e1 : fr S_X14_wideOnes m m0 := fr_trans ((fr_refl _ m)) (fr_mono (fg_X14_missOf q1) (by decide))
    obtain ⟨y1, m1, q2, h⟩ := rf_b_some h
    have e2 : fr S_X14_wideOnes m m1 := fr_trans e1 (fr_mono (fg_X14_isWide q2) (by decide))
    rcases rf_ite_some h with ⟨_, h⟩ | ⟨_, h⟩
    · exact fr_trans e2 (fr_mono (fg_X14_wideOnes_31 hr_rec4 h) (by decide))
    · exact fr_trans e2 (fr_mono (fg_X14_wideOnes_31 hr_rec4 h) (by decide))
theorem fg_X14_wideOnes_4 {w : rf_w} (n : Nat) : ∀ {a1 : Int32} {a2 : Int32} {a3 : Int32} {m : rf_m} {r : (Int32 × rf_m)}, g_X14_wideOnes_4 w n a1 a2 a3 m = some r → fr S_X14_wideOnes m r.2 := by
  induction n with
  | zero => intro a1 a2 a3 m r h; cases h
  | succ n ih =>
    intro a1 a2 a3 m r h
    exact fg_X14_wideOnes_4_b ih h
theorem fg_X14_wideOnes {w : rf_w} {m : rf_m} {a1 : Int32} {r : (Int32 × rf_m)} (h : g_X14_wideOnes w m a1 = some r) : fr S_X14_wideOnes m r.2 := by
  unfold g_X14_wideOnes at h
  exact fr_trans ((fr_refl _ m)) (fr_mono (fg_X14_wideOnes_4 _ h) (by decide))
def S_X14_wide : fr_S := [(206, 206, some 0), (206, 206, some 33), (206, 206, some 34), (206, 206, some 35), (206, 206, some 36), (206, 206, some 37), (206, 206, some 38), (226, 226, none), (227, 227, none), (228, 228, none), (235, 235, none), (248, 248, none)]
theorem fg_X14_wide {w : rf_w} {m : rf_m} {r : (Int32 × rf_m)} (h : g_X14_wide w m = some r) : fr S_X14_wide m r.2 := by
  unfold g_X14_wide at h
  obtain ⟨m0, q1, h⟩ := rf_bv_some h
  have e1 : fr S_X14_wide m m0 := fr_trans (fr_i ((fr_refl _ m)) (by decide)) (fr_mono (fg_X14_allMeans q1) (by decide))
  obtain ⟨y1, m1, q2, h⟩ := rf_b_some h
  have e2 : fr S_X14_wide m m1 := fr_trans e1 (fr_mono (fg_X14_allowed q2) (by decide))
  obtain ⟨y2, m2, q3, h⟩ := rf_b_some h
  have e3 : fr S_X14_wide m m2 := fr_trans e2 (fr_mono (fg_X14_wideOnes q3) (by decide))
  obtain rfl := Option.some.inj h
  exact e3
def S_X14_adds__250_250 : fr_S := [(250, 250, none)]
theorem fg_X14_adds__250_250_6_b {w : rf_w} {rec6 : Int32 → Int32 → Int64 → Int32 → rf_m → Option (rf_m)} {a1 : Int32} {a3 : Int32} {a4 : Int64} {a6 : Int32} {m : rf_m} (hr_rec6 : ∀ {x0 : Int32} {x1 : Int32} {x2 : Int64} {x3 : Int32} {m : rf_m} {r : (rf_m)}, rec6 x0 x1 x2 x3 m = some r → fr S_X14_adds__250_250 m r) {r : (rf_m)} (h : g_X14_adds__250_250_6_b w rec6 a1 a3 a4 a6 m = some r) : fr S_X14_adds__250_250 m r := by
  unfold g_X14_adds__250_250_6_b at h
  rcases rf_ite_some h with ⟨_, h⟩ | ⟨_, h⟩
  · obtain rfl := Option.some.inj h
    exact (fr_refl _ m)
  · obtain ⟨_, h⟩ := rf_g_some h
    obtain ⟨_, h⟩ := rf_g_some h
    have h := fr_vl h
    obtain ⟨_, h⟩ := rf_g_some h
    have h := fr_vl h
    exact fr_trans (fr_i ((fr_refl _ m)) (fr_c_in (by decide) _)) (hr_rec6 h)
theorem fg_X14_adds__250_250_6 {w : rf_w} (n : Nat) : ∀ {a1 : Int32} {a3 : Int32} {a4 : Int64} {a6 : Int32} {m : rf_m} {r : (rf_m)}, g_X14_adds__250_250_6 w n a1 a3 a4 a6 m = some r → fr S_X14_adds__250_250 m r := by
  induction n with
  | zero => intro a1 a3 a4 a6 m r h; cases h
  | succ n ih =>
    intro a1 a3 a4 a6 m r h
    exact fg_X14_adds__250_250_6_b ih h
theorem fg_X14_adds__250_250 {w : rf_w} {m : rf_m} {a1 : Int32} {a3 : Int32} {r : (rf_m)} (h : g_X14_adds__250_250 w m a1 a3 = some r) : fr S_X14_adds__250_250 m r := by
  unfold g_X14_adds__250_250 at h
  exact fr_trans ((fr_refl _ m)) (fr_mono (fg_X14_adds__250_250_6 _ h) (by decide))
def S_X14_adds__249_249 : fr_S := [(249, 249, none)]
theorem fg_X14_adds__249_249_6_b {w : rf_w} {rec6 : Int32 → Int32 → Int64 → Int32 → rf_m → Option (rf_m)} {a1 : Int32} {a3 : Int32} {a4 : Int64} {a6 : Int32} {m : rf_m} (hr_rec6 : ∀ {x0 : Int32} {x1 : Int32} {x2 : Int64} {x3 : Int32} {m : rf_m} {r : (rf_m)}, rec6 x0 x1 x2 x3 m = some r → fr S_X14_adds__249_249 m r) {r : (rf_m)} (h : g_X14_adds__249_249_6_b w rec6 a1 a3 a4 a6 m = some r) : fr S_X14_adds__249_249 m r := by
  unfold g_X14_adds__249_249_6_b at h
  rcases rf_ite_some h with ⟨_, h⟩ | ⟨_, h⟩
  · obtain rfl := Option.some.inj h
    exact (fr_refl _ m)
  · obtain ⟨_, h⟩ := rf_g_some h
    obtain ⟨_, h⟩ := rf_g_some h
    have h := fr_vl h
    obtain ⟨_, h⟩ := rf_g_some h
    have h := fr_vl h
    exact fr_trans (fr_i ((fr_refl _ m)) (fr_c_in (by decide) _)) (hr_rec6 h)
theorem fg_X14_adds__249_249_6 {w : rf_w} (n : Nat) : ∀ {a1 : Int32} {a3 : Int32} {a4 : Int64} {a6 : Int32} {m : rf_m} {r : (rf_m)}, g_X14_adds__249_249_6 w n a1 a3 a4 a6 m = some r → fr S_X14_adds__249_249 m r := by
  induction n with
  | zero => intro a1 a3 a4 a6 m r h; cases h
  | succ n ih =>
    intro a1 a3 a4 a6 m r h
    exact fg_X14_adds__249_249_6_b ih h
theorem fg_X14_adds__249_249 {w : rf_w} {m : rf_m} {a1 : Int32} {a3 : Int32} {r : (rf_m)} (h : g_X14_adds__249_249 w m a1 a3 = some r) : fr S_X14_adds__249_249 m r := by
  unfold g_X14_adds__249_249 at h
  exact fr_trans ((fr_refl _ m)) (fr_mono (fg_X14_adds__249_249_6 _ h) (by decide))
def S_X14_isNoLess__250_253 : fr_S := []
theorem fg_X14_isNoLess__250_253_3_b {w : rf_w} {rec3 : Int32 → Int32 → Int32 → rf_m → Option (Int32 × rf_m)} {a1 : Int32} {a3 : Int32} {a4 : Int32} {m : rf_m} (hr_rec3 : ∀ {x0 : Int32} {x1 : Int32} {x2 : Int32} {m : rf_m} {r : (Int32 × rf_m)}, rec3 x0 x1 x2 m = some r → fr S_X14_isNoLess__250_253 m r.2) {r : (Int32 × rf_m)} (h : g_X14_isNoLess__250_253_3_b w rec3 a1 a3 a4 m = some r) : fr S_X14_isNoLess__250_253 m r.2 := by
  unfold g_X14_isNoLess__250_253_3_b at h
  rcases rf_ite_some h with ⟨_, h⟩ | ⟨_, h⟩
  · obtain rfl := Option.some.inj h
    exact (fr_refl _ m)
  · obtain ⟨_, h⟩ := rf_g_some h
    have h := fr_vl h
    obtain ⟨_, h⟩ := rf_g_some h
    have h := fr_vl h
    rcases rf_ite_some h with ⟨_, h⟩ | ⟨_, h⟩
    · exact fr_trans ((fr_refl _ m)) (hr_rec3 h)
    · rcases rf_ite_some h with ⟨_, h⟩ | ⟨_, h⟩
      · obtain rfl := Option.some.inj h
        exact (fr_refl _ m)
      · obtain rfl := Option.some.inj h
        exact (fr_refl _ m)
theorem fg_X14_isNoLess__250_253_3 {w : rf_w} (n : Nat) : ∀ {a1 : Int32} {a3 : Int32} {a4 : Int32} {m : rf_m} {r : (Int32 × rf_m)}, g_X14_isNoLess__250_253_3 w n a1 a3 a4 m = some r → fr S_X14_isNoLess__250_253 m r.2 := by
  induction n with
  | zero => intro a1 a3 a4 m r h; cases h
  | succ n ih =>
    intro a1 a3 a4 m r h
    exact fg_X14_isNoLess__250_253_3_b ih h
theorem fg_X14_isNoLess__250_253 {w : rf_w} {m : rf_m} {a1 : Int32} {a3 : Int32} {r : (Int32 × rf_m)} (h : g_X14_isNoLess__250_253 w m a1 a3 = some r) : fr S_X14_isNoLess__250_253 m r.2 := by
  unfold g_X14_isNoLess__250_253 at h
  exact fr_trans ((fr_refl _ m)) (fr_mono (fg_X14_isNoLess__250_253_3 _ h) (by decide))
def S_X14_adds__250_251 : fr_S := [(250, 250, none)]
theorem fg_X14_adds__250_251_6_b {w : rf_w} {rec6 : Int32 → Int32 → Int64 → Int32 → rf_m → Option (rf_m)} {a1 : Int32} {a3 : Int32} {a4 : Int64} {a6 : Int32} {m : rf_m} (hr_rec6 : ∀ {x0 : Int32} {x1 : Int32} {x2 : Int64} {x3 : Int32} {m : rf_m} {r : (rf_m)}, rec6 x0 x1 x2 x3 m = some r → fr S_X14_adds__250_251 m r) {r : (rf_m)} (h : g_X14_adds__250_251_6_b w rec6 a1 a3 a4 a6 m = some r) : fr S_X14_adds__250_251 m r := by
  unfold g_X14_adds__250_251_6_b at h
  rcases rf_ite_some h with ⟨_, h⟩ | ⟨_, h⟩
  · obtain rfl := Option.some.inj h
    exact (fr_refl _ m)
  · obtain ⟨_, h⟩ := rf_g_some h
    obtain ⟨_, h⟩ := rf_g_some h
    have h := fr_vl h
    obtain ⟨_, h⟩ := rf_g_some h
    have h := fr_vl h
    exact fr_trans (fr_i ((fr_refl _ m)) (fr_c_in (by decide) _)) (hr_rec6 h)
theorem fg_X14_adds__250_251_6 {w : rf_w} (n : Nat) : ∀ {a1 : Int32} {a3 : Int32} {a4 : Int64} {a6 : Int32} {m : rf_m} {r : (rf_m)}, g_X14_adds__250_251_6 w n a1 a3 a4 a6 m = some r → fr S_X14_adds__250_251 m r := by
  induction n with
  | zero => intro a1 a3 a4 a6 m r h; cases h
  | succ n ih =>
    intro a1 a3 a4 a6 m r h
    exact fg_X14_adds__250_251_6_b ih h
theorem fg_X14_adds__250_251 {w : rf_w} {m : rf_m} {a1 : Int32} {a3 : Int32} {r : (rf_m)} (h : g_X14_adds__250_251 w m a1 a3 = some r) : fr S_X14_adds__250_251 m r := by
  unfold g_X14_adds__250_251 at h
  exact fr_trans ((fr_refl _ m)) (fr_mono (fg_X14_adds__250_251_6 _ h) (by decide))
def S_X14_set__249 : fr_S := [(249, 249, none)]
theorem fg_X14_set__249_50 {w : rf_w} {rec3 : Int32 → Int64 → Int32 → rf_m → Option (rf_m)} {a1 : Int32} {a2 : Int64} {a4 : Int32} {s1 : Int32} {s2 : Int32} {m : rf_m} (hr_rec3 : ∀ {x0 : Int32} {x1 : Int64} {x2 : Int32} {m : rf_m} {r : (rf_m)}, rec3 x0 x1 x2 m = some r → fr S_X14_set__249 m r) {r : (rf_m)} (h : g_X14_set__249_50 w rec3 a1 a2 a4 s1 s2 m = some r) : fr S_X14_set__249 m r := by
  unfold g_X14_set__249_50 at h
  obtain ⟨_, h⟩ := rf_g_some h
  exact fr_trans (fr_i ((fr_refl _ m)) (fr_c_in (by decide) _)) (hr_rec3 h)
theorem fg_X14_set__249_3_b {w : rf_w} {rec3 : Int32 → Int64 → Int32 → rf_m → Option (rf_m)} {a1 : Int32} {a2 : Int64} {a4 : Int32} {m : rf_m} (hr_rec3 : ∀ {x0 : Int32} {x1 : Int64} {x2 : Int32} {m : rf_m} {r : (rf_m)}, rec3 x0 x1 x2 m = some r → fr S_X14_set__249 m r) {r : (rf_m)} (h : g_X14_set__249_3_b w rec3 a1 a2 a4 m = some r) : fr S_X14_set__249 m r := by
  unfold g_X14_set__249_3_b at h
  rcases rf_ite_some h with ⟨_, h⟩ | ⟨_, h⟩
  · obtain rfl := Option.some.inj h
    exact (fr_refl _ m)
  · rcases rf_ite_some h with ⟨_, h⟩ | ⟨_, h⟩
    · exact fr_trans ((fr_refl _ m)) (fr_mono (fg_X14_set__249_50 hr_rec3 h) (by decide))
    · rcases rf_ite_some h with ⟨_, h⟩ | ⟨_, h⟩
      · exact fr_trans ((fr_refl _ m)) (fr_mono (fg_X14_set__249_50 hr_rec3 h) (by decide))
      · rcases rf_ite_some h with ⟨_, h⟩ | ⟨_, h⟩
        · exact fr_trans ((fr_refl _ m)) (fr_mono (fg_X14_set__249_50 hr_rec3 h) (by decide))
        · exact fr_trans ((fr_refl _ m)) (fr_mono (fg_X14_set__249_50 hr_rec3 h) (by decide))
theorem fg_X14_set__249_3 {w : rf_w} (n : Nat) : ∀ {a1 : Int32} {a2 : Int64} {a4 : Int32} {m : rf_m} {r : (rf_m)}, g_X14_set__249_3 w n a1 a2 a4 m = some r → fr S_X14_set__249 m r := by
  induction n with
  | zero => intro a1 a2 a4 m r h; cases h
  | succ n ih =>
    intro a1 a2 a4 m r h
    exact fg_X14_set__249_3_b ih h
theorem fg_X14_set__249 {w : rf_w} {m : rf_m} {a1 : Int32} {a2 : Int64} {r : (rf_m)} (h : g_X14_set__249 w m a1 a2 = some r) : fr S_X14_set__249 m r := by
  unfold g_X14_set__249 at h
  exact fr_trans ((fr_refl _ m)) (fr_mono (fg_X14_set__249_3 _ h) (by decide))
def S_X14_set__250 : fr_S := [(250, 250, none)]
theorem fg_X14_set__250_50 {w : rf_w} {rec3 : Int32 → Int64 → Int32 → rf_m → Option (rf_m)} {a1 : Int32} {a2 : Int64} {a4 : Int32} {s1 : Int32} {s2 : Int32} {m : rf_m} (hr_rec3 : ∀ {x0 : Int32} {x1 : Int64} {x2 : Int32} {m : rf_m} {r : (rf_m)}, rec3 x0 x1 x2 m = some r → fr S_X14_set__250 m r) {r : (rf_m)} (h : g_X14_set__250_50 w rec3 a1 a2 a4 s1 s2 m = some r) : fr S_X14_set__250 m r := by
  unfold g_X14_set__250_50 at h
  obtain ⟨_, h⟩ := rf_g_some h
  exact fr_trans (fr_i ((fr_refl _ m)) (fr_c_in (by decide) _)) (hr_rec3 h)
theorem fg_X14_set__250_3_b {w : rf_w} {rec3 : Int32 → Int64 → Int32 → rf_m → Option (rf_m)} {a1 : Int32} {a2 : Int64} {a4 : Int32} {m : rf_m} (hr_rec3 : ∀ {x0 : Int32} {x1 : Int64} {x2 : Int32} {m : rf_m} {r : (rf_m)}, rec3 x0 x1 x2 m = some r → fr S_X14_set__250 m r) {r : (rf_m)} (h : g_X14_set__250_3_b w rec3 a1 a2 a4 m = some r) : fr S_X14_set__250 m r := by
  unfold g_X14_set__250_3_b at h
  rcases rf_ite_some h with ⟨_, h⟩ | ⟨_, h⟩
  · obtain rfl := Option.some.inj h
    exact (fr_refl _ m)
  · rcases rf_ite_some h with ⟨_, h⟩ | ⟨_, h⟩
    · exact fr_trans ((fr_refl _ m)) (fr_mono (fg_X14_set__250_50 hr_rec3 h) (by decide))
    · rcases rf_ite_some h with ⟨_, h⟩ | ⟨_, h⟩
      · exact fr_trans ((fr_refl _ m)) (fr_mono (fg_X14_set__250_50 hr_rec3 h) (by decide))
      · rcases rf_ite_some h with ⟨_, h⟩ | ⟨_, h⟩
        · exact fr_trans ((fr_refl _ m)) (fr_mono (fg_X14_set__250_50 hr_rec3 h) (by decide))
        · exact fr_trans ((fr_refl _ m)) (fr_mono (fg_X14_set__250_50 hr_rec3 h) (by decide))
theorem fg_X14_set__250_3 {w : rf_w} (n : Nat) : ∀ {a1 : Int32} {a2 : Int64} {a4 : Int32} {m : rf_m} {r : (rf_m)}, g_X14_set__250_3 w n a1 a2 a4 m = some r → fr S_X14_set__250 m r := by
  induction n with
  | zero => intro a1 a2 a4 m r h; cases h
  | succ n ih =>
    intro a1 a2 a4 m r h
    exact fg_X14_set__250_3_b ih h
theorem fg_X14_set__250 {w : rf_w} {m : rf_m} {a1 : Int32} {a2 : Int64} {r : (rf_m)} (h : g_X14_set__250 w m a1 a2 = some r) : fr S_X14_set__250 m r := by
  unfold g_X14_set__250 at h
  exact fr_trans ((fr_refl _ m)) (fr_mono (fg_X14_set__250_3 _ h) (by decide))
def S_X14_copies__251_253 : fr_S := [(251, 251, none)]
theorem fg_X14_copies__251_253_3_b {w : rf_w} {rec3 : Int32 → Int32 → Int32 → rf_m → Option (rf_m)} {a1 : Int32} {a3 : Int32} {a4 : Int32} {m : rf_m} (hr_rec3 : ∀ {x0 : Int32} {x1 : Int32} {x2 : Int32} {m : rf_m} {r : (rf_m)}, rec3 x0 x1 x2 m = some r → fr S_X14_copies__251_253 m r) {r : (rf_m)} (h : g_X14_copies__251_253_3_b w rec3 a1 a3 a4 m = some r) : fr S_X14_copies__251_253 m r := by
  unfold g_X14_copies__251_253_3_b at h
  rcases rf_ite_some h with ⟨_, h⟩ | ⟨_, h⟩
  · obtain rfl := Option.some.inj h
    exact (fr_refl _ m)
  · obtain ⟨_, h⟩ := rf_g_some h
    obtain ⟨_, h⟩ := rf_g_some h
    exact fr_trans (fr_i ((fr_refl _ m)) (fr_c_in (by decide) _)) (hr_rec3 h)
theorem fg_X14_copies__251_253_3 {w : rf_w} (n : Nat) : ∀ {a1 : Int32} {a3 : Int32} {a4 : Int32} {m : rf_m} {r : (rf_m)}, g_X14_copies__251_253_3 w n a1 a3 a4 m = some r → fr S_X14_copies__251_253 m r := by
  induction n with
  | zero => intro a1 a3 a4 m r h; cases h
  | succ n ih =>
    intro a1 a3 a4 m r h
    exact fg_X14_copies__251_253_3_b ih h
theorem fg_X14_copies__251_253 {w : rf_w} {m : rf_m} {a1 : Int32} {a3 : Int32} {r : (rf_m)} (h : g_X14_copies__251_253 w m a1 a3 = some r) : fr S_X14_copies__251_253 m r := by
  unfold g_X14_copies__251_253 at h
  exact fr_trans ((fr_refl _ m)) (fr_mono (fg_X14_copies__251_253_3 _ h) (by decide))
def S_X14_turns__251 : fr_S := [(251, 251, none)]
theorem fg_X14_turns__251_5_b {w : rf_w} {rec5 : Int32 → Int64 → Int32 → rf_m → Option (rf_m)} {a1 : Int32} {a2 : Int64} {a4 : Int32} {m : rf_m} (hr_rec5 : ∀ {x0 : Int32} {x1 : Int64} {x2 : Int32} {m : rf_m} {r : (rf_m)}, rec5 x0 x1 x2 m = some r → fr S_X14_turns__251 m r) {r : (rf_m)} (h : g_X14_turns__251_5_b w rec5 a1 a2 a4 m = some r) : fr S_X14_turns__251 m r := by
  unfold g_X14_turns__251_5_b at h
  rcases rf_ite_some h with ⟨_, h⟩ | ⟨_, h⟩
  · obtain rfl := Option.some.inj h
    exact (fr_refl _ m)
  · obtain ⟨_, h⟩ := rf_g_some h
    have h := fr_vl h
    obtain ⟨_, h⟩ := rf_g_some h
    have h := fr_vl h
    exact fr_trans (fr_i ((fr_refl _ m)) (fr_c_in (by decide) _)) (hr_rec5 h)
theorem fg_X14_turns__251_5 {w : rf_w} (n : Nat) : ∀ {a1 : Int32} {a2 : Int64} {a4 : Int32} {m : rf_m} {r : (rf_m)}, g_X14_turns__251_5 w n a1 a2 a4 m = some r → fr S_X14_turns__251 m r := by
  induction n with
  | zero => intro a1 a2 a4 m r h; cases h
  | succ n ih =>
    intro a1 a2 a4 m r h
    exact fg_X14_turns__251_5_b ih h
theorem fg_X14_turns__251 {w : rf_w} {m : rf_m} {a1 : Int32} {r : (rf_m)} (h : g_X14_turns__251 w m a1 = some r) : fr S_X14_turns__251 m r := by
  unfold g_X14_turns__251 at h
  exact fr_trans ((fr_refl _ m)) (fr_mono (fg_X14_turns__251_5 _ h) (by decide))
def S_X14_divides__252_253 : fr_S := [(249, 249, none), (250, 250, none), (251, 251, none)]
theorem fg_X14_divides__252_253_139 {w : rf_w} {rec42 : Int32 → Int32 → Int32 → rf_m → Option (rf_m)} {a2 : Int32} {a4 : Int32} {a5 : Int32} {m : rf_m} (hr_rec42 : ∀ {x0 : Int32} {x1 : Int32} {x2 : Int32} {m : rf_m} {r : (rf_m)}, rec42 x0 x1 x2 m = some r → fr S_X14_divides__252_253 m r) {r : (rf_m)} (h : g_X14_divides__252_253_139 w rec42 a2 a4 a5 m = some r) : fr S_X14_divides__252_253 m r := by
  unfold g_X14_divides__252_253_139 at h
  exact fr_trans ((fr_refl _ m)) (hr_rec42 h)
theorem fg_X14_divides__252_253_42_b {w : rf_w} {rec42 : Int32 → Int32 → Int32 → rf_m → Option (rf_m)} {a2 : Int32} {a4 : Int32} {a5 : Int32} {m : rf_m} (hr_rec42 : ∀ {x0 : Int32} {x1 : Int32} {x2 : Int32} {m : rf_m} {r : (rf_m)}, rec42 x0 x1 x2 m = some r → fr S_X14_divides__252_253 m r) {r : (rf_m)} (h : g_X14_divides__252_253_42_b w rec42 a2 a4 a5 m = some r) : fr S_X14_divides__252_253 m r := by
  unfold g_X14_divides__252_253_42_b at h
  rcases rf_ite_some h with ⟨_, h⟩ | ⟨_, h⟩
  · obtain rfl := Option.some.inj h
    exact (fr_refl _ m)
  · obtain ⟨m0, q1, h⟩ := rf_bv_some h
    have e1 : fr S_X14_divides__252_253 m m0 := fr_trans ((fr_refl _ m)) (fr_mono (fg_X14_adds__250_250 q1) (by decide))
    obtain ⟨_, h⟩ := rf_g_some h
    obtain ⟨m2, q2, h⟩ := rf_bv_some h
    have e2 : fr S_X14_divides__252_253 m m2 := fr_trans (fr_i e1 (fr_c_in (by decide) _)) (fr_mono (fg_X14_adds__249_249 q2) (by decide))
    obtain ⟨y3, m3, q3, h⟩ := rf_b_some h
    have e3 : fr S_X14_divides__252_253 m m3 := fr_trans e2 (fr_mono (fg_X14_isNoLess__250_253 q3) (by decide))
    rcases rf_ite_some h with ⟨_, h⟩ | ⟨_, h⟩
    · exact fr_trans e3 (fr_mono (fg_X14_divides__252_253_139 hr_rec42 h) (by decide))
    · obtain ⟨m4, q4, h⟩ := rf_bv_some h
      have e4 : fr S_X14_divides__252_253 m m4 := fr_trans e3 (fr_mono (fg_X14_adds__250_251 q4) (by decide))
      exact fr_trans (fr_i e4 (fr_c_in (by decide) _)) (fr_mono (fg_X14_divides__252_253_139 hr_rec42 h) (by decide))
theorem fg_X14_divides__252_253_42 {w : rf_w} (n : Nat) : ∀ {a2 : Int32} {a4 : Int32} {a5 : Int32} {m : rf_m} {r : (rf_m)}, g_X14_divides__252_253_42 w n a2 a4 a5 m = some r → fr S_X14_divides__252_253 m r := by
  induction n with
  | zero => intro a2 a4 a5 m r h; cases h
  | succ n ih =>
    intro a2 a4 a5 m r h
    exact fg_X14_divides__252_253_42_b ih h
theorem fg_X14_divides__252_253 {w : rf_w} {m : rf_m} {a2 : Int32} {a4 : Int32} {r : (rf_m)} (h : g_X14_divides__252_253 w m a2 a4 = some r) : fr S_X14_divides__252_253 m r := by
  unfold g_X14_divides__252_253 at h
  obtain ⟨m0, q1, h⟩ := rf_bv_some h
  have e1 : fr S_X14_divides__252_253 m m0 := fr_trans ((fr_refl _ m)) (fr_mono (fg_X14_set__249 q1) (by decide))
  obtain ⟨m1, q2, h⟩ := rf_bv_some h
  have e2 : fr S_X14_divides__252_253 m m1 := fr_trans e1 (fr_mono (fg_X14_set__250 q2) (by decide))
  obtain ⟨m2, q3, h⟩ := rf_bv_some h
  have e3 : fr S_X14_divides__252_253 m m2 := fr_trans e2 (fr_mono (fg_X14_copies__251_253 q3) (by decide))
  obtain ⟨m3, q4, h⟩ := rf_bv_some h
  have e4 : fr S_X14_divides__252_253 m m3 := fr_trans e3 (fr_mono (fg_X14_turns__251 q4) (by decide))
  exact fr_trans e4 (fr_mono (fg_X14_divides__252_253_42 _ h) (by decide))
def S_X14_isZero__250 : fr_S := []
theorem fg_X14_isZero__250_27 {w : rf_w} {rec4 : Int32 → Int32 → Int32 → rf_m → Option (Int32 × rf_m)} {a1 : Int32} {a3 : Int32} {s0 : Int32} {m : rf_m} (hr_rec4 : ∀ {x0 : Int32} {x1 : Int32} {x2 : Int32} {m : rf_m} {r : (Int32 × rf_m)}, rec4 x0 x1 x2 m = some r → fr S_X14_isZero__250 m r.2) {r : (Int32 × rf_m)} (h : g_X14_isZero__250_27 w rec4 a1 a3 s0 m = some r) : fr S_X14_isZero__250 m r.2 := by
  unfold g_X14_isZero__250_27 at h
  exact fr_trans ((fr_refl _ m)) (hr_rec4 h)
theorem fg_X14_isZero__250_26 {w : rf_w} {rec4 : Int32 → Int32 → Int32 → rf_m → Option (Int32 × rf_m)} {a1 : Int32} {a3 : Int32} {m : rf_m} (hr_rec4 : ∀ {x0 : Int32} {x1 : Int32} {x2 : Int32} {m : rf_m} {r : (Int32 × rf_m)}, rec4 x0 x1 x2 m = some r → fr S_X14_isZero__250 m r.2) {r : (Int32 × rf_m)} (h : g_X14_isZero__250_26 w rec4 a1 a3 m = some r) : fr S_X14_isZero__250 m r.2 := by
  unfold g_X14_isZero__250_26 at h
  exact fr_trans ((fr_refl _ m)) (fr_mono (fg_X14_isZero__250_27 hr_rec4 h) (by decide))
theorem fg_X14_isZero__250_4_b {w : rf_w} {rec4 : Int32 → Int32 → Int32 → rf_m → Option (Int32 × rf_m)} {a1 : Int32} {a2 : Int32} {a3 : Int32} {m : rf_m} (hr_rec4 : ∀ {x0 : Int32} {x1 : Int32} {x2 : Int32} {m : rf_m} {r : (Int32 × rf_m)}, rec4 x0 x1 x2 m = some r → fr S_X14_isZero__250 m r.2) {r : (Int32 × rf_m)} (h : g_X14_isZero__250_4_b w rec4 a1 a2 a3 m = some r) : fr S_X14_isZero__250 m r.2 := by
  unfold g_X14_isZero__250_4_b at h
  rcases rf_ite_some h with ⟨_, h⟩ | ⟨_, h⟩
  · obtain ⟨_, h⟩ := rf_g_some h
    obtain rfl := Option.some.inj h
    exact (fr_refl _ m)
  · rcases rf_ite_some h with ⟨_, h⟩ | ⟨_, h⟩
    · exact fr_trans ((fr_refl _ m)) (fr_mono (fg_X14_isZero__250_26 hr_rec4 h) (by decide))
    · obtain ⟨_, h⟩ := rf_g_some h
      rcases rf_ite_some h with ⟨_, h⟩ | ⟨_, h⟩
      · exact fr_trans ((fr_refl _ m)) (fr_mono (fg_X14_isZero__250_27 hr_rec4 h) (by decide))
      · exact fr_trans ((fr_refl _ m)) (fr_mono (fg_X14_isZero__250_26 hr_rec4 h) (by decide))
theorem fg_X14_isZero__250_4 {w : rf_w} (n : Nat) : ∀ {a1 : Int32} {a2 : Int32} {a3 : Int32} {m : rf_m} {r : (Int32 × rf_m)}, g_X14_isZero__250_4 w n a1 a2 a3 m = some r → fr S_X14_isZero__250 m r.2 := by
  induction n with
  | zero => intro a1 a2 a3 m r h; cases h
  | succ n ih =>
    intro a1 a2 a3 m r h
    exact fg_X14_isZero__250_4_b ih h
theorem fg_X14_isZero__250 {w : rf_w} {m : rf_m} {a1 : Int32} {r : (Int32 × rf_m)} (h : g_X14_isZero__250 w m a1 = some r) : fr S_X14_isZero__250 m r.2 := by
  unfold g_X14_isZero__250 at h
  exact fr_trans ((fr_refl _ m)) (fr_mono (fg_X14_isZero__250_4 _ h) (by decide))
def S_X14_turns__249 : fr_S := [(249, 249, none)]
theorem fg_X14_turns__249_5_b {w : rf_w} {rec5 : Int32 → Int64 → Int32 → rf_m → Option (rf_m)} {a1 : Int32} {a2 : Int64} {a4 : Int32} {m : rf_m} (hr_rec5 : ∀ {x0 : Int32} {x1 : Int64} {x2 : Int32} {m : rf_m} {r : (rf_m)}, rec5 x0 x1 x2 m = some r → fr S_X14_turns__249 m r) {r : (rf_m)} (h : g_X14_turns__249_5_b w rec5 a1 a2 a4 m = some r) : fr S_X14_turns__249 m r := by
  unfold g_X14_turns__249_5_b at h
  rcases rf_ite_some h with ⟨_, h⟩ | ⟨_, h⟩
  · obtain rfl := Option.some.inj h
    exact (fr_refl _ m)
  · obtain ⟨_, h⟩ := rf_g_some h
    have h := fr_vl h
    obtain ⟨_, h⟩ := rf_g_some h
    have h := fr_vl h
    exact fr_trans (fr_i ((fr_refl _ m)) (fr_c_in (by decide) _)) (hr_rec5 h)
theorem fg_X14_turns__249_5 {w : rf_w} (n : Nat) : ∀ {a1 : Int32} {a2 : Int64} {a4 : Int32} {m : rf_m} {r : (rf_m)}, g_X14_turns__249_5 w n a1 a2 a4 m = some r → fr S_X14_turns__249 m r := by
  induction n with
  | zero => intro a1 a2 a4 m r h; cases h
  | succ n ih =>
    intro a1 a2 a4 m r h
    exact fg_X14_turns__249_5_b ih h
theorem fg_X14_turns__249 {w : rf_w} {m : rf_m} {a1 : Int32} {r : (rf_m)} (h : g_X14_turns__249 w m a1 = some r) : fr S_X14_turns__249 m r := by
  unfold g_X14_turns__249 at h
  exact fr_trans ((fr_refl _ m)) (fr_mono (fg_X14_turns__249_5 _ h) (by decide))
def S_X14_set__251 : fr_S := [(251, 251, none)]
theorem fg_X14_set__251_50 {w : rf_w} {rec3 : Int32 → Int64 → Int32 → rf_m → Option (rf_m)} {a1 : Int32} {a2 : Int64} {a4 : Int32} {s1 : Int32} {s2 : Int32} {m : rf_m} (hr_rec3 : ∀ {x0 : Int32} {x1 : Int64} {x2 : Int32} {m : rf_m} {r : (rf_m)}, rec3 x0 x1 x2 m = some r → fr S_X14_set__251 m r) {r : (rf_m)} (h : g_X14_set__251_50 w rec3 a1 a2 a4 s1 s2 m = some r) : fr S_X14_set__251 m r := by
  unfold g_X14_set__251_50 at h
  obtain ⟨_, h⟩ := rf_g_some h
  exact fr_trans (fr_i ((fr_refl _ m)) (fr_c_in (by decide) _)) (hr_rec3 h)
theorem fg_X14_set__251_3_b {w : rf_w} {rec3 : Int32 → Int64 → Int32 → rf_m → Option (rf_m)} {a1 : Int32} {a2 : Int64} {a4 : Int32} {m : rf_m} (hr_rec3 : ∀ {x0 : Int32} {x1 : Int64} {x2 : Int32} {m : rf_m} {r : (rf_m)}, rec3 x0 x1 x2 m = some r → fr S_X14_set__251 m r) {r : (rf_m)} (h : g_X14_set__251_3_b w rec3 a1 a2 a4 m = some r) : fr S_X14_set__251 m r := by
  unfold g_X14_set__251_3_b at h
  rcases rf_ite_some h with ⟨_, h⟩ | ⟨_, h⟩
  · obtain rfl := Option.some.inj h
    exact (fr_refl _ m)
  · rcases rf_ite_some h with ⟨_, h⟩ | ⟨_, h⟩
    · exact fr_trans ((fr_refl _ m)) (fr_mono (fg_X14_set__251_50 hr_rec3 h) (by decide))
    · rcases rf_ite_some h with ⟨_, h⟩ | ⟨_, h⟩
      · exact fr_trans ((fr_refl _ m)) (fr_mono (fg_X14_set__251_50 hr_rec3 h) (by decide))
      · rcases rf_ite_some h with ⟨_, h⟩ | ⟨_, h⟩
        · exact fr_trans ((fr_refl _ m)) (fr_mono (fg_X14_set__251_50 hr_rec3 h) (by decide))
        · exact fr_trans ((fr_refl _ m)) (fr_mono (fg_X14_set__251_50 hr_rec3 h) (by decide))
theorem fg_X14_set__251_3 {w : rf_w} (n : Nat) : ∀ {a1 : Int32} {a2 : Int64} {a4 : Int32} {m : rf_m} {r : (rf_m)}, g_X14_set__251_3 w n a1 a2 a4 m = some r → fr S_X14_set__251 m r := by
  induction n with
  | zero => intro a1 a2 a4 m r h; cases h
  | succ n ih =>
    intro a1 a2 a4 m r h
    exact fg_X14_set__251_3_b ih h
theorem fg_X14_set__251 {w : rf_w} {m : rf_m} {a1 : Int32} {a2 : Int64} {r : (rf_m)} (h : g_X14_set__251 w m a1 a2 = some r) : fr S_X14_set__251 m r := by
  unfold g_X14_set__251 at h
  exact fr_trans ((fr_refl _ m)) (fr_mono (fg_X14_set__251_3 _ h) (by decide))
def S_X14_adds__249_251 : fr_S := [(249, 249, none)]
theorem fg_X14_adds__249_251_6_b {w : rf_w} {rec6 : Int32 → Int32 → Int64 → Int32 → rf_m → Option (rf_m)} {a1 : Int32} {a3 : Int32} {a4 : Int64} {a6 : Int32} {m : rf_m} (hr_rec6 : ∀ {x0 : Int32} {x1 : Int32} {x2 : Int64} {x3 : Int32} {m : rf_m} {r : (rf_m)}, rec6 x0 x1 x2 x3 m = some r → fr S_X14_adds__249_251 m r) {r : (rf_m)} (h : g_X14_adds__249_251_6_b w rec6 a1 a3 a4 a6 m = some r) : fr S_X14_adds__249_251 m r := by
  unfold g_X14_adds__249_251_6_b at h
  rcases rf_ite_some h with ⟨_, h⟩ | ⟨_, h⟩
  · obtain rfl := Option.some.inj h
    exact (fr_refl _ m)
  · obtain ⟨_, h⟩ := rf_g_some h
    obtain ⟨_, h⟩ := rf_g_some h
    have h := fr_vl h
    obtain ⟨_, h⟩ := rf_g_some h
    have h := fr_vl h
    exact fr_trans (fr_i ((fr_refl _ m)) (fr_c_in (by decide) _)) (hr_rec6 h)
theorem fg_X14_adds__249_251_6 {w : rf_w} (n : Nat) : ∀ {a1 : Int32} {a3 : Int32} {a4 : Int64} {a6 : Int32} {m : rf_m} {r : (rf_m)}, g_X14_adds__249_251_6 w n a1 a3 a4 a6 m = some r → fr S_X14_adds__249_251 m r := by
  induction n with
  | zero => intro a1 a3 a4 a6 m r h; cases h
  | succ n ih =>
    intro a1 a3 a4 a6 m r h
    exact fg_X14_adds__249_251_6_b ih h
theorem fg_X14_adds__249_251 {w : rf_w} {m : rf_m} {a1 : Int32} {a3 : Int32} {r : (rf_m)} (h : g_X14_adds__249_251 w m a1 a3 = some r) : fr S_X14_adds__249_251 m r := by
  unfold g_X14_adds__249_251 at h
  exact fr_trans ((fr_refl _ m)) (fr_mono (fg_X14_adds__249_251_6 _ h) (by decide))
def S_X14_isBelow__252 : fr_S := []
theorem fg_X14_isBelow__252 {w : rf_w} {m : rf_m} {a1 : Int32} {r : (Int32 × rf_m)} (h : g_X14_isBelow__252 w m a1 = some r) : fr S_X14_isBelow__252 m r.2 := by
  unfold g_X14_isBelow__252 at h
  obtain ⟨_, h⟩ := rf_g_some h
  rcases rf_ite_some h with ⟨_, h⟩ | ⟨_, h⟩
  · obtain rfl := Option.some.inj h
    exact (fr_refl _ m)
  · obtain rfl := Option.some.inj h
    exact (fr_refl _ m)
def S_X14_turns__252 : fr_S := [(252, 252, none)]
theorem fg_X14_turns__252_5_b {w : rf_w} {rec5 : Int32 → Int64 → Int32 → rf_m → Option (rf_m)} {a1 : Int32} {a2 : Int64} {a4 : Int32} {m : rf_m} (hr_rec5 : ∀ {x0 : Int32} {x1 : Int64} {x2 : Int32} {m : rf_m} {r : (rf_m)}, rec5 x0 x1 x2 m = some r → fr S_X14_turns__252 m r) {r : (rf_m)} (h : g_X14_turns__252_5_b w rec5 a1 a2 a4 m = some r) : fr S_X14_turns__252 m r := by
  unfold g_X14_turns__252_5_b at h
  rcases rf_ite_some h with ⟨_, h⟩ | ⟨_, h⟩
  · obtain rfl := Option.some.inj h
    exact (fr_refl _ m)
  · obtain ⟨_, h⟩ := rf_g_some h
    have h := fr_vl h
    obtain ⟨_, h⟩ := rf_g_some h
    have h := fr_vl h
    exact fr_trans (fr_i ((fr_refl _ m)) (fr_c_in (by decide) _)) (hr_rec5 h)
theorem fg_X14_turns__252_5 {w : rf_w} (n : Nat) : ∀ {a1 : Int32} {a2 : Int64} {a4 : Int32} {m : rf_m} {r : (rf_m)}, g_X14_turns__252_5 w n a1 a2 a4 m = some r → fr S_X14_turns__252 m r := by
  induction n with
  | zero => intro a1 a2 a4 m r h; cases h
  | succ n ih =>
    intro a1 a2 a4 m r h
    exact fg_X14_turns__252_5_b ih h
theorem fg_X14_turns__252 {w : rf_w} {m : rf_m} {a1 : Int32} {r : (rf_m)} (h : g_X14_turns__252 w m a1 = some r) : fr S_X14_turns__252 m r := by
  unfold g_X14_turns__252 at h
  exact fr_trans ((fr_refl _ m)) (fr_mono (fg_X14_turns__252_5 _ h) (by decide))
def S_X14_floors : fr_S := [(249, 249, none), (250, 250, none), (251, 251, none), (252, 252, none)]
theorem fg_X14_floors_21 {w : rf_w} {a1 : Int32} {m : rf_m} {r : (rf_m)} (h : g_X14_floors_21 w a1 m = some r) : fr S_X14_floors m r := by
  unfold g_X14_floors_21 at h
  obtain ⟨m0, q1, h⟩ := rf_bv_some h
  have e1 : fr S_X14_floors m m0 := fr_trans ((fr_refl _ m)) (fr_mono (fg_X14_divides__252_253 q1) (by decide))
  rcases rf_ite_some h with ⟨_, h⟩ | ⟨_, h⟩
  · obtain rfl := Option.some.inj h
    exact e1
  · obtain ⟨y1, m1, q2, h⟩ := rf_b_some h
    have e2 : fr S_X14_floors m m1 := fr_trans e1 (fr_mono (fg_X14_isZero__250 q2) (by decide))
    obtain ⟨m2, q3, h⟩ := rf_bv_some h
    have e3 : fr S_X14_floors m m2 := fr_trans e2 (fr_mono (fg_X14_turns__249 q3) (by decide))
    rcases rf_ite_some h with ⟨_, h⟩ | ⟨_, h⟩
    · obtain ⟨m3, q4, h⟩ := rf_bv_some h
      have e4 : fr S_X14_floors m m3 := fr_trans e3 (fr_mono (fg_X14_set__251 q4) (by decide))
      obtain ⟨m4, q5, h⟩ := rf_bv_some h
      have e5 : fr S_X14_floors m m4 := fr_trans e4 (fr_mono (fg_X14_adds__249_251 q5) (by decide))
      obtain rfl := Option.some.inj h
      exact e5
    · obtain rfl := Option.some.inj h
      exact e3
theorem fg_X14_floors {w : rf_w} {m : rf_m} {r : (rf_m)} (h : g_X14_floors w m = some r) : fr S_X14_floors m r := by
  unfold g_X14_floors at h
  obtain ⟨y0, m0, q1, h⟩ := rf_b_some h
  have e1 : fr S_X14_floors m m0 := fr_trans ((fr_refl _ m)) (fr_mono (fg_X14_isBelow__252 q1) (by decide))
  rcases rf_ite_some h with ⟨_, h⟩ | ⟨_, h⟩
  · exact fr_trans e1 (fr_mono (fg_X14_floors_21 h) (by decide))
  · obtain ⟨m1, q2, h⟩ := rf_bv_some h
    have e2 : fr S_X14_floors m m1 := fr_trans e1 (fr_mono (fg_X14_turns__252 q2) (by decide))
    exact fr_trans e2 (fr_mono (fg_X14_floors_21 h) (by decide))
def S_X14_quotientLong : fr_S := []
theorem fg_X14_quotientLong {w : rf_w} {m : rf_m} {r : (Int64 × rf_m)} (h : g_X14_quotientLong w m = some r) : fr S_X14_quotientLong m r.2 := by
  unfold g_X14_quotientLong at h
  obtain rfl := Option.some.inj h
  exact (fr_refl _ m)
def S_X14_isLong : fr_S := []
theorem fg_X14_isLong_44 {w : rf_w} {rec19 : Int32 → Int32 → Int32 → rf_m → Option (Int32 × rf_m)} {a2 : Int32} {a3 : Int32} {s0 : Int32} {m : rf_m} (hr_rec19 : ∀ {x0 : Int32} {x1 : Int32} {x2 : Int32} {m : rf_m} {r : (Int32 × rf_m)}, rec19 x0 x1 x2 m = some r → fr S_X14_isLong m r.2) {r : (Int32 × rf_m)} (h : g_X14_isLong_44 w rec19 a2 a3 s0 m = some r) : fr S_X14_isLong m r.2 := by
  unfold g_X14_isLong_44 at h
  exact fr_trans ((fr_refl _ m)) (hr_rec19 h)
theorem fg_X14_isLong_43 {w : rf_w} {rec19 : Int32 → Int32 → Int32 → rf_m → Option (Int32 × rf_m)} {a2 : Int32} {a3 : Int32} {m : rf_m} (hr_rec19 : ∀ {x0 : Int32} {x1 : Int32} {x2 : Int32} {m : rf_m} {r : (Int32 × rf_m)}, rec19 x0 x1 x2 m = some r → fr S_X14_isLong m r.2) {r : (Int32 × rf_m)} (h : g_X14_isLong_43 w rec19 a2 a3 m = some r) : fr S_X14_isLong m r.2 := by
  unfold g_X14_isLong_43 at h
  exact fr_trans ((fr_refl _ m)) (fr_mono (fg_X14_isLong_44 hr_rec19 h) (by decide))
theorem fg_X14_isLong_19_b {w : rf_w} {rec19 : Int32 → Int32 → Int32 → rf_m → Option (Int32 × rf_m)} {a1 : Int32} {a2 : Int32} {a3 : Int32} {m : rf_m} (hr_rec19 : ∀ {x0 : Int32} {x1 : Int32} {x2 : Int32} {m : rf_m} {r : (Int32 × rf_m)}, rec19 x0 x1 x2 m = some r → fr S_X14_isLong m r.2) {r : (Int32 × rf_m)} (h : g_X14_isLong_19_b w rec19 a1 a2 a3 m = some r) : fr S_X14_isLong m r.2 := by
  unfold g_X14_isLong_19_b at h
  rcases rf_ite_some h with ⟨_, h⟩ | ⟨_, h⟩
  · obtain ⟨_, h⟩ := rf_g_some h
    obtain rfl := Option.some.inj h
    exact (fr_refl _ m)
  · rcases rf_ite_some h with ⟨_, h⟩ | ⟨_, h⟩
    · exact fr_trans ((fr_refl _ m)) (fr_mono (fg_X14_isLong_43 hr_rec19 h) (by decide))
    · obtain ⟨_, h⟩ := rf_g_some h
      rcases rf_ite_some h with ⟨_, h⟩ | ⟨_, h⟩
      · exact fr_trans ((fr_refl _ m)) (fr_mono (fg_X14_isLong_44 hr_rec19 h) (by decide))
      · exact fr_trans ((fr_refl _ m)) (fr_mono (fg_X14_isLong_43 hr_rec19 h) (by decide))
theorem fg_X14_isLong_19 {w : rf_w} (n : Nat) : ∀ {a1 : Int32} {a2 : Int32} {a3 : Int32} {m : rf_m} {r : (Int32 × rf_m)}, g_X14_isLong_19 w n a1 a2 a3 m = some r → fr S_X14_isLong m r.2 := by
  induction n with
  | zero => intro a1 a2 a3 m r h; cases h
  | succ n ih =>
    intro a1 a2 a3 m r h
    exact fg_X14_isLong_19_b ih h
theorem fg_X14_isLong_16 {w : rf_w} {a1 : Int32} {s0 : Int32} {m : rf_m} {r : (Int32 × rf_m)} (h : g_X14_isLong_16 w a1 s0 m = some r) : fr S_X14_isLong m r.2 := by
  unfold g_X14_isLong_16 at h
  exact fr_trans ((fr_refl _ m)) (fr_mono (fg_X14_isLong_19 _ h) (by decide))
theorem fg_X14_isLong {w : rf_w} {m : rf_m} {r : (Int32 × rf_m)} (h : g_X14_isLong w m = some r) : fr S_X14_isLong m r.2 := by
  unfold g_X14_isLong at h
  rcases rf_ite_some h with ⟨_, h⟩ | ⟨_, h⟩
  · exact fr_trans ((fr_refl _ m)) (fr_mono (fg_X14_isLong_16 h) (by decide))
  · exact fr_trans ((fr_refl _ m)) (fr_mono (fg_X14_isLong_16 h) (by decide))
def S_X14_isPartOf : fr_S := []
theorem fg_X14_isPartOf_57 {w : rf_w} {rec5 : Int32 → Int32 → Int32 → Int32 → rf_m → Option (Int32 × rf_m)} {a1 : Int32} {a2 : Int32} {a4 : Int32} {s0 : Int32} {m : rf_m} (hr_rec5 : ∀ {x0 : Int32} {x1 : Int32} {x2 : Int32} {x3 : Int32} {m : rf_m} {r : (Int32 × rf_m)}, rec5 x0 x1 x2 x3 m = some r → fr S_X14_isPartOf m r.2) {r : (Int32 × rf_m)} (h : g_X14_isPartOf_57 w rec5 a1 a2 a4 s0 m = some r) : fr S_X14_isPartOf m r.2 := by
  unfold g_X14_isPartOf_57 at h
  exact fr_trans ((fr_refl _ m)) (hr_rec5 h)
theorem fg_X14_isPartOf_52 {w : rf_w} {rec5 : Int32 → Int32 → Int32 → Int32 → rf_m → Option (Int32 × rf_m)} {a1 : Int32} {a2 : Int32} {a4 : Int32} {m : rf_m} (hr_rec5 : ∀ {x0 : Int32} {x1 : Int32} {x2 : Int32} {x3 : Int32} {m : rf_m} {r : (Int32 × rf_m)}, rec5 x0 x1 x2 x3 m = some r → fr S_X14_isPartOf m r.2) {r : (Int32 × rf_m)} (h : g_X14_isPartOf_52 w rec5 a1 a2 a4 m = some r) : fr S_X14_isPartOf m r.2 := by
  unfold g_X14_isPartOf_52 at h
  exact fr_trans ((fr_refl _ m)) (fr_mono (fg_X14_isPartOf_57 hr_rec5 h) (by decide))
theorem fg_X14_isPartOf_5_b {w : rf_w} {rec5 : Int32 → Int32 → Int32 → Int32 → rf_m → Option (Int32 × rf_m)} {a1 : Int32} {a2 : Int32} {a3 : Int32} {a4 : Int32} {m : rf_m} (hr_rec5 : ∀ {x0 : Int32} {x1 : Int32} {x2 : Int32} {x3 : Int32} {m : rf_m} {r : (Int32 × rf_m)}, rec5 x0 x1 x2 x3 m = some r → fr S_X14_isPartOf m r.2) {r : (Int32 × rf_m)} (h : g_X14_isPartOf_5_b w rec5 a1 a2 a3 a4 m = some r) : fr S_X14_isPartOf m r.2 := by
  unfold g_X14_isPartOf_5_b at h
  obtain ⟨_, h⟩ := rf_g_some h
  obtain ⟨_, h⟩ := rf_g_some h
  obtain ⟨y2, m2, q1, h⟩ := rf_b_some h
  have e1 : fr S_X14_isPartOf m m2 := fr_trans ((fr_refl _ m)) (fr_mono (fg_X14_sizeOf q1) (by decide))
  rcases rf_ite_some h with ⟨_, h⟩ | ⟨_, h⟩
  · obtain ⟨_, h⟩ := rf_g_some h
    obtain rfl := Option.some.inj h
    exact e1
  · rcases rf_ite_some h with ⟨_, h⟩ | ⟨_, h⟩
    · obtain ⟨_, h⟩ := rf_g_some h
      obtain ⟨_, h⟩ := rf_g_some h
      obtain ⟨y5, m5, q2, h⟩ := rf_b_some h
      have e2 : fr S_X14_isPartOf m m5 := fr_trans e1 (fr_mono (fg_X14_angleIn q2) (by decide))
      rcases rf_ite_some h with ⟨_, h⟩ | ⟨_, h⟩
      · exact fr_trans e2 (fr_mono (fg_X14_isPartOf_52 hr_rec5 h) (by decide))
      · exact fr_trans e2 (fr_mono (fg_X14_isPartOf_57 hr_rec5 h) (by decide))
    · exact fr_trans e1 (fr_mono (fg_X14_isPartOf_52 hr_rec5 h) (by decide))
theorem fg_X14_isPartOf_5 {w : rf_w} (n : Nat) : ∀ {a1 : Int32} {a2 : Int32} {a3 : Int32} {a4 : Int32} {m : rf_m} {r : (Int32 × rf_m)}, g_X14_isPartOf_5 w n a1 a2 a3 a4 m = some r → fr S_X14_isPartOf m r.2 := by
  induction n with
  | zero => intro a1 a2 a3 a4 m r h; cases h
  | succ n ih =>
    intro a1 a2 a3 a4 m r h
    exact fg_X14_isPartOf_5_b ih h
theorem fg_X14_isPartOf {w : rf_w} {m : rf_m} {a1 : Int32} {a2 : Int32} {r : (Int32 × rf_m)} (h : g_X14_isPartOf w m a1 a2 = some r) : fr S_X14_isPartOf m r.2 := by
  unfold g_X14_isPartOf at h
  exact fr_trans ((fr_refl _ m)) (fr_mono (fg_X14_isPartOf_5 _ h) (by decide))
def S_X14_turns__257 : fr_S := [(257, 257, none)]
theorem fg_X14_turns__257_5_b {w : rf_w} {rec5 : Int32 → Int64 → Int32 → rf_m → Option (rf_m)} {a1 : Int32} {a2 : Int64} {a4 : Int32} {m : rf_m} (hr_rec5 : ∀ {x0 : Int32} {x1 : Int64} {x2 : Int32} {m : rf_m} {r : (rf_m)}, rec5 x0 x1 x2 m = some r → fr S_X14_turns__257 m r) {r : (rf_m)} (h : g_X14_turns__257_5_b w rec5 a1 a2 a4 m = some r) : fr S_X14_turns__257 m r := by
  unfold g_X14_turns__257_5_b at h
  rcases rf_ite_some h with ⟨_, h⟩ | ⟨_, h⟩
  · obtain rfl := Option.some.inj h
    exact (fr_refl _ m)
  · obtain ⟨_, h⟩ := rf_g_some h
    have h := fr_vl h
    obtain ⟨_, h⟩ := rf_g_some h
    have h := fr_vl h
    exact fr_trans (fr_i ((fr_refl _ m)) (fr_c_in (by decide) _)) (hr_rec5 h)
theorem fg_X14_turns__257_5 {w : rf_w} (n : Nat) : ∀ {a1 : Int32} {a2 : Int64} {a4 : Int32} {m : rf_m} {r : (rf_m)}, g_X14_turns__257_5 w n a1 a2 a4 m = some r → fr S_X14_turns__257 m r := by
  induction n with
  | zero => intro a1 a2 a4 m r h; cases h
  | succ n ih =>
    intro a1 a2 a4 m r h
    exact fg_X14_turns__257_5_b ih h
theorem fg_X14_turns__257 {w : rf_w} {m : rf_m} {a1 : Int32} {r : (rf_m)} (h : g_X14_turns__257 w m a1 = some r) : fr S_X14_turns__257 m r := by
  unfold g_X14_turns__257 at h
  exact fr_trans ((fr_refl _ m)) (fr_mono (fg_X14_turns__257_5 _ h) (by decide))
def S_X14_times__257_264 : fr_S := [(257, 257, none)]
theorem fg_X14_times__257_264_14_b {w : rf_w} {rec14 : Int32 → Int32 → Int32 → Int64 → Int64 → Int32 → rf_m → Option (rf_m)} {a1 : Int32} {a3 : Int32} {a4 : Int32} {a5 : Int64} {a7 : Int64} {a9 : Int32} {m : rf_m} (hr_rec14 : ∀ {x0 : Int32} {x1 : Int32} {x2 : Int32} {x3 : Int64} {x4 : Int64} {x5 : Int32} {m : rf_m} {r : (rf_m)}, rec14 x0 x1 x2 x3 x4 x5 m = some r → fr S_X14_times__257_264 m r) {r : (rf_m)} (h : g_X14_times__257_264_14_b w rec14 a1 a3 a4 a5 a7 a9 m = some r) : fr S_X14_times__257_264 m r := by
  unfold g_X14_times__257_264_14_b at h
  rcases rf_ite_some h with ⟨_, h⟩ | ⟨_, h⟩
  · rcases rf_ite_some h with ⟨_, h⟩ | ⟨_, h⟩
    · obtain rfl := Option.some.inj h
      exact (fr_refl _ m)
    · obtain ⟨m0, q1, h⟩ := rf_bv_some h
      have e1 : fr S_X14_times__257_264 m m0 := fr_trans ((fr_refl _ m)) (fr_mono (fg_X14_turns__257 q1) (by decide))
      obtain rfl := Option.some.inj h
      exact e1
  · obtain ⟨_, h⟩ := rf_g_some h
    have h := fr_vl h
    obtain ⟨_, h⟩ := rf_g_some h
    have h := fr_vl h
    exact fr_trans (fr_i ((fr_refl _ m)) (fr_c_in (by decide) _)) (hr_rec14 h)
theorem fg_X14_times__257_264_14 {w : rf_w} (n : Nat) : ∀ {a1 : Int32} {a3 : Int32} {a4 : Int32} {a5 : Int64} {a7 : Int64} {a9 : Int32} {m : rf_m} {r : (rf_m)}, g_X14_times__257_264_14 w n a1 a3 a4 a5 a7 a9 m = some r → fr S_X14_times__257_264 m r := by
  induction n with
  | zero => intro a1 a3 a4 a5 a7 a9 m r h; cases h
  | succ n ih =>
    intro a1 a3 a4 a5 a7 a9 m r h
    exact fg_X14_times__257_264_14_b ih h
theorem fg_X14_times__257_264 {w : rf_w} {m : rf_m} {a1 : Int32} {a3 : Int32} {a4 : Int32} {r : (rf_m)} (h : g_X14_times__257_264 w m a1 a3 a4 = some r) : fr S_X14_times__257_264 m r := by
  unfold g_X14_times__257_264 at h
  obtain ⟨y0, m0, q1, h⟩ := rf_b_some h
  have e1 : fr S_X14_times__257_264 m m0 := fr_trans ((fr_refl _ m)) (fr_mono (fg_absL q1) (by decide))
  exact fr_trans e1 (fr_mono (fg_X14_times__257_264_14 _ h) (by decide))
def S_X14_copies__264_257 : fr_S := [(264, 264, none)]
theorem fg_X14_copies__264_257_3_b {w : rf_w} {rec3 : Int32 → Int32 → Int32 → rf_m → Option (rf_m)} {a1 : Int32} {a3 : Int32} {a4 : Int32} {m : rf_m} (hr_rec3 : ∀ {x0 : Int32} {x1 : Int32} {x2 : Int32} {m : rf_m} {r : (rf_m)}, rec3 x0 x1 x2 m = some r → fr S_X14_copies__264_257 m r) {r : (rf_m)} (h : g_X14_copies__264_257_3_b w rec3 a1 a3 a4 m = some r) : fr S_X14_copies__264_257 m r := by
  unfold g_X14_copies__264_257_3_b at h
  rcases rf_ite_some h with ⟨_, h⟩ | ⟨_, h⟩
  · obtain rfl := Option.some.inj h
    exact (fr_refl _ m)
  · obtain ⟨_, h⟩ := rf_g_some h
    obtain ⟨_, h⟩ := rf_g_some h
    exact fr_trans (fr_i ((fr_refl _ m)) (fr_c_in (by decide) _)) (hr_rec3 h)
theorem fg_X14_copies__264_257_3 {w : rf_w} (n : Nat) : ∀ {a1 : Int32} {a3 : Int32} {a4 : Int32} {m : rf_m} {r : (rf_m)}, g_X14_copies__264_257_3 w n a1 a3 a4 m = some r → fr S_X14_copies__264_257 m r := by
  induction n with
  | zero => intro a1 a3 a4 m r h; cases h
  | succ n ih =>
    intro a1 a3 a4 m r h
    exact fg_X14_copies__264_257_3_b ih h
theorem fg_X14_copies__264_257 {w : rf_w} {m : rf_m} {a1 : Int32} {a3 : Int32} {r : (rf_m)} (h : g_X14_copies__264_257 w m a1 a3 = some r) : fr S_X14_copies__264_257 m r := by
  unfold g_X14_copies__264_257 at h
  exact fr_trans ((fr_refl _ m)) (fr_mono (fg_X14_copies__264_257_3 _ h) (by decide))
def S_X14_adds__264_258 : fr_S := [(264, 264, none)]
theorem fg_X14_adds__264_258_6_b {w : rf_w} {rec6 : Int32 → Int32 → Int64 → Int32 → rf_m → Option (rf_m)} {a1 : Int32} {a3 : Int32} {a4 : Int64} {a6 : Int32} {m : rf_m} (hr_rec6 : ∀ {x0 : Int32} {x1 : Int32} {x2 : Int64} {x3 : Int32} {m : rf_m} {r : (rf_m)}, rec6 x0 x1 x2 x3 m = some r → fr S_X14_adds__264_258 m r) {r : (rf_m)} (h : g_X14_adds__264_258_6_b w rec6 a1 a3 a4 a6 m = some r) : fr S_X14_adds__264_258 m r := by
  unfold g_X14_adds__264_258_6_b at h
  rcases rf_ite_some h with ⟨_, h⟩ | ⟨_, h⟩
  · obtain rfl := Option.some.inj h
    exact (fr_refl _ m)
  · obtain ⟨_, h⟩ := rf_g_some h
    obtain ⟨_, h⟩ := rf_g_some h
    have h := fr_vl h
    obtain ⟨_, h⟩ := rf_g_some h
    have h := fr_vl h
    exact fr_trans (fr_i ((fr_refl _ m)) (fr_c_in (by decide) _)) (hr_rec6 h)
theorem fg_X14_adds__264_258_6 {w : rf_w} (n : Nat) : ∀ {a1 : Int32} {a3 : Int32} {a4 : Int64} {a6 : Int32} {m : rf_m} {r : (rf_m)}, g_X14_adds__264_258_6 w n a1 a3 a4 a6 m = some r → fr S_X14_adds__264_258 m r := by
  induction n with
  | zero => intro a1 a3 a4 a6 m r h; cases h
  | succ n ih =>
    intro a1 a3 a4 a6 m r h
    exact fg_X14_adds__264_258_6_b ih h
theorem fg_X14_adds__264_258 {w : rf_w} {m : rf_m} {a1 : Int32} {a3 : Int32} {r : (rf_m)} (h : g_X14_adds__264_258 w m a1 a3 = some r) : fr S_X14_adds__264_258 m r := by
  unfold g_X14_adds__264_258 at h
  exact fr_trans ((fr_refl _ m)) (fr_mono (fg_X14_adds__264_258_6 _ h) (by decide))
def S_X14_set__264 : fr_S := [(264, 264, none)]
theorem fg_X14_set__264_50 {w : rf_w} {rec3 : Int32 → Int64 → Int32 → rf_m → Option (rf_m)} {a1 : Int32} {a2 : Int64} {a4 : Int32} {s1 : Int32} {s2 : Int32} {m : rf_m} (hr_rec3 : ∀ {x0 : Int32} {x1 : Int64} {x2 : Int32} {m : rf_m} {r : (rf_m)}, rec3 x0 x1 x2 m = some r → fr S_X14_set__264 m r) {r : (rf_m)} (h : g_X14_set__264_50 w rec3 a1 a2 a4 s1 s2 m = some r) : fr S_X14_set__264 m r := by
  unfold g_X14_set__264_50 at h
  obtain ⟨_, h⟩ := rf_g_some h
  exact fr_trans (fr_i ((fr_refl _ m)) (fr_c_in (by decide) _)) (hr_rec3 h)
theorem fg_X14_set__264_3_b {w : rf_w} {rec3 : Int32 → Int64 → Int32 → rf_m → Option (rf_m)} {a1 : Int32} {a2 : Int64} {a4 : Int32} {m : rf_m} (hr_rec3 : ∀ {x0 : Int32} {x1 : Int64} {x2 : Int32} {m : rf_m} {r : (rf_m)}, rec3 x0 x1 x2 m = some r → fr S_X14_set__264 m r) {r : (rf_m)} (h : g_X14_set__264_3_b w rec3 a1 a2 a4 m = some r) : fr S_X14_set__264 m r := by
  unfold g_X14_set__264_3_b at h
  rcases rf_ite_some h with ⟨_, h⟩ | ⟨_, h⟩
  · obtain rfl := Option.some.inj h
    exact (fr_refl _ m)
  · rcases rf_ite_some h with ⟨_, h⟩ | ⟨_, h⟩
    · exact fr_trans ((fr_refl _ m)) (fr_mono (fg_X14_set__264_50 hr_rec3 h) (by decide))
    · rcases rf_ite_some h with ⟨_, h⟩ | ⟨_, h⟩
      · exact fr_trans ((fr_refl _ m)) (fr_mono (fg_X14_set__264_50 hr_rec3 h) (by decide))
      · rcases rf_ite_some h with ⟨_, h⟩ | ⟨_, h⟩
        · exact fr_trans ((fr_refl _ m)) (fr_mono (fg_X14_set__264_50 hr_rec3 h) (by decide))
        · exact fr_trans ((fr_refl _ m)) (fr_mono (fg_X14_set__264_50 hr_rec3 h) (by decide))
theorem fg_X14_set__264_3 {w : rf_w} (n : Nat) : ∀ {a1 : Int32} {a2 : Int64} {a4 : Int32} {m : rf_m} {r : (rf_m)}, g_X14_set__264_3 w n a1 a2 a4 m = some r → fr S_X14_set__264 m r := by
  induction n with
  | zero => intro a1 a2 a4 m r h; cases h
  | succ n ih =>
    intro a1 a2 a4 m r h
    exact fg_X14_set__264_3_b ih h
theorem fg_X14_set__264 {w : rf_w} {m : rf_m} {a1 : Int32} {a2 : Int64} {r : (rf_m)} (h : g_X14_set__264 w m a1 a2 = some r) : fr S_X14_set__264 m r := by
  unfold g_X14_set__264 at h
  exact fr_trans ((fr_refl _ m)) (fr_mono (fg_X14_set__264_3 _ h) (by decide))
def S_X14_times__257_252 : fr_S := [(257, 257, none)]
theorem fg_X14_times__257_252_14_b {w : rf_w} {rec14 : Int32 → Int32 → Int32 → Int64 → Int64 → Int32 → rf_m → Option (rf_m)} {a1 : Int32} {a3 : Int32} {a4 : Int32} {a5 : Int64} {a7 : Int64} {a9 : Int32} {m : rf_m} (hr_rec14 : ∀ {x0 : Int32} {x1 : Int32} {x2 : Int32} {x3 : Int64} {x4 : Int64} {x5 : Int32} {m : rf_m} {r : (rf_m)}, rec14 x0 x1 x2 x3 x4 x5 m = some r → fr S_X14_times__257_252 m r) {r : (rf_m)} (h : g_X14_times__257_252_14_b w rec14 a1 a3 a4 a5 a7 a9 m = some r) : fr S_X14_times__257_252 m r := by
  unfold g_X14_times__257_252_14_b at h
  rcases rf_ite_some h with ⟨_, h⟩ | ⟨_, h⟩
  · rcases rf_ite_some h with ⟨_, h⟩ | ⟨_, h⟩
    · obtain rfl := Option.some.inj h
      exact (fr_refl _ m)
    · obtain ⟨m0, q1, h⟩ := rf_bv_some h
      have e1 : fr S_X14_times__257_252 m m0 := fr_trans ((fr_refl _ m)) (fr_mono (fg_X14_turns__257 q1) (by decide))
      obtain rfl := Option.some.inj h
      exact e1
  · obtain ⟨_, h⟩ := rf_g_some h
    have h := fr_vl h
    obtain ⟨_, h⟩ := rf_g_some h
    have h := fr_vl h
    exact fr_trans (fr_i ((fr_refl _ m)) (fr_c_in (by decide) _)) (hr_rec14 h)
theorem fg_X14_times__257_252_14 {w : rf_w} (n : Nat) : ∀ {a1 : Int32} {a3 : Int32} {a4 : Int32} {a5 : Int64} {a7 : Int64} {a9 : Int32} {m : rf_m} {r : (rf_m)}, g_X14_times__257_252_14 w n a1 a3 a4 a5 a7 a9 m = some r → fr S_X14_times__257_252 m r := by
  induction n with
  | zero => intro a1 a3 a4 a5 a7 a9 m r h; cases h
  | succ n ih =>
    intro a1 a3 a4 a5 a7 a9 m r h
    exact fg_X14_times__257_252_14_b ih h
theorem fg_X14_times__257_252 {w : rf_w} {m : rf_m} {a1 : Int32} {a3 : Int32} {a4 : Int32} {r : (rf_m)} (h : g_X14_times__257_252 w m a1 a3 a4 = some r) : fr S_X14_times__257_252 m r := by
  unfold g_X14_times__257_252 at h
  obtain ⟨y0, m0, q1, h⟩ := rf_b_some h
  have e1 : fr S_X14_times__257_252 m m0 := fr_trans ((fr_refl _ m)) (fr_mono (fg_absL q1) (by decide))
  exact fr_trans e1 (fr_mono (fg_X14_times__257_252_14 _ h) (by decide))
def S_X14_copies__252_257 : fr_S := [(252, 252, none)]
theorem fg_X14_copies__252_257_3_b {w : rf_w} {rec3 : Int32 → Int32 → Int32 → rf_m → Option (rf_m)} {a1 : Int32} {a3 : Int32} {a4 : Int32} {m : rf_m} (hr_rec3 : ∀ {x0 : Int32} {x1 : Int32} {x2 : Int32} {m : rf_m} {r : (rf_m)}, rec3 x0 x1 x2 m = some r → fr S_X14_copies__252_257 m r) {r : (rf_m)} (h : g_X14_copies__252_257_3_b w rec3 a1 a3 a4 m = some r) : fr S_X14_copies__252_257 m r := by
  unfold g_X14_copies__252_257_3_b at h
  rcases rf_ite_some h with ⟨_, h⟩ | ⟨_, h⟩
  · obtain rfl := Option.some.inj h
    exact (fr_refl _ m)
  · obtain ⟨_, h⟩ := rf_g_some h
    obtain ⟨_, h⟩ := rf_g_some h
    exact fr_trans (fr_i ((fr_refl _ m)) (fr_c_in (by decide) _)) (hr_rec3 h)
theorem fg_X14_copies__252_257_3 {w : rf_w} (n : Nat) : ∀ {a1 : Int32} {a3 : Int32} {a4 : Int32} {m : rf_m} {r : (rf_m)}, g_X14_copies__252_257_3 w n a1 a3 a4 m = some r → fr S_X14_copies__252_257 m r := by
  induction n with
  | zero => intro a1 a3 a4 m r h; cases h
  | succ n ih =>
    intro a1 a3 a4 m r h
    exact fg_X14_copies__252_257_3_b ih h
theorem fg_X14_copies__252_257 {w : rf_w} {m : rf_m} {a1 : Int32} {a3 : Int32} {r : (rf_m)} (h : g_X14_copies__252_257 w m a1 a3 = some r) : fr S_X14_copies__252_257 m r := by
  unfold g_X14_copies__252_257 at h
  exact fr_trans ((fr_refl _ m)) (fr_mono (fg_X14_copies__252_257_3 _ h) (by decide))
def S_X14_times__257_256 : fr_S := [(257, 257, none)]
theorem fg_X14_times__257_256_14_b {w : rf_w} {rec14 : Int32 → Int32 → Int32 → Int64 → Int64 → Int32 → rf_m → Option (rf_m)} {a1 : Int32} {a3 : Int32} {a4 : Int32} {a5 : Int64} {a7 : Int64} {a9 : Int32} {m : rf_m} (hr_rec14 : ∀ {x0 : Int32} {x1 : Int32} {x2 : Int32} {x3 : Int64} {x4 : Int64} {x5 : Int32} {m : rf_m} {r : (rf_m)}, rec14 x0 x1 x2 x3 x4 x5 m = some r → fr S_X14_times__257_256 m r) {r : (rf_m)} (h : g_X14_times__257_256_14_b w rec14 a1 a3 a4 a5 a7 a9 m = some r) : fr S_X14_times__257_256 m r := by
  unfold g_X14_times__257_256_14_b at h
  rcases rf_ite_some h with ⟨_, h⟩ | ⟨_, h⟩
  · rcases rf_ite_some h with ⟨_, h⟩ | ⟨_, h⟩
    · obtain rfl := Option.some.inj h
      exact (fr_refl _ m)
    · obtain ⟨m0, q1, h⟩ := rf_bv_some h
      have e1 : fr S_X14_times__257_256 m m0 := fr_trans ((fr_refl _ m)) (fr_mono (fg_X14_turns__257 q1) (by decide))
      obtain rfl := Option.some.inj h
      exact e1
  · obtain ⟨_, h⟩ := rf_g_some h
    have h := fr_vl h
    obtain ⟨_, h⟩ := rf_g_some h
    have h := fr_vl h
    exact fr_trans (fr_i ((fr_refl _ m)) (fr_c_in (by decide) _)) (hr_rec14 h)
theorem fg_X14_times__257_256_14 {w : rf_w} (n : Nat) : ∀ {a1 : Int32} {a3 : Int32} {a4 : Int32} {a5 : Int64} {a7 : Int64} {a9 : Int32} {m : rf_m} {r : (rf_m)}, g_X14_times__257_256_14 w n a1 a3 a4 a5 a7 a9 m = some r → fr S_X14_times__257_256 m r := by
  induction n with
  | zero => intro a1 a3 a4 a5 a7 a9 m r h; cases h
  | succ n ih =>
    intro a1 a3 a4 a5 a7 a9 m r h
    exact fg_X14_times__257_256_14_b ih h
theorem fg_X14_times__257_256 {w : rf_w} {m : rf_m} {a1 : Int32} {a3 : Int32} {a4 : Int32} {r : (rf_m)} (h : g_X14_times__257_256 w m a1 a3 a4 = some r) : fr S_X14_times__257_256 m r := by
  unfold g_X14_times__257_256 at h
  obtain ⟨y0, m0, q1, h⟩ := rf_b_some h
  have e1 : fr S_X14_times__257_256 m m0 := fr_trans ((fr_refl _ m)) (fr_mono (fg_absL q1) (by decide))
  exact fr_trans e1 (fr_mono (fg_X14_times__257_256_14 _ h) (by decide))
def S_X14_adds__256_257 : fr_S := [(256, 256, none)]
theorem fg_X14_adds__256_257_6_b {w : rf_w} {rec6 : Int32 → Int32 → Int64 → Int32 → rf_m → Option (rf_m)} {a1 : Int32} {a3 : Int32} {a4 : Int64} {a6 : Int32} {m : rf_m} (hr_rec6 : ∀ {x0 : Int32} {x1 : Int32} {x2 : Int64} {x3 : Int32} {m : rf_m} {r : (rf_m)}, rec6 x0 x1 x2 x3 m = some r → fr S_X14_adds__256_257 m r) {r : (rf_m)} (h : g_X14_adds__256_257_6_b w rec6 a1 a3 a4 a6 m = some r) : fr S_X14_adds__256_257 m r := by
  unfold g_X14_adds__256_257_6_b at h
  rcases rf_ite_some h with ⟨_, h⟩ | ⟨_, h⟩
  · obtain rfl := Option.some.inj h
    exact (fr_refl _ m)
  · obtain ⟨_, h⟩ := rf_g_some h
    obtain ⟨_, h⟩ := rf_g_some h
    have h := fr_vl h
    obtain ⟨_, h⟩ := rf_g_some h
    have h := fr_vl h
    exact fr_trans (fr_i ((fr_refl _ m)) (fr_c_in (by decide) _)) (hr_rec6 h)
theorem fg_X14_adds__256_257_6 {w : rf_w} (n : Nat) : ∀ {a1 : Int32} {a3 : Int32} {a4 : Int64} {a6 : Int32} {m : rf_m} {r : (rf_m)}, g_X14_adds__256_257_6 w n a1 a3 a4 a6 m = some r → fr S_X14_adds__256_257 m r := by
  induction n with
  | zero => intro a1 a3 a4 a6 m r h; cases h
  | succ n ih =>
    intro a1 a3 a4 a6 m r h
    exact fg_X14_adds__256_257_6_b ih h
theorem fg_X14_adds__256_257 {w : rf_w} {m : rf_m} {a1 : Int32} {a3 : Int32} {r : (rf_m)} (h : g_X14_adds__256_257 w m a1 a3 = some r) : fr S_X14_adds__256_257 m r := by
  unfold g_X14_adds__256_257 at h
  exact fr_trans ((fr_refl _ m)) (fr_mono (fg_X14_adds__256_257_6 _ h) (by decide))
def S_X14_copies__258_256 : fr_S := [(258, 258, none)]
theorem fg_X14_copies__258_256_3_b {w : rf_w} {rec3 : Int32 → Int32 → Int32 → rf_m → Option (rf_m)} {a1 : Int32} {a3 : Int32} {a4 : Int32} {m : rf_m} (hr_rec3 : ∀ {x0 : Int32} {x1 : Int32} {x2 : Int32} {m : rf_m} {r : (rf_m)}, rec3 x0 x1 x2 m = some r → fr S_X14_copies__258_256 m r) {r : (rf_m)} (h : g_X14_copies__258_256_3_b w rec3 a1 a3 a4 m = some r) : fr S_X14_copies__258_256 m r := by
  unfold g_X14_copies__258_256_3_b at h
  rcases rf_ite_some h with ⟨_, h⟩ | ⟨_, h⟩
  · obtain rfl := Option.some.inj h
    exact (fr_refl _ m)
  · obtain ⟨_, h⟩ := rf_g_some h
    obtain ⟨_, h⟩ := rf_g_some h
    exact fr_trans (fr_i ((fr_refl _ m)) (fr_c_in (by decide) _)) (hr_rec3 h)
theorem fg_X14_copies__258_256_3 {w : rf_w} (n : Nat) : ∀ {a1 : Int32} {a3 : Int32} {a4 : Int32} {m : rf_m} {r : (rf_m)}, g_X14_copies__258_256_3 w n a1 a3 a4 m = some r → fr S_X14_copies__258_256 m r := by
  induction n with
  | zero => intro a1 a3 a4 m r h; cases h
  | succ n ih =>
    intro a1 a3 a4 m r h
    exact fg_X14_copies__258_256_3_b ih h
theorem fg_X14_copies__258_256 {w : rf_w} {m : rf_m} {a1 : Int32} {a3 : Int32} {r : (rf_m)} (h : g_X14_copies__258_256 w m a1 a3 = some r) : fr S_X14_copies__258_256 m r := by
  unfold g_X14_copies__258_256 at h
  exact fr_trans ((fr_refl _ m)) (fr_mono (fg_X14_copies__258_256_3 _ h) (by decide))
def S_X14_set__256 : fr_S := [(256, 256, none)]
theorem fg_X14_set__256_50 {w : rf_w} {rec3 : Int32 → Int64 → Int32 → rf_m → Option (rf_m)} {a1 : Int32} {a2 : Int64} {a4 : Int32} {s1 : Int32} {s2 : Int32} {m : rf_m} (hr_rec3 : ∀ {x0 : Int32} {x1 : Int64} {x2 : Int32} {m : rf_m} {r : (rf_m)}, rec3 x0 x1 x2 m = some r → fr S_X14_set__256 m r) {r : (rf_m)} (h : g_X14_set__256_50 w rec3 a1 a2 a4 s1 s2 m = some r) : fr S_X14_set__256 m r := by
  unfold g_X14_set__256_50 at h
  obtain ⟨_, h⟩ := rf_g_some h
  exact fr_trans (fr_i ((fr_refl _ m)) (fr_c_in (by decide) _)) (hr_rec3 h)
theorem fg_X14_set__256_3_b {w : rf_w} {rec3 : Int32 → Int64 → Int32 → rf_m → Option (rf_m)} {a1 : Int32} {a2 : Int64} {a4 : Int32} {m : rf_m} (hr_rec3 : ∀ {x0 : Int32} {x1 : Int64} {x2 : Int32} {m : rf_m} {r : (rf_m)}, rec3 x0 x1 x2 m = some r → fr S_X14_set__256 m r) {r : (rf_m)} (h : g_X14_set__256_3_b w rec3 a1 a2 a4 m = some r) : fr S_X14_set__256 m r := by
  unfold g_X14_set__256_3_b at h
  rcases rf_ite_some h with ⟨_, h⟩ | ⟨_, h⟩
  · obtain rfl := Option.some.inj h
    exact (fr_refl _ m)
  · rcases rf_ite_some h with ⟨_, h⟩ | ⟨_, h⟩
    · exact fr_trans ((fr_refl _ m)) (fr_mono (fg_X14_set__256_50 hr_rec3 h) (by decide))
    · rcases rf_ite_some h with ⟨_, h⟩ | ⟨_, h⟩
      · exact fr_trans ((fr_refl _ m)) (fr_mono (fg_X14_set__256_50 hr_rec3 h) (by decide))
      · rcases rf_ite_some h with ⟨_, h⟩ | ⟨_, h⟩
        · exact fr_trans ((fr_refl _ m)) (fr_mono (fg_X14_set__256_50 hr_rec3 h) (by decide))
        · exact fr_trans ((fr_refl _ m)) (fr_mono (fg_X14_set__256_50 hr_rec3 h) (by decide))
theorem fg_X14_set__256_3 {w : rf_w} (n : Nat) : ∀ {a1 : Int32} {a2 : Int64} {a4 : Int32} {m : rf_m} {r : (rf_m)}, g_X14_set__256_3 w n a1 a2 a4 m = some r → fr S_X14_set__256 m r := by
  induction n with
  | zero => intro a1 a2 a4 m r h; cases h
  | succ n ih =>
    intro a1 a2 a4 m r h
    exact fg_X14_set__256_3_b ih h
theorem fg_X14_set__256 {w : rf_w} {m : rf_m} {a1 : Int32} {a2 : Int64} {r : (rf_m)} (h : g_X14_set__256 w m a1 a2 = some r) : fr S_X14_set__256 m r := by
  unfold g_X14_set__256 at h
  exact fr_trans ((fr_refl _ m)) (fr_mono (fg_X14_set__256_3 _ h) (by decide))
def S_X14_determinant__258 : fr_S := [(256, 256, none), (257, 257, none), (258, 258, none)]
theorem fg_X14_determinant__258_172 {w : rf_w} {rec12 : Int32 → Int32 → Int32 → Int32 → rf_m → Option (rf_m)} {rec45 : Int32 → Int32 → Int32 → Int32 → Int32 → Int32 → rf_m → Option (rf_m)} {a1 : Int32} {a2 : Int32} {a4 : Int32} {a5 : Int32} {a6 : Int32} {a7 : Int32} {m : rf_m} (hr_rec12 : ∀ {x0 : Int32} {x1 : Int32} {x2 : Int32} {x3 : Int32} {m : rf_m} {r : (rf_m)}, rec12 x0 x1 x2 x3 m = some r → fr S_X14_determinant__258 m r) (hr_rec45 : ∀ {x0 : Int32} {x1 : Int32} {x2 : Int32} {x3 : Int32} {x4 : Int32} {x5 : Int32} {m : rf_m} {r : (rf_m)}, rec45 x0 x1 x2 x3 x4 x5 m = some r → fr S_X14_determinant__258 m r) {r : (rf_m)} (h : g_X14_determinant__258_172 w rec12 rec45 a1 a2 a4 a5 a6 a7 m = some r) : fr S_X14_determinant__258 m r := by
  unfold g_X14_determinant__258_172 at h
  exact fr_trans ((fr_refl _ m)) (hr_rec45 h)
theorem fg_X14_determinant__258_152 {w : rf_w} {rec12 : Int32 → Int32 → Int32 → Int32 → rf_m → Option (rf_m)} {rec45 : Int32 → Int32 → Int32 → Int32 → Int32 → Int32 → rf_m → Option (rf_m)} {a1 : Int32} {a2 : Int32} {a4 : Int32} {a5 : Int32} {a6 : Int32} {a7 : Int32} {s1 : Int32} {s3 : Int32} {s4 : Int32} {m : rf_m} (hr_rec12 : ∀ {x0 : Int32} {x1 : Int32} {x2 : Int32} {x3 : Int32} {m : rf_m} {r : (rf_m)}, rec12 x0 x1 x2 x3 m = some r → fr S_X14_determinant__258 m r) (hr_rec45 : ∀ {x0 : Int32} {x1 : Int32} {x2 : Int32} {x3 : Int32} {x4 : Int32} {x5 : Int32} {m : rf_m} {r : (rf_m)}, rec45 x0 x1 x2 x3 x4 x5 m = some r → fr S_X14_determinant__258 m r) {r : (rf_m)} (h : g_X14_determinant__258_152 w rec12 rec45 a1 a2 a4 a5 a6 a7 s1 s3 s4 m = some r) : fr S_X14_determinant__258 m r := by
  unfold g_X14_determinant__258_152 at h
  obtain ⟨m0, q1, h⟩ := rf_bv_some h
  have e1 : fr S_X14_determinant__258 m m0 := fr_trans ((fr_refl _ m)) (fr_mono (fg_X14_times__257_256 q1) (by decide))
  obtain ⟨m1, q2, h⟩ := rf_bv_some h
  have e2 : fr S_X14_determinant__258 m m1 := fr_trans e1 (fr_mono (fg_X14_adds__256_257 q2) (by decide))
  exact fr_trans e2 (fr_mono (fg_X14_determinant__258_172 hr_rec12 hr_rec45 h) (by decide))
theorem fg_X14_determinant__258_116 {w : rf_w} {rec12 : Int32 → Int32 → Int32 → Int32 → rf_m → Option (rf_m)} {rec45 : Int32 → Int32 → Int32 → Int32 → Int32 → Int32 → rf_m → Option (rf_m)} {a1 : Int32} {a2 : Int32} {a4 : Int32} {a5 : Int32} {a6 : Int32} {a7 : Int32} {a8 : Int32} {s0 : Int32} {m : rf_m} (hr_rec12 : ∀ {x0 : Int32} {x1 : Int32} {x2 : Int32} {x3 : Int32} {m : rf_m} {r : (rf_m)}, rec12 x0 x1 x2 x3 m = some r → fr S_X14_determinant__258 m r) (hr_rec45 : ∀ {x0 : Int32} {x1 : Int32} {x2 : Int32} {x3 : Int32} {x4 : Int32} {x5 : Int32} {m : rf_m} {r : (rf_m)}, rec45 x0 x1 x2 x3 x4 x5 m = some r → fr S_X14_determinant__258 m r) {r : (rf_m)} (h : g_X14_determinant__258_116 w rec12 rec45 a1 a2 a4 a5 a6 a7 a8 s0 m = some r) : fr S_X14_determinant__258 m r := by
  unfold g_X14_determinant__258_116 at h
  rcases rf_ite_some h with ⟨_, h⟩ | ⟨_, h⟩
  · exact fr_trans ((fr_refl _ m)) (fr_mono (fg_X14_determinant__258_152 hr_rec12 hr_rec45 h) (by decide))
  · exact fr_trans ((fr_refl _ m)) (fr_mono (fg_X14_determinant__258_152 hr_rec12 hr_rec45 h) (by decide))
theorem fg_X14_determinant__258_93 {w : rf_w} {rec12 : Int32 → Int32 → Int32 → Int32 → rf_m → Option (rf_m)} {rec45 : Int32 → Int32 → Int32 → Int32 → Int32 → Int32 → rf_m → Option (rf_m)} {a1 : Int32} {a2 : Int32} {a4 : Int32} {a5 : Int32} {a6 : Int32} {a7 : Int32} {s0 : Int32} {m : rf_m} (hr_rec12 : ∀ {x0 : Int32} {x1 : Int32} {x2 : Int32} {x3 : Int32} {m : rf_m} {r : (rf_m)}, rec12 x0 x1 x2 x3 m = some r → fr S_X14_determinant__258 m r) (hr_rec45 : ∀ {x0 : Int32} {x1 : Int32} {x2 : Int32} {x3 : Int32} {x4 : Int32} {x5 : Int32} {m : rf_m} {r : (rf_m)}, rec45 x0 x1 x2 x3 x4 x5 m = some r → fr S_X14_determinant__258 m r) {r : (rf_m)} (h : g_X14_determinant__258_93 w rec12 rec45 a1 a2 a4 a5 a6 a7 s0 m = some r) : fr S_X14_determinant__258 m r := by
  unfold g_X14_determinant__258_93 at h
  obtain ⟨y0, m0, q1, h⟩ := rf_b_some h
  have e1 : fr S_X14_determinant__258 m m0 := fr_trans ((fr_refl _ m)) (fr_mono (fg_X14_bits q1) (by decide))
  rcases rf_ite_some h with ⟨_, h⟩ | ⟨_, h⟩
  · exact fr_trans e1 (fr_mono (fg_X14_determinant__258_116 hr_rec12 hr_rec45 h) (by decide))
  · exact fr_trans e1 (fr_mono (fg_X14_determinant__258_116 hr_rec12 hr_rec45 h) (by decide))
theorem fg_X14_determinant__258_45_b {w : rf_w} {rec12 : Int32 → Int32 → Int32 → Int32 → rf_m → Option (rf_m)} {rec45 : Int32 → Int32 → Int32 → Int32 → Int32 → Int32 → rf_m → Option (rf_m)} {a1 : Int32} {a2 : Int32} {a4 : Int32} {a5 : Int32} {a6 : Int32} {a7 : Int32} {m : rf_m} (hr_rec12 : ∀ {x0 : Int32} {x1 : Int32} {x2 : Int32} {x3 : Int32} {m : rf_m} {r : (rf_m)}, rec12 x0 x1 x2 x3 m = some r → fr S_X14_determinant__258 m r) (hr_rec45 : ∀ {x0 : Int32} {x1 : Int32} {x2 : Int32} {x3 : Int32} {x4 : Int32} {x5 : Int32} {m : rf_m} {r : (rf_m)}, rec45 x0 x1 x2 x3 x4 x5 m = some r → fr S_X14_determinant__258 m r) {r : (rf_m)} (h : g_X14_determinant__258_45_b w rec12 rec45 a1 a2 a4 a5 a6 a7 m = some r) : fr S_X14_determinant__258 m r := by
  unfold g_X14_determinant__258_45_b at h
  rcases rf_ite_some h with ⟨_, h⟩ | ⟨_, h⟩
  · exact fr_trans ((fr_refl _ m)) (hr_rec12 h)
  · rcases rf_ite_some h with ⟨_, h⟩ | ⟨_, h⟩
    · exact fr_trans ((fr_refl _ m)) (fr_mono (fg_X14_determinant__258_172 hr_rec12 hr_rec45 h) (by decide))
    · rcases rf_ite_some h with ⟨_, h⟩ | ⟨_, h⟩
      · obtain ⟨_, h⟩ := rf_g_some h
        exact fr_trans ((fr_refl _ m)) (fr_mono (fg_X14_determinant__258_93 hr_rec12 hr_rec45 h) (by decide))
      · obtain ⟨_, h⟩ := rf_g_some h
        exact fr_trans ((fr_refl _ m)) (fr_mono (fg_X14_determinant__258_93 hr_rec12 hr_rec45 h) (by decide))
theorem fg_X14_determinant__258_45 {w : rf_w} {rec12 : Int32 → Int32 → Int32 → Int32 → rf_m → Option (rf_m)} (hr_rec12 : ∀ {x0 : Int32} {x1 : Int32} {x2 : Int32} {x3 : Int32} {m : rf_m} {r : (rf_m)}, rec12 x0 x1 x2 x3 m = some r → fr S_X14_determinant__258 m r) (n : Nat) : ∀ {a1 : Int32} {a2 : Int32} {a4 : Int32} {a5 : Int32} {a6 : Int32} {a7 : Int32} {m : rf_m} {r : (rf_m)}, g_X14_determinant__258_45 w rec12 n a1 a2 a4 a5 a6 a7 m = some r → fr S_X14_determinant__258 m r := by
  induction n with
  | zero => intro a1 a2 a4 a5 a6 a7 m r h; cases h
  | succ n ih =>
    intro a1 a2 a4 a5 a6 a7 m r h
    exact fg_X14_determinant__258_45_b hr_rec12 ih h
theorem fg_X14_determinant__258_12_b {w : rf_w} {rec12 : Int32 → Int32 → Int32 → Int32 → rf_m → Option (rf_m)} {a1 : Int32} {a2 : Int32} {a4 : Int32} {a5 : Int32} {m : rf_m} (hr_rec12 : ∀ {x0 : Int32} {x1 : Int32} {x2 : Int32} {x3 : Int32} {m : rf_m} {r : (rf_m)}, rec12 x0 x1 x2 x3 m = some r → fr S_X14_determinant__258 m r) {r : (rf_m)} (h : g_X14_determinant__258_12_b w rec12 a1 a2 a4 a5 m = some r) : fr S_X14_determinant__258 m r := by
  unfold g_X14_determinant__258_12_b at h
  rcases rf_ite_some h with ⟨_, h⟩ | ⟨_, h⟩
  · obtain ⟨m0, q1, h⟩ := rf_bv_some h
    have e1 : fr S_X14_determinant__258 m m0 := fr_trans ((fr_refl _ m)) (fr_mono (fg_X14_copies__258_256 q1) (by decide))
    obtain rfl := Option.some.inj h
    exact e1
  · obtain ⟨m1, q2, h⟩ := rf_bv_some h
    have e2 : fr S_X14_determinant__258 m m1 := fr_trans ((fr_refl _ m)) (fr_mono (fg_X14_set__256 q2) (by decide))
    obtain ⟨y2, m2, q3, h⟩ := rf_b_some h
    have e3 : fr S_X14_determinant__258 m m2 := fr_trans e2 (fr_mono (fg_X14_bits q3) (by decide))
    exact fr_trans e3 (fr_mono (fg_X14_determinant__258_45 hr_rec12 _ h) (by decide))
theorem fg_X14_determinant__258_12 {w : rf_w} (n : Nat) : ∀ {a1 : Int32} {a2 : Int32} {a4 : Int32} {a5 : Int32} {m : rf_m} {r : (rf_m)}, g_X14_determinant__258_12 w n a1 a2 a4 a5 m = some r → fr S_X14_determinant__258 m r := by
  induction n with
  | zero => intro a1 a2 a4 a5 m r h; cases h
  | succ n ih =>
    intro a1 a2 a4 a5 m r h
    exact fg_X14_determinant__258_12_b ih h
theorem fg_X14_determinant__258 {w : rf_w} {m : rf_m} {a1 : Int32} {a2 : Int32} {a4 : Int32} {r : (rf_m)} (h : g_X14_determinant__258 w m a1 a2 a4 = some r) : fr S_X14_determinant__258 m r := by
  unfold g_X14_determinant__258 at h
  obtain ⟨m0, q1, h⟩ := rf_bv_some h
  have e1 : fr S_X14_determinant__258 m m0 := fr_trans ((fr_refl _ m)) (fr_mono (fg_X14_set__256 q1) (by decide))
  exact fr_trans e1 (fr_mono (fg_X14_determinant__258_12 _ h) (by decide))
def S_X14_times__257_258 : fr_S := [(257, 257, none)]
theorem fg_X14_times__257_258_14_b {w : rf_w} {rec14 : Int32 → Int32 → Int32 → Int64 → Int64 → Int32 → rf_m → Option (rf_m)} {a1 : Int32} {a3 : Int32} {a4 : Int32} {a5 : Int64} {a7 : Int64} {a9 : Int32} {m : rf_m} (hr_rec14 : ∀ {x0 : Int32} {x1 : Int32} {x2 : Int32} {x3 : Int64} {x4 : Int64} {x5 : Int32} {m : rf_m} {r : (rf_m)}, rec14 x0 x1 x2 x3 x4 x5 m = some r → fr S_X14_times__257_258 m r) {r : (rf_m)} (h : g_X14_times__257_258_14_b w rec14 a1 a3 a4 a5 a7 a9 m = some r) : fr S_X14_times__257_258 m r := by
  unfold g_X14_times__257_258_14_b at h
  rcases rf_ite_some h with ⟨_, h⟩ | ⟨_, h⟩
  · rcases rf_ite_some h with ⟨_, h⟩ | ⟨_, h⟩
    · obtain rfl := Option.some.inj h
      exact (fr_refl _ m)
    · obtain ⟨m0, q1, h⟩ := rf_bv_some h
      have e1 : fr S_X14_times__257_258 m m0 := fr_trans ((fr_refl _ m)) (fr_mono (fg_X14_turns__257 q1) (by decide))
      obtain rfl := Option.some.inj h
      exact e1
  · obtain ⟨_, h⟩ := rf_g_some h
    have h := fr_vl h
    obtain ⟨_, h⟩ := rf_g_some h
    have h := fr_vl h
    exact fr_trans (fr_i ((fr_refl _ m)) (fr_c_in (by decide) _)) (hr_rec14 h)
theorem fg_X14_times__257_258_14 {w : rf_w} (n : Nat) : ∀ {a1 : Int32} {a3 : Int32} {a4 : Int32} {a5 : Int64} {a7 : Int64} {a9 : Int32} {m : rf_m} {r : (rf_m)}, g_X14_times__257_258_14 w n a1 a3 a4 a5 a7 a9 m = some r → fr S_X14_times__257_258 m r := by
  induction n with
  | zero => intro a1 a3 a4 a5 a7 a9 m r h; cases h
  | succ n ih =>
    intro a1 a3 a4 a5 a7 a9 m r h
    exact fg_X14_times__257_258_14_b ih h
theorem fg_X14_times__257_258 {w : rf_w} {m : rf_m} {a1 : Int32} {a3 : Int32} {a4 : Int32} {r : (rf_m)} (h : g_X14_times__257_258 w m a1 a3 a4 = some r) : fr S_X14_times__257_258 m r := by
  unfold g_X14_times__257_258 at h
  obtain ⟨y0, m0, q1, h⟩ := rf_b_some h
  have e1 : fr S_X14_times__257_258 m m0 := fr_trans ((fr_refl _ m)) (fr_mono (fg_absL q1) (by decide))
  exact fr_trans e1 (fr_mono (fg_X14_times__257_258_14 _ h) (by decide))
def S_X14_adds__252_257 : fr_S := [(252, 252, none)]
theorem fg_X14_adds__252_257_6_b {w : rf_w} {rec6 : Int32 → Int32 → Int64 → Int32 → rf_m → Option (rf_m)} {a1 : Int32} {a3 : Int32} {a4 : Int64} {a6 : Int32} {m : rf_m} (hr_rec6 : ∀ {x0 : Int32} {x1 : Int32} {x2 : Int64} {x3 : Int32} {m : rf_m} {r : (rf_m)}, rec6 x0 x1 x2 x3 m = some r → fr S_X14_adds__252_257 m r) {r : (rf_m)} (h : g_X14_adds__252_257_6_b w rec6 a1 a3 a4 a6 m = some r) : fr S_X14_adds__252_257 m r := by
  unfold g_X14_adds__252_257_6_b at h
  rcases rf_ite_some h with ⟨_, h⟩ | ⟨_, h⟩
  · obtain rfl := Option.some.inj h
    exact (fr_refl _ m)
  · obtain ⟨_, h⟩ := rf_g_some h
    obtain ⟨_, h⟩ := rf_g_some h
    have h := fr_vl h
    obtain ⟨_, h⟩ := rf_g_some h
    have h := fr_vl h
    exact fr_trans (fr_i ((fr_refl _ m)) (fr_c_in (by decide) _)) (hr_rec6 h)
theorem fg_X14_adds__252_257_6 {w : rf_w} (n : Nat) : ∀ {a1 : Int32} {a3 : Int32} {a4 : Int64} {a6 : Int32} {m : rf_m} {r : (rf_m)}, g_X14_adds__252_257_6 w n a1 a3 a4 a6 m = some r → fr S_X14_adds__252_257 m r := by
  induction n with
  | zero => intro a1 a3 a4 a6 m r h; cases h
  | succ n ih =>
    intro a1 a3 a4 a6 m r h
    exact fg_X14_adds__252_257_6_b ih h
theorem fg_X14_adds__252_257 {w : rf_w} {m : rf_m} {a1 : Int32} {a3 : Int32} {r : (rf_m)} (h : g_X14_adds__252_257 w m a1 a3 = some r) : fr S_X14_adds__252_257 m r := by
  unfold g_X14_adds__252_257 at h
  exact fr_trans ((fr_refl _ m)) (fr_mono (fg_X14_adds__252_257_6 _ h) (by decide))
def S_X14_copies__260_256 : fr_S := [(260, 260, none)]
theorem fg_X14_copies__260_256_3_b {w : rf_w} {rec3 : Int32 → Int32 → Int32 → rf_m → Option (rf_m)} {a1 : Int32} {a3 : Int32} {a4 : Int32} {m : rf_m} (hr_rec3 : ∀ {x0 : Int32} {x1 : Int32} {x2 : Int32} {m : rf_m} {r : (rf_m)}, rec3 x0 x1 x2 m = some r → fr S_X14_copies__260_256 m r) {r : (rf_m)} (h : g_X14_copies__260_256_3_b w rec3 a1 a3 a4 m = some r) : fr S_X14_copies__260_256 m r := by
  unfold g_X14_copies__260_256_3_b at h
  rcases rf_ite_some h with ⟨_, h⟩ | ⟨_, h⟩
  · obtain rfl := Option.some.inj h
    exact (fr_refl _ m)
  · obtain ⟨_, h⟩ := rf_g_some h
    obtain ⟨_, h⟩ := rf_g_some h
    exact fr_trans (fr_i ((fr_refl _ m)) (fr_c_in (by decide) _)) (hr_rec3 h)
theorem fg_X14_copies__260_256_3 {w : rf_w} (n : Nat) : ∀ {a1 : Int32} {a3 : Int32} {a4 : Int32} {m : rf_m} {r : (rf_m)}, g_X14_copies__260_256_3 w n a1 a3 a4 m = some r → fr S_X14_copies__260_256 m r := by
  induction n with
  | zero => intro a1 a3 a4 m r h; cases h
  | succ n ih =>
    intro a1 a3 a4 m r h
    exact fg_X14_copies__260_256_3_b ih h
theorem fg_X14_copies__260_256 {w : rf_w} {m : rf_m} {a1 : Int32} {a3 : Int32} {r : (rf_m)} (h : g_X14_copies__260_256 w m a1 a3 = some r) : fr S_X14_copies__260_256 m r := by
  unfold g_X14_copies__260_256 at h
  exact fr_trans ((fr_refl _ m)) (fr_mono (fg_X14_copies__260_256_3 _ h) (by decide))
def S_X14_determinant__260 : fr_S := [(256, 256, none), (257, 257, none), (260, 260, none)]
theorem fg_X14_determinant__260_172 {w : rf_w} {rec12 : Int32 → Int32 → Int32 → Int32 → rf_m → Option (rf_m)} {rec45 : Int32 → Int32 → Int32 → Int32 → Int32 → Int32 → rf_m → Option (rf_m)} {a1 : Int32} {a2 : Int32} {a4 : Int32} {a5 : Int32} {a6 : Int32} {a7 : Int32} {m : rf_m} (hr_rec12 : ∀ {x0 : Int32} {x1 : Int32} {x2 : Int32} {x3 : Int32} {m : rf_m} {r : (rf_m)}, rec12 x0 x1 x2 x3 m = some r → fr S_X14_determinant__260 m r) (hr_rec45 : ∀ {x0 : Int32} {x1 : Int32} {x2 : Int32} {x3 : Int32} {x4 : Int32} {x5 : Int32} {m : rf_m} {r : (rf_m)}, rec45 x0 x1 x2 x3 x4 x5 m = some r → fr S_X14_determinant__260 m r) {r : (rf_m)} (h : g_X14_determinant__260_172 w rec12 rec45 a1 a2 a4 a5 a6 a7 m = some r) : fr S_X14_determinant__260 m r := by
  unfold g_X14_determinant__260_172 at h
  exact fr_trans ((fr_refl _ m)) (hr_rec45 h)
theorem fg_X14_determinant__260_152 {w : rf_w} {rec12 : Int32 → Int32 → Int32 → Int32 → rf_m → Option (rf_m)} {rec45 : Int32 → Int32 → Int32 → Int32 → Int32 → Int32 → rf_m → Option (rf_m)} {a1 : Int32} {a2 : Int32} {a4 : Int32} {a5 : Int32} {a6 : Int32} {a7 : Int32} {s1 : Int32} {s3 : Int32} {s4 : Int32} {m : rf_m} (hr_rec12 : ∀ {x0 : Int32} {x1 : Int32} {x2 : Int32} {x3 : Int32} {m : rf_m} {r : (rf_m)}, rec12 x0 x1 x2 x3 m = some r → fr S_X14_determinant__260 m r) (hr_rec45 : ∀ {x0 : Int32} {x1 : Int32} {x2 : Int32} {x3 : Int32} {x4 : Int32} {x5 : Int32} {m : rf_m} {r : (rf_m)}, rec45 x0 x1 x2 x3 x4 x5 m = some r → fr S_X14_determinant__260 m r) {r : (rf_m)} (h : g_X14_determinant__260_152 w rec12 rec45 a1 a2 a4 a5 a6 a7 s1 s3 s4 m = some r) : fr S_X14_determinant__260 m r := by
  unfold g_X14_determinant__260_152 at h
  obtain ⟨m0, q1, h⟩ := rf_bv_some h
  have e1 : fr S_X14_determinant__260 m m0 := fr_trans ((fr_refl _ m)) (fr_mono (fg_X14_times__257_256 q1) (by decide))
  obtain ⟨m1, q2, h⟩ := rf_bv_some h
  have e2 : fr S_X14_determinant__260 m m1 := fr_trans e1 (fr_mono (fg_X14_adds__256_257 q2) (by decide))
  exact fr_trans e2 (fr_mono (fg_X14_determinant__260_172 hr_rec12 hr_rec45 h) (by decide))
theorem fg_X14_determinant__260_116 {w : rf_w} {rec12 : Int32 → Int32 → Int32 → Int32 → rf_m → Option (rf_m)} {rec45 : Int32 → Int32 → Int32 → Int32 → Int32 → Int32 → rf_m → Option (rf_m)} {a1 : Int32} {a2 : Int32} {a4 : Int32} {a5 : Int32} {a6 : Int32} {a7 : Int32} {a8 : Int32} {s0 : Int32} {m : rf_m} (hr_rec12 : ∀ {x0 : Int32} {x1 : Int32} {x2 : Int32} {x3 : Int32} {m : rf_m} {r : (rf_m)}, rec12 x0 x1 x2 x3 m = some r → fr S_X14_determinant__260 m r) (hr_rec45 : ∀ {x0 : Int32} {x1 : Int32} {x2 : Int32} {x3 : Int32} {x4 : Int32} {x5 : Int32} {m : rf_m} {r : (rf_m)}, rec45 x0 x1 x2 x3 x4 x5 m = some r → fr S_X14_determinant__260 m r) {r : (rf_m)} (h : g_X14_determinant__260_116 w rec12 rec45 a1 a2 a4 a5 a6 a7 a8 s0 m = some r) : fr S_X14_determinant__260 m r := by
  unfold g_X14_determinant__260_116 at h
  rcases rf_ite_some h with ⟨_, h⟩ | ⟨_, h⟩
  · exact fr_trans ((fr_refl _ m)) (fr_mono (fg_X14_determinant__260_152 hr_rec12 hr_rec45 h) (by decide))
  · exact fr_trans ((fr_refl _ m)) (fr_mono (fg_X14_determinant__260_152 hr_rec12 hr_rec45 h) (by decide))
theorem fg_X14_determinant__260_93 {w : rf_w} {rec12 : Int32 → Int32 → Int32 → Int32 → rf_m → Option (rf_m)} {rec45 : Int32 → Int32 → Int32 → Int32 → Int32 → Int32 → rf_m → Option (rf_m)} {a1 : Int32} {a2 : Int32} {a4 : Int32} {a5 : Int32} {a6 : Int32} {a7 : Int32} {s0 : Int32} {m : rf_m} (hr_rec12 : ∀ {x0 : Int32} {x1 : Int32} {x2 : Int32} {x3 : Int32} {m : rf_m} {r : (rf_m)}, rec12 x0 x1 x2 x3 m = some r → fr S_X14_determinant__260 m r) (hr_rec45 : ∀ {x0 : Int32} {x1 : Int32} {x2 : Int32} {x3 : Int32} {x4 : Int32} {x5 : Int32} {m : rf_m} {r : (rf_m)}, rec45 x0 x1 x2 x3 x4 x5 m = some r → fr S_X14_determinant__260 m r) {r : (rf_m)} (h : g_X14_determinant__260_93 w rec12 rec45 a1 a2 a4 a5 a6 a7 s0 m = some r) : fr S_X14_determinant__260 m r := by
  unfold g_X14_determinant__260_93 at h
  obtain ⟨y0, m0, q1, h⟩ := rf_b_some h
  have e1 : fr S_X14_determinant__260 m m0 := fr_trans ((fr_refl _ m)) (fr_mono (fg_X14_bits q1) (by decide))
  rcases rf_ite_some h with ⟨_, h⟩ | ⟨_, h⟩
  · exact fr_trans e1 (fr_mono (fg_X14_determinant__260_116 hr_rec12 hr_rec45 h) (by decide))
  · exact fr_trans e1 (fr_mono (fg_X14_determinant__260_116 hr_rec12 hr_rec45 h) (by decide))
theorem fg_X14_determinant__260_45_b {w : rf_w} {rec12 : Int32 → Int32 → Int32 → Int32 → rf_m → Option (rf_m)} {rec45 : Int32 → Int32 → Int32 → Int32 → Int32 → Int32 → rf_m → Option (rf_m)} {a1 : Int32} {a2 : Int32} {a4 : Int32} {a5 : Int32} {a6 : Int32} {a7 : Int32} {m : rf_m} (hr_rec12 : ∀ {x0 : Int32} {x1 : Int32} {x2 : Int32} {x3 : Int32} {m : rf_m} {r : (rf_m)}, rec12 x0 x1 x2 x3 m = some r → fr S_X14_determinant__260 m r) (hr_rec45 : ∀ {x0 : Int32} {x1 : Int32} {x2 : Int32} {x3 : Int32} {x4 : Int32} {x5 : Int32} {m : rf_m} {r : (rf_m)}, rec45 x0 x1 x2 x3 x4 x5 m = some r → fr S_X14_determinant__260 m r) {r : (rf_m)} (h : g_X14_determinant__260_45_b w rec12 rec45 a1 a2 a4 a5 a6 a7 m = some r) : fr S_X14_determinant__260 m r := by
  unfold g_X14_determinant__260_45_b at h
  rcases rf_ite_some h with ⟨_, h⟩ | ⟨_, h⟩
  · exact fr_trans ((fr_refl _ m)) (hr_rec12 h)
  · rcases rf_ite_some h with ⟨_, h⟩ | ⟨_, h⟩
    · exact fr_trans ((fr_refl _ m)) (fr_mono (fg_X14_determinant__260_172 hr_rec12 hr_rec45 h) (by decide))
    · rcases rf_ite_some h with ⟨_, h⟩ | ⟨_, h⟩
      · obtain ⟨_, h⟩ := rf_g_some h
        exact fr_trans ((fr_refl _ m)) (fr_mono (fg_X14_determinant__260_93 hr_rec12 hr_rec45 h) (by decide))
      · obtain ⟨_, h⟩ := rf_g_some h
        exact fr_trans ((fr_refl _ m)) (fr_mono (fg_X14_determinant__260_93 hr_rec12 hr_rec45 h) (by decide))
theorem fg_X14_determinant__260_45 {w : rf_w} {rec12 : Int32 → Int32 → Int32 → Int32 → rf_m → Option (rf_m)} (hr_rec12 : ∀ {x0 : Int32} {x1 : Int32} {x2 : Int32} {x3 : Int32} {m : rf_m} {r : (rf_m)}, rec12 x0 x1 x2 x3 m = some r → fr S_X14_determinant__260 m r) (n : Nat) : ∀ {a1 : Int32} {a2 : Int32} {a4 : Int32} {a5 : Int32} {a6 : Int32} {a7 : Int32} {m : rf_m} {r : (rf_m)}, g_X14_determinant__260_45 w rec12 n a1 a2 a4 a5 a6 a7 m = some r → fr S_X14_determinant__260 m r := by
  induction n with
  | zero => intro a1 a2 a4 a5 a6 a7 m r h; cases h
  | succ n ih =>
    intro a1 a2 a4 a5 a6 a7 m r h
    exact fg_X14_determinant__260_45_b hr_rec12 ih h
theorem fg_X14_determinant__260_12_b {w : rf_w} {rec12 : Int32 → Int32 → Int32 → Int32 → rf_m → Option (rf_m)} {a1 : Int32} {a2 : Int32} {a4 : Int32} {a5 : Int32} {m : rf_m} (hr_rec12 : ∀ {x0 : Int32} {x1 : Int32} {x2 : Int32} {x3 : Int32} {m : rf_m} {r : (rf_m)}, rec12 x0 x1 x2 x3 m = some r → fr S_X14_determinant__260 m r) {r : (rf_m)} (h : g_X14_determinant__260_12_b w rec12 a1 a2 a4 a5 m = some r) : fr S_X14_determinant__260 m r := by
  unfold g_X14_determinant__260_12_b at h
  rcases rf_ite_some h with ⟨_, h⟩ | ⟨_, h⟩
  · obtain ⟨m0, q1, h⟩ := rf_bv_some h
    have e1 : fr S_X14_determinant__260 m m0 := fr_trans ((fr_refl _ m)) (fr_mono (fg_X14_copies__260_256 q1) (by decide))
    obtain rfl := Option.some.inj h
    exact e1
  · obtain ⟨m1, q2, h⟩ := rf_bv_some h
    have e2 : fr S_X14_determinant__260 m m1 := fr_trans ((fr_refl _ m)) (fr_mono (fg_X14_set__256 q2) (by decide))
    obtain ⟨y2, m2, q3, h⟩ := rf_b_some h
    have e3 : fr S_X14_determinant__260 m m2 := fr_trans e2 (fr_mono (fg_X14_bits q3) (by decide))
    exact fr_trans e3 (fr_mono (fg_X14_determinant__260_45 hr_rec12 _ h) (by decide))
theorem fg_X14_determinant__260_12 {w : rf_w} (n : Nat) : ∀ {a1 : Int32} {a2 : Int32} {a4 : Int32} {a5 : Int32} {m : rf_m} {r : (rf_m)}, g_X14_determinant__260_12 w n a1 a2 a4 a5 m = some r → fr S_X14_determinant__260 m r := by
  induction n with
  | zero => intro a1 a2 a4 a5 m r h; cases h
  | succ n ih =>
    intro a1 a2 a4 a5 m r h
    exact fg_X14_determinant__260_12_b ih h
theorem fg_X14_determinant__260 {w : rf_w} {m : rf_m} {a1 : Int32} {a2 : Int32} {a4 : Int32} {r : (rf_m)} (h : g_X14_determinant__260 w m a1 a2 a4 = some r) : fr S_X14_determinant__260 m r := by
  unfold g_X14_determinant__260 at h
  obtain ⟨m0, q1, h⟩ := rf_bv_some h
  have e1 : fr S_X14_determinant__260 m m0 := fr_trans ((fr_refl _ m)) (fr_mono (fg_X14_set__256 q1) (by decide))
  exact fr_trans e1 (fr_mono (fg_X14_determinant__260_12 _ h) (by decide))
def S_X14_isZero__260 : fr_S := []
theorem fg_X14_isZero__260_27 {w : rf_w} {rec4 : Int32 → Int32 → Int32 → rf_m → Option (Int32 × rf_m)} {a1 : Int32} {a3 : Int32} {s0 : Int32} {m : rf_m} (hr_rec4 : ∀ {x0 : Int32} {x1 : Int32} {x2 : Int32} {m : rf_m} {r : (Int32 × rf_m)}, rec4 x0 x1 x2 m = some r → fr S_X14_isZero__260 m r.2) {r : (Int32 × rf_m)} (h : g_X14_isZero__260_27 w rec4 a1 a3 s0 m = some r) : fr S_X14_isZero__260 m r.2 := by
  unfold g_X14_isZero__260_27 at h
  exact fr_trans ((fr_refl _ m)) (hr_rec4 h)
theorem fg_X14_isZero__260_26 {w : rf_w} {rec4 : Int32 → Int32 → Int32 → rf_m → Option (Int32 × rf_m)} {a1 : Int32} {a3 : Int32} {m : rf_m} (hr_rec4 : ∀ {x0 : Int32} {x1 : Int32} {x2 : Int32} {m : rf_m} {r : (Int32 × rf_m)}, rec4 x0 x1 x2 m = some r → fr S_X14_isZero__260 m r.2) {r : (Int32 × rf_m)} (h : g_X14_isZero__260_26 w rec4 a1 a3 m = some r) : fr S_X14_isZero__260 m r.2 := by
  unfold g_X14_isZero__260_26 at h
  exact fr_trans ((fr_refl _ m)) (fr_mono (fg_X14_isZero__260_27 hr_rec4 h) (by decide))
theorem fg_X14_isZero__260_4_b {w : rf_w} {rec4 : Int32 → Int32 → Int32 → rf_m → Option (Int32 × rf_m)} {a1 : Int32} {a2 : Int32} {a3 : Int32} {m : rf_m} (hr_rec4 : ∀ {x0 : Int32} {x1 : Int32} {x2 : Int32} {m : rf_m} {r : (Int32 × rf_m)}, rec4 x0 x1 x2 m = some r → fr S_X14_isZero__260 m r.2) {r : (Int32 × rf_m)} (h : g_X14_isZero__260_4_b w rec4 a1 a2 a3 m = some r) : fr S_X14_isZero__260 m r.2 := by
  unfold g_X14_isZero__260_4_b at h
  rcases rf_ite_some h with ⟨_, h⟩ | ⟨_, h⟩
  · obtain ⟨_, h⟩ := rf_g_some h
    obtain rfl := Option.some.inj h
    exact (fr_refl _ m)
  · rcases rf_ite_some h with ⟨_, h⟩ | ⟨_, h⟩
    · exact fr_trans ((fr_refl _ m)) (fr_mono (fg_X14_isZero__260_26 hr_rec4 h) (by decide))
    · obtain ⟨_, h⟩ := rf_g_some h
      rcases rf_ite_some h with ⟨_, h⟩ | ⟨_, h⟩
      · exact fr_trans ((fr_refl _ m)) (fr_mono (fg_X14_isZero__260_27 hr_rec4 h) (by decide))
      · exact fr_trans ((fr_refl _ m)) (fr_mono (fg_X14_isZero__260_26 hr_rec4 h) (by decide))
theorem fg_X14_isZero__260_4 {w : rf_w} (n : Nat) : ∀ {a1 : Int32} {a2 : Int32} {a3 : Int32} {m : rf_m} {r : (Int32 × rf_m)}, g_X14_isZero__260_4 w n a1 a2 a3 m = some r → fr S_X14_isZero__260 m r.2 := by
  induction n with
  | zero => intro a1 a2 a3 m r h; cases h
  | succ n ih =>
    intro a1 a2 a3 m r h
    exact fg_X14_isZero__260_4_b ih h
theorem fg_X14_isZero__260 {w : rf_w} {m : rf_m} {a1 : Int32} {r : (Int32 × rf_m)} (h : g_X14_isZero__260 w m a1 = some r) : fr S_X14_isZero__260 m r.2 := by
  unfold g_X14_isZero__260 at h
  exact fr_trans ((fr_refl _ m)) (fr_mono (fg_X14_isZero__260_4 _ h) (by decide))
def S_X14_copies__259_260 : fr_S := [(259, 259, none)]
theorem fg_X14_copies__259_260_3_b {w : rf_w} {rec3 : Int32 → Int32 → Int32 → rf_m → Option (rf_m)} {a1 : Int32} {a3 : Int32} {a4 : Int32} {m : rf_m} (hr_rec3 : ∀ {x0 : Int32} {x1 : Int32} {x2 : Int32} {m : rf_m} {r : (rf_m)}, rec3 x0 x1 x2 m = some r → fr S_X14_copies__259_260 m r) {r : (rf_m)} (h : g_X14_copies__259_260_3_b w rec3 a1 a3 a4 m = some r) : fr S_X14_copies__259_260 m r := by
  unfold g_X14_copies__259_260_3_b at h
  rcases rf_ite_some h with ⟨_, h⟩ | ⟨_, h⟩
  · obtain rfl := Option.some.inj h
    exact (fr_refl _ m)
  · obtain ⟨_, h⟩ := rf_g_some h
    obtain ⟨_, h⟩ := rf_g_some h
    exact fr_trans (fr_i ((fr_refl _ m)) (fr_c_in (by decide) _)) (hr_rec3 h)
theorem fg_X14_copies__259_260_3 {w : rf_w} (n : Nat) : ∀ {a1 : Int32} {a3 : Int32} {a4 : Int32} {m : rf_m} {r : (rf_m)}, g_X14_copies__259_260_3 w n a1 a3 a4 m = some r → fr S_X14_copies__259_260 m r := by
  induction n with
  | zero => intro a1 a3 a4 m r h; cases h
  | succ n ih =>
    intro a1 a3 a4 m r h
    exact fg_X14_copies__259_260_3_b ih h
theorem fg_X14_copies__259_260 {w : rf_w} {m : rf_m} {a1 : Int32} {a3 : Int32} {r : (rf_m)} (h : g_X14_copies__259_260 w m a1 a3 = some r) : fr S_X14_copies__259_260 m r := by
  unfold g_X14_copies__259_260 at h
  exact fr_trans ((fr_refl _ m)) (fr_mono (fg_X14_copies__259_260_3 _ h) (by decide))
def S_X14_copies__253_259 : fr_S := [(253, 253, none)]
theorem fg_X14_copies__253_259_3_b {w : rf_w} {rec3 : Int32 → Int32 → Int32 → rf_m → Option (rf_m)} {a1 : Int32} {a3 : Int32} {a4 : Int32} {m : rf_m} (hr_rec3 : ∀ {x0 : Int32} {x1 : Int32} {x2 : Int32} {m : rf_m} {r : (rf_m)}, rec3 x0 x1 x2 m = some r → fr S_X14_copies__253_259 m r) {r : (rf_m)} (h : g_X14_copies__253_259_3_b w rec3 a1 a3 a4 m = some r) : fr S_X14_copies__253_259 m r := by
  unfold g_X14_copies__253_259_3_b at h
  rcases rf_ite_some h with ⟨_, h⟩ | ⟨_, h⟩
  · obtain rfl := Option.some.inj h
    exact (fr_refl _ m)
  · obtain ⟨_, h⟩ := rf_g_some h
    obtain ⟨_, h⟩ := rf_g_some h
    exact fr_trans (fr_i ((fr_refl _ m)) (fr_c_in (by decide) _)) (hr_rec3 h)
theorem fg_X14_copies__253_259_3 {w : rf_w} (n : Nat) : ∀ {a1 : Int32} {a3 : Int32} {a4 : Int32} {m : rf_m} {r : (rf_m)}, g_X14_copies__253_259_3 w n a1 a3 a4 m = some r → fr S_X14_copies__253_259 m r := by
  induction n with
  | zero => intro a1 a3 a4 m r h; cases h
  | succ n ih =>
    intro a1 a3 a4 m r h
    exact fg_X14_copies__253_259_3_b ih h
theorem fg_X14_copies__253_259 {w : rf_w} {m : rf_m} {a1 : Int32} {a3 : Int32} {r : (rf_m)} (h : g_X14_copies__253_259 w m a1 a3 = some r) : fr S_X14_copies__253_259 m r := by
  unfold g_X14_copies__253_259 at h
  exact fr_trans ((fr_refl _ m)) (fr_mono (fg_X14_copies__253_259_3 _ h) (by decide))
def S_X14_set__252 : fr_S := [(252, 252, none)]
theorem fg_X14_set__252_50 {w : rf_w} {rec3 : Int32 → Int64 → Int32 → rf_m → Option (rf_m)} {a1 : Int32} {a2 : Int64} {a4 : Int32} {s1 : Int32} {s2 : Int32} {m : rf_m} (hr_rec3 : ∀ {x0 : Int32} {x1 : Int64} {x2 : Int32} {m : rf_m} {r : (rf_m)}, rec3 x0 x1 x2 m = some r → fr S_X14_set__252 m r) {r : (rf_m)} (h : g_X14_set__252_50 w rec3 a1 a2 a4 s1 s2 m = some r) : fr S_X14_set__252 m r := by
  unfold g_X14_set__252_50 at h
  obtain ⟨_, h⟩ := rf_g_some h
  exact fr_trans (fr_i ((fr_refl _ m)) (fr_c_in (by decide) _)) (hr_rec3 h)
theorem fg_X14_set__252_3_b {w : rf_w} {rec3 : Int32 → Int64 → Int32 → rf_m → Option (rf_m)} {a1 : Int32} {a2 : Int64} {a4 : Int32} {m : rf_m} (hr_rec3 : ∀ {x0 : Int32} {x1 : Int64} {x2 : Int32} {m : rf_m} {r : (rf_m)}, rec3 x0 x1 x2 m = some r → fr S_X14_set__252 m r) {r : (rf_m)} (h : g_X14_set__252_3_b w rec3 a1 a2 a4 m = some r) : fr S_X14_set__252 m r := by
  unfold g_X14_set__252_3_b at h
  rcases rf_ite_some h with ⟨_, h⟩ | ⟨_, h⟩
  · obtain rfl := Option.some.inj h
    exact (fr_refl _ m)
  · rcases rf_ite_some h with ⟨_, h⟩ | ⟨_, h⟩
    · exact fr_trans ((fr_refl _ m)) (fr_mono (fg_X14_set__252_50 hr_rec3 h) (by decide))
    · rcases rf_ite_some h with ⟨_, h⟩ | ⟨_, h⟩
      · exact fr_trans ((fr_refl _ m)) (fr_mono (fg_X14_set__252_50 hr_rec3 h) (by decide))
      · rcases rf_ite_some h with ⟨_, h⟩ | ⟨_, h⟩
        · exact fr_trans ((fr_refl _ m)) (fr_mono (fg_X14_set__252_50 hr_rec3 h) (by decide))
        · exact fr_trans ((fr_refl _ m)) (fr_mono (fg_X14_set__252_50 hr_rec3 h) (by decide))
theorem fg_X14_set__252_3 {w : rf_w} (n : Nat) : ∀ {a1 : Int32} {a2 : Int64} {a4 : Int32} {m : rf_m} {r : (rf_m)}, g_X14_set__252_3 w n a1 a2 a4 m = some r → fr S_X14_set__252 m r := by
  induction n with
  | zero => intro a1 a2 a4 m r h; cases h
  | succ n ih =>
    intro a1 a2 a4 m r h
    exact fg_X14_set__252_3_b ih h
theorem fg_X14_set__252 {w : rf_w} {m : rf_m} {a1 : Int32} {a2 : Int64} {r : (rf_m)} (h : g_X14_set__252 w m a1 a2 = some r) : fr S_X14_set__252 m r := by
  unfold g_X14_set__252 at h
  exact fr_trans ((fr_refl _ m)) (fr_mono (fg_X14_set__252_3 _ h) (by decide))
def S_X14_adjust : fr_S := [(206, 206, some 0), (206, 206, some 1), (206, 206, some 2), (206, 206, some 33), (206, 206, some 34), (206, 206, some 35), (206, 206, some 36), (206, 206, some 37), (206, 206, some 38), (206, 206, some 88), (206, 206, some 89), (226, 226, none), (227, 227, none), (228, 228, none), (235, 235, none), (248, 248, none), (249, 249, none), (250, 250, none), (251, 251, none), (252, 252, none), (253, 253, none), (254, 254, none), (255, 255, none), (256, 256, none), (257, 257, none), (258, 258, none), (259, 259, none), (260, 260, none), (261, 261, none), (262, 262, none), (263, 263, none), (264, 264, none), (265, 265, none)]
theorem fg_X14_adjust_718_b {w : rf_w} {rec718 : Int32 → Int32 → rf_m → Option (Int32 × rf_m)} {a5 : Int32} {a6 : Int32} {m : rf_m} (hr_rec718 : ∀ {x0 : Int32} {x1 : Int32} {m : rf_m} {r : (Int32 × rf_m)}, rec718 x0 x1 m = some r → fr S_X14_adjust m r.2) {r : (Int32 × rf_m)} (h : g_X14_adjust_718_b w rec718 a5 a6 m = some r) : fr S_X14_adjust m r.2 := by
  unfold g_X14_adjust_718_b at h
  rcases rf_ite_some h with ⟨_, h⟩ | ⟨_, h⟩
  · obtain ⟨y0, m0, q1, h⟩ := rf_b_some h
    have e1 : fr S_X14_adjust m m0 := fr_trans (fr_i ((fr_refl _ m)) (by decide)) (fr_mono (fg_X14_done q1) (by decide))
    obtain rfl := Option.some.inj h
    exact e1
  · obtain ⟨_, h⟩ := rf_g_some h
    exact fr_trans (fr_i ((fr_refl _ m)) (fr_c_in (by decide) _)) (hr_rec718 h)
theorem fg_X14_adjust_718 {w : rf_w} (n : Nat) : ∀ {a5 : Int32} {a6 : Int32} {m : rf_m} {r : (Int32 × rf_m)}, g_X14_adjust_718 w n a5 a6 m = some r → fr S_X14_adjust m r.2 := by
  induction n with
  | zero => intro a5 a6 m r h; cases h
  | succ n ih =>
    intro a5 a6 m r h
    exact fg_X14_adjust_718_b ih h
theorem fg_X14_adjust_703 {w : rf_w} {rec557 : Int32 → Int32 → Int32 → rf_m → Option (Int32 × rf_m)} {a3 : Int32} {a6 : Int32} {s0 : Int32} {s1 : Int32} {m : rf_m} (hr_rec557 : ∀ {x0 : Int32} {x1 : Int32} {x2 : Int32} {m : rf_m} {r : (Int32 × rf_m)}, rec557 x0 x1 x2 m = some r → fr S_X14_adjust m r.2) {r : (Int32 × rf_m)} (h : g_X14_adjust_703 w rec557 a3 a6 s0 s1 m = some r) : fr S_X14_adjust m r.2 := by
  unfold g_X14_adjust_703 at h
  exact fr_trans ((fr_refl _ m)) (hr_rec557 h)
theorem fg_X14_adjust_639 {w : rf_w} {rec557 : Int32 → Int32 → Int32 → rf_m → Option (Int32 × rf_m)} {rec590 : Int32 → Int32 → Int32 → Int32 → rf_m → Option (Int32 × rf_m)} {a3 : Int32} {a5 : Int32} {a6 : Int32} {a7 : Int32} {m : rf_m} (hr_rec557 : ∀ {x0 : Int32} {x1 : Int32} {x2 : Int32} {m : rf_m} {r : (Int32 × rf_m)}, rec557 x0 x1 x2 m = some r → fr S_X14_adjust m r.2) (hr_rec590 : ∀ {x0 : Int32} {x1 : Int32} {x2 : Int32} {x3 : Int32} {m : rf_m} {r : (Int32 × rf_m)}, rec590 x0 x1 x2 x3 m = some r → fr S_X14_adjust m r.2) {r : (Int32 × rf_m)} (h : g_X14_adjust_639 w rec557 rec590 a3 a5 a6 a7 m = some r) : fr S_X14_adjust m r.2 := by
  unfold g_X14_adjust_639 at h
  exact fr_trans ((fr_refl _ m)) (hr_rec590 h)
theorem fg_X14_adjust_590_b {w : rf_w} {rec557 : Int32 → Int32 → Int32 → rf_m → Option (Int32 × rf_m)} {rec590 : Int32 → Int32 → Int32 → Int32 → rf_m → Option (Int32 × rf_m)} {a3 : Int32} {a5 : Int32} {a6 : Int32} {a7 : Int32} {m : rf_m} (hr_rec557 : ∀ {x0 : Int32} {x1 : Int32} {x2 : Int32} {m : rf_m} {r : (Int32 × rf_m)}, rec557 x0 x1 x2 m = some r → fr S_X14_adjust m r.2) (hr_rec590 : ∀ {x0 : Int32} {x1 : Int32} {x2 : Int32} {x3 : Int32} {m : rf_m} {r : (Int32 × rf_m)}, rec590 x0 x1 x2 x3 m = some r → fr S_X14_adjust m r.2) {r : (Int32 × rf_m)} (h : g_X14_adjust_590_b w rec557 rec590 a3 a5 a6 a7 m = some r) : fr S_X14_adjust m r.2 := by
  unfold g_X14_adjust_590_b at h
  rcases rf_ite_some h with ⟨_, h⟩ | ⟨_, h⟩
  · obtain ⟨_, h⟩ := rf_g_some h
    obtain ⟨m1, q1, h⟩ := rf_bv_some h
    have e1 : fr S_X14_adjust m m1 := fr_trans ((fr_refl _ m)) (fr_mono (fg_X14_times__257_264 q1) (by decide))
    obtain ⟨m2, q2, h⟩ := rf_bv_some h
    have e2 : fr S_X14_adjust m m2 := fr_trans e1 (fr_mono (fg_X14_copies__264_257 q2) (by decide))
    obtain ⟨_, h⟩ := rf_g_some h
    rcases rf_ite_some h with ⟨_, h⟩ | ⟨_, h⟩
    · exact fr_trans e2 (fr_mono (fg_X14_adjust_703 hr_rec557 h) (by decide))
    · exact fr_trans e2 (fr_mono (fg_X14_adjust_703 hr_rec557 h) (by decide))
  · obtain ⟨y4, m4, q3, h⟩ := rf_b_some h
    have e3 : fr S_X14_adjust m m4 := fr_trans ((fr_refl _ m)) (fr_mono (fg_X14_isPartOf q3) (by decide))
    rcases rf_ite_some h with ⟨_, h⟩ | ⟨_, h⟩
    · exact fr_trans e3 (fr_mono (fg_X14_adjust_639 hr_rec557 hr_rec590 h) (by decide))
    · obtain ⟨_, h⟩ := rf_g_some h
      obtain ⟨m6, q4, h⟩ := rf_bv_some h
      have e4 : fr S_X14_adjust m m6 := fr_trans (fr_i e3 (fr_c_in (by decide) _)) (fr_mono (fg_X14_adds__264_258 q4) (by decide))
      exact fr_trans e4 (fr_mono (fg_X14_adjust_639 hr_rec557 hr_rec590 h) (by decide))
theorem fg_X14_adjust_590 {w : rf_w} {rec557 : Int32 → Int32 → Int32 → rf_m → Option (Int32 × rf_m)} (hr_rec557 : ∀ {x0 : Int32} {x1 : Int32} {x2 : Int32} {m : rf_m} {r : (Int32 × rf_m)}, rec557 x0 x1 x2 m = some r → fr S_X14_adjust m r.2) (n : Nat) : ∀ {a3 : Int32} {a5 : Int32} {a6 : Int32} {a7 : Int32} {m : rf_m} {r : (Int32 × rf_m)}, g_X14_adjust_590 w rec557 n a3 a5 a6 a7 m = some r → fr S_X14_adjust m r.2 := by
  induction n with
  | zero => intro a3 a5 a6 a7 m r h; cases h
  | succ n ih =>
    intro a3 a5 a6 a7 m r h
    exact fg_X14_adjust_590_b hr_rec557 ih h
theorem fg_X14_adjust_557_b {w : rf_w} {rec557 : Int32 → Int32 → Int32 → rf_m → Option (Int32 × rf_m)} {a3 : Int32} {a5 : Int32} {a6 : Int32} {m : rf_m} (hr_rec557 : ∀ {x0 : Int32} {x1 : Int32} {x2 : Int32} {m : rf_m} {r : (Int32 × rf_m)}, rec557 x0 x1 x2 m = some r → fr S_X14_adjust m r.2) {r : (Int32 × rf_m)} (h : g_X14_adjust_557_b w rec557 a3 a5 a6 m = some r) : fr S_X14_adjust m r.2 := by
  unfold g_X14_adjust_557_b at h
  rcases rf_ite_some h with ⟨_, h⟩ | ⟨_, h⟩
  · exact fr_trans ((fr_refl _ m)) (fr_mono (fg_X14_adjust_718 _ h) (by decide))
  · obtain ⟨m0, q1, h⟩ := rf_bv_some h
    have e1 : fr S_X14_adjust m m0 := fr_trans ((fr_refl _ m)) (fr_mono (fg_X14_set__264 q1) (by decide))
    obtain ⟨_, h⟩ := rf_g_some h
    exact fr_trans (fr_i e1 (fr_c_in (by decide) _)) (fr_mono (fg_X14_adjust_590 hr_rec557 _ h) (by decide))
theorem fg_X14_adjust_557 {w : rf_w} (n : Nat) : ∀ {a3 : Int32} {a5 : Int32} {a6 : Int32} {m : rf_m} {r : (Int32 × rf_m)}, g_X14_adjust_557 w n a3 a5 a6 m = some r → fr S_X14_adjust m r.2 := by
  induction n with
  | zero => intro a3 a5 a6 m r h; cases h
  | succ n ih =>
    intro a3 a5 a6 m r h
    exact fg_X14_adjust_557_b ih h
theorem fg_X14_adjust_548 {w : rf_w} {a3 : Int32} {s1 : Int64} {m : rf_m} {r : (Int32 × rf_m)} (h : g_X14_adjust_548 w a3 s1 m = some r) : fr S_X14_adjust m r.2 := by
  unfold g_X14_adjust_548 at h
  exact fr_trans (fr_l ((fr_refl _ m)) (by decide)) (fr_mono (fg_X14_adjust_557 _ h) (by decide))
theorem fg_X14_adjust_432_b {w : rf_w} {rec432 : Int32 → Int32 → rf_m → Option (Int32 × rf_m)} {a3 : Int32} {a5 : Int32} {m : rf_m} (hr_rec432 : ∀ {x0 : Int32} {x1 : Int32} {m : rf_m} {r : (Int32 × rf_m)}, rec432 x0 x1 m = some r → fr S_X14_adjust m r.2) {r : (Int32 × rf_m)} (h : g_X14_adjust_432_b w rec432 a3 a5 m = some r) : fr S_X14_adjust m r.2 := by
  unfold g_X14_adjust_432_b at h
  rcases rf_ite_some h with ⟨_, h⟩ | ⟨_, h⟩
  · obtain ⟨m0, q1, h⟩ := rf_bv_some h
    have e1 : fr S_X14_adjust m m0 := fr_trans ((fr_refl _ m)) (fr_mono (fg_X14_times__257_252 q1) (by decide))
    obtain ⟨m1, q2, h⟩ := rf_bv_some h
    have e2 : fr S_X14_adjust m m1 := fr_trans e1 (fr_mono (fg_X14_copies__252_257 q2) (by decide))
    obtain ⟨m2, q3, h⟩ := rf_bv_some h
    have e3 : fr S_X14_adjust m m2 := fr_trans e2 (fr_mono (fg_X14_floors q3) (by decide))
    obtain ⟨y3, m3, q4, h⟩ := rf_b_some h
    have e4 : fr S_X14_adjust m m3 := fr_trans e3 (fr_mono (fg_X14_isLong q4) (by decide))
    rcases rf_ite_some h with ⟨_, h⟩ | ⟨_, h⟩
    · exact fr_trans e4 (fr_mono (fg_X14_adjust_548 h) (by decide))
    · obtain ⟨y4, m4, q5, h⟩ := rf_b_some h
      have e5 : fr S_X14_adjust m m4 := fr_trans e4 (fr_mono (fg_X14_quotientLong q5) (by decide))
      exact fr_trans e5 (fr_mono (fg_X14_adjust_548 h) (by decide))
  · obtain ⟨m5, q6, h⟩ := rf_bv_some h
    have e6 : fr S_X14_adjust m m5 := fr_trans ((fr_refl _ m)) (fr_mono (fg_X14_determinant__258 q6) (by decide))
    obtain ⟨_, h⟩ := rf_g_some h
    obtain ⟨m7, q7, h⟩ := rf_bv_some h
    have e7 : fr S_X14_adjust m m7 := fr_trans e6 (fr_mono (fg_X14_times__257_258 q7) (by decide))
    obtain ⟨m8, q8, h⟩ := rf_bv_some h
    have e8 : fr S_X14_adjust m m8 := fr_trans e7 (fr_mono (fg_X14_adds__252_257 q8) (by decide))
    exact fr_trans e8 (hr_rec432 h)
theorem fg_X14_adjust_432 {w : rf_w} (n : Nat) : ∀ {a3 : Int32} {a5 : Int32} {m : rf_m} {r : (Int32 × rf_m)}, g_X14_adjust_432 w n a3 a5 m = some r → fr S_X14_adjust m r.2 := by
  induction n with
  | zero => intro a3 a5 m r h; cases h
  | succ n ih =>
    intro a3 a5 m r h
    exact fg_X14_adjust_432_b ih h
theorem fg_X14_adjust_329 {w : rf_w} {rec264 : Int32 → Int32 → rf_m → Option (Int32 × rf_m)} {rec273 : Int32 → Int32 → Int32 → rf_m → Option (Int32 × rf_m)} {rec285 : Int32 → Int32 → Int32 → Int32 → Int32 → rf_m → Option (Int32 × rf_m)} {a3 : Int32} {a5 : Int32} {a6 : Int32} {a8 : Int32} {s0 : Int32} {s1 : Int32} {m : rf_m} (hr_rec264 : ∀ {x0 : Int32} {x1 : Int32} {m : rf_m} {r : (Int32 × rf_m)}, rec264 x0 x1 m = some r → fr S_X14_adjust m r.2) (hr_rec273 : ∀ {x0 : Int32} {x1 : Int32} {x2 : Int32} {m : rf_m} {r : (Int32 × rf_m)}, rec273 x0 x1 x2 m = some r → fr S_X14_adjust m r.2) (hr_rec285 : ∀ {x0 : Int32} {x1 : Int32} {x2 : Int32} {x3 : Int32} {x4 : Int32} {m : rf_m} {r : (Int32 × rf_m)}, rec285 x0 x1 x2 x3 x4 m = some r → fr S_X14_adjust m r.2) {r : (Int32 × rf_m)} (h : g_X14_adjust_329 w rec264 rec273 rec285 a3 a5 a6 a8 s0 s1 m = some r) : fr S_X14_adjust m r.2 := by
  unfold g_X14_adjust_329 at h
  exact fr_trans ((fr_refl _ m)) (hr_rec285 h)
theorem fg_X14_adjust_328 {w : rf_w} {rec264 : Int32 → Int32 → rf_m → Option (Int32 × rf_m)} {rec273 : Int32 → Int32 → Int32 → rf_m → Option (Int32 × rf_m)} {rec285 : Int32 → Int32 → Int32 → Int32 → Int32 → rf_m → Option (Int32 × rf_m)} {a3 : Int32} {a5 : Int32} {a6 : Int32} {a8 : Int32} {s0 : Int32} {m : rf_m} (hr_rec264 : ∀ {x0 : Int32} {x1 : Int32} {m : rf_m} {r : (Int32 × rf_m)}, rec264 x0 x1 m = some r → fr S_X14_adjust m r.2) (hr_rec273 : ∀ {x0 : Int32} {x1 : Int32} {x2 : Int32} {m : rf_m} {r : (Int32 × rf_m)}, rec273 x0 x1 x2 m = some r → fr S_X14_adjust m r.2) (hr_rec285 : ∀ {x0 : Int32} {x1 : Int32} {x2 : Int32} {x3 : Int32} {x4 : Int32} {m : rf_m} {r : (Int32 × rf_m)}, rec285 x0 x1 x2 x3 x4 m = some r → fr S_X14_adjust m r.2) {r : (Int32 × rf_m)} (h : g_X14_adjust_328 w rec264 rec273 rec285 a3 a5 a6 a8 s0 m = some r) : fr S_X14_adjust m r.2 := by
  unfold g_X14_adjust_328 at h
  exact fr_trans ((fr_refl _ m)) (fr_mono (fg_X14_adjust_329 hr_rec264 hr_rec273 hr_rec285 h) (by decide))
theorem fg_X14_adjust_285_b {w : rf_w} {rec264 : Int32 → Int32 → rf_m → Option (Int32 × rf_m)} {rec273 : Int32 → Int32 → Int32 → rf_m → Option (Int32 × rf_m)} {rec285 : Int32 → Int32 → Int32 → Int32 → Int32 → rf_m → Option (Int32 × rf_m)} {a3 : Int32} {a5 : Int32} {a6 : Int32} {a7 : Int32} {a8 : Int32} {m : rf_m} (hr_rec264 : ∀ {x0 : Int32} {x1 : Int32} {m : rf_m} {r : (Int32 × rf_m)}, rec264 x0 x1 m = some r → fr S_X14_adjust m r.2) (hr_rec273 : ∀ {x0 : Int32} {x1 : Int32} {x2 : Int32} {m : rf_m} {r : (Int32 × rf_m)}, rec273 x0 x1 x2 m = some r → fr S_X14_adjust m r.2) (hr_rec285 : ∀ {x0 : Int32} {x1 : Int32} {x2 : Int32} {x3 : Int32} {x4 : Int32} {m : rf_m} {r : (Int32 × rf_m)}, rec285 x0 x1 x2 x3 x4 m = some r → fr S_X14_adjust m r.2) {r : (Int32 × rf_m)} (h : g_X14_adjust_285_b w rec264 rec273 rec285 a3 a5 a6 a7 a8 m = some r) : fr S_X14_adjust m r.2 := by
  unfold g_X14_adjust_285_b at h
  rcases rf_ite_some h with ⟨_, h⟩ | ⟨_, h⟩
  · obtain ⟨_, h⟩ := rf_g_some h
    exact fr_trans (fr_i ((fr_refl _ m)) (fr_c_in (by decide) _)) (hr_rec273 h)
  · obtain ⟨y1, m1, q1, h⟩ := rf_b_some h
    have e1 : fr S_X14_adjust m m1 := fr_trans ((fr_refl _ m)) (fr_mono (fg_X14_isPartOf q1) (by decide))
    rcases rf_ite_some h with ⟨_, h⟩ | ⟨_, h⟩
    · exact fr_trans e1 (fr_mono (fg_X14_adjust_328 hr_rec264 hr_rec273 hr_rec285 h) (by decide))
    · obtain ⟨y2, m2, q2, h⟩ := rf_b_some h
      have e2 : fr S_X14_adjust m m2 := fr_trans e1 (fr_mono (fg_X14_isPartOf q2) (by decide))
      rcases rf_ite_some h with ⟨_, h⟩ | ⟨_, h⟩
      · exact fr_trans e2 (fr_mono (fg_X14_adjust_328 hr_rec264 hr_rec273 hr_rec285 h) (by decide))
      · obtain ⟨_, h⟩ := rf_g_some h
        exact fr_trans e2 (fr_mono (fg_X14_adjust_329 hr_rec264 hr_rec273 hr_rec285 h) (by decide))
theorem fg_X14_adjust_285 {w : rf_w} {rec264 : Int32 → Int32 → rf_m → Option (Int32 × rf_m)} {rec273 : Int32 → Int32 → Int32 → rf_m → Option (Int32 × rf_m)} (hr_rec264 : ∀ {x0 : Int32} {x1 : Int32} {m : rf_m} {r : (Int32 × rf_m)}, rec264 x0 x1 m = some r → fr S_X14_adjust m r.2) (hr_rec273 : ∀ {x0 : Int32} {x1 : Int32} {x2 : Int32} {m : rf_m} {r : (Int32 × rf_m)}, rec273 x0 x1 x2 m = some r → fr S_X14_adjust m r.2) (n : Nat) : ∀ {a3 : Int32} {a5 : Int32} {a6 : Int32} {a7 : Int32} {a8 : Int32} {m : rf_m} {r : (Int32 × rf_m)}, g_X14_adjust_285 w rec264 rec273 n a3 a5 a6 a7 a8 m = some r → fr S_X14_adjust m r.2 := by
  induction n with
  | zero => intro a3 a5 a6 a7 a8 m r h; cases h
  | succ n ih =>
    intro a3 a5 a6 a7 a8 m r h
    exact fg_X14_adjust_285_b hr_rec264 hr_rec273 ih h
theorem fg_X14_adjust_273_b {w : rf_w} {rec264 : Int32 → Int32 → rf_m → Option (Int32 × rf_m)} {rec273 : Int32 → Int32 → Int32 → rf_m → Option (Int32 × rf_m)} {a3 : Int32} {a5 : Int32} {a6 : Int32} {m : rf_m} (hr_rec264 : ∀ {x0 : Int32} {x1 : Int32} {m : rf_m} {r : (Int32 × rf_m)}, rec264 x0 x1 m = some r → fr S_X14_adjust m r.2) (hr_rec273 : ∀ {x0 : Int32} {x1 : Int32} {x2 : Int32} {m : rf_m} {r : (Int32 × rf_m)}, rec273 x0 x1 x2 m = some r → fr S_X14_adjust m r.2) {r : (Int32 × rf_m)} (h : g_X14_adjust_273_b w rec264 rec273 a3 a5 a6 m = some r) : fr S_X14_adjust m r.2 := by
  unfold g_X14_adjust_273_b at h
  rcases rf_ite_some h with ⟨_, h⟩ | ⟨_, h⟩
  · exact fr_trans ((fr_refl _ m)) (hr_rec264 h)
  · exact fr_trans ((fr_refl _ m)) (fr_mono (fg_X14_adjust_285 hr_rec264 hr_rec273 _ h) (by decide))
theorem fg_X14_adjust_273 {w : rf_w} {rec264 : Int32 → Int32 → rf_m → Option (Int32 × rf_m)} (hr_rec264 : ∀ {x0 : Int32} {x1 : Int32} {m : rf_m} {r : (Int32 × rf_m)}, rec264 x0 x1 m = some r → fr S_X14_adjust m r.2) (n : Nat) : ∀ {a3 : Int32} {a5 : Int32} {a6 : Int32} {m : rf_m} {r : (Int32 × rf_m)}, g_X14_adjust_273 w rec264 n a3 a5 a6 m = some r → fr S_X14_adjust m r.2 := by
  induction n with
  | zero => intro a3 a5 a6 m r h; cases h
  | succ n ih =>
    intro a3 a5 a6 m r h
    exact fg_X14_adjust_273_b hr_rec264 ih h
theorem fg_X14_adjust_264_b {w : rf_w} {rec264 : Int32 → Int32 → rf_m → Option (Int32 × rf_m)} {a3 : Int32} {a5 : Int32} {m : rf_m} (hr_rec264 : ∀ {x0 : Int32} {x1 : Int32} {m : rf_m} {r : (Int32 × rf_m)}, rec264 x0 x1 m = some r → fr S_X14_adjust m r.2) {r : (Int32 × rf_m)} (h : g_X14_adjust_264_b w rec264 a3 a5 m = some r) : fr S_X14_adjust m r.2 := by
  unfold g_X14_adjust_264_b at h
  rcases rf_ite_some h with ⟨_, h⟩ | ⟨_, h⟩
  · obtain ⟨m0, q1, h⟩ := rf_bv_some h
    have e1 : fr S_X14_adjust m m0 := fr_trans ((fr_refl _ m)) (fr_mono (fg_X14_determinant__260 q1) (by decide))
    obtain ⟨y1, m1, q2, h⟩ := rf_b_some h
    have e2 : fr S_X14_adjust m m1 := fr_trans e1 (fr_mono (fg_X14_isZero__260 q2) (by decide))
    rcases rf_ite_some h with ⟨_, h⟩ | ⟨_, h⟩
    · obtain ⟨m2, q3, h⟩ := rf_bv_some h
      have e3 : fr S_X14_adjust m m2 := fr_trans e2 (fr_mono (fg_X14_copies__259_260 q3) (by decide))
      obtain ⟨m3, q4, h⟩ := rf_bv_some h
      have e4 : fr S_X14_adjust m m3 := fr_trans e3 (fr_mono (fg_X14_copies__253_259 q4) (by decide))
      obtain ⟨m4, q5, h⟩ := rf_bv_some h
      have e5 : fr S_X14_adjust m m4 := fr_trans e4 (fr_mono (fg_X14_set__252 q5) (by decide))
      exact fr_trans e5 (fr_mono (fg_X14_adjust_432 _ h) (by decide))
    · obtain ⟨y5, m5, q6, h⟩ := rf_b_some h
      have e6 : fr S_X14_adjust m m5 := fr_trans e2 (fr_mono (fg_X14_refused q6) (by decide))
      obtain rfl := Option.some.inj h
      exact e6
  · exact fr_trans ((fr_refl _ m)) (fr_mono (fg_X14_adjust_273 hr_rec264 _ h) (by decide))
theorem fg_X14_adjust_264 {w : rf_w} (n : Nat) : ∀ {a3 : Int32} {a5 : Int32} {m : rf_m} {r : (Int32 × rf_m)}, g_X14_adjust_264 w n a3 a5 m = some r → fr S_X14_adjust m r.2 := by
  induction n with
  | zero => intro a3 a5 m r h; cases h
  | succ n ih =>
    intro a3 a5 m r h
    exact fg_X14_adjust_264_b ih h
theorem fg_X14_adjust_229_b {w : rf_w} {rec229 : Int32 → Int32 → rf_m → Option (Int32 × rf_m)} {a3 : Int32} {a5 : Int32} {m : rf_m} (hr_rec229 : ∀ {x0 : Int32} {x1 : Int32} {m : rf_m} {r : (Int32 × rf_m)}, rec229 x0 x1 m = some r → fr S_X14_adjust m r.2) {r : (Int32 × rf_m)} (h : g_X14_adjust_229_b w rec229 a3 a5 m = some r) : fr S_X14_adjust m r.2 := by
  unfold g_X14_adjust_229_b at h
  rcases rf_ite_some h with ⟨_, h⟩ | ⟨_, h⟩
  · exact fr_trans ((fr_refl _ m)) (fr_mono (fg_X14_adjust_264 _ h) (by decide))
  · obtain ⟨y0, m0, q1, h⟩ := rf_b_some h
    have e1 : fr S_X14_adjust m m0 := fr_trans ((fr_refl _ m)) (fr_mono (fg_X14_weightOf q1) (by decide))
    obtain ⟨_, h⟩ := rf_g_some h
    obtain ⟨_, h⟩ := rf_g_some h
    exact fr_trans (fr_i e1 (fr_c_in (by decide) _)) (hr_rec229 h)
theorem fg_X14_adjust_229 {w : rf_w} (n : Nat) : ∀ {a3 : Int32} {a5 : Int32} {m : rf_m} {r : (Int32 × rf_m)}, g_X14_adjust_229 w n a3 a5 m = some r → fr S_X14_adjust m r.2 := by
  induction n with
  | zero => intro a3 a5 m r h; cases h
  | succ n ih =>
    intro a3 a5 m r h
    exact fg_X14_adjust_229_b ih h
theorem fg_X14_adjust_209 {w : rf_w} {rec80 : Int32 → Int32 → Int32 → Int32 → Int32 → rf_m → Option (Int32 × rf_m)} {a1 : Int32} {a2 : Int32} {a3 : Int32} {a4 : Int32} {a5 : Int32} {m : rf_m} (hr_rec80 : ∀ {x0 : Int32} {x1 : Int32} {x2 : Int32} {x3 : Int32} {x4 : Int32} {m : rf_m} {r : (Int32 × rf_m)}, rec80 x0 x1 x2 x3 x4 m = some r → fr S_X14_adjust m r.2) {r : (Int32 × rf_m)} (h : g_X14_adjust_209 w rec80 a1 a2 a3 a4 a5 m = some r) : fr S_X14_adjust m r.2 := by
  unfold g_X14_adjust_209 at h
  exact fr_trans ((fr_refl _ m)) (hr_rec80 h)
theorem fg_X14_adjust_191 {w : rf_w} {rec80 : Int32 → Int32 → Int32 → Int32 → Int32 → rf_m → Option (Int32 × rf_m)} {a1 : Int32} {a2 : Int32} {a3 : Int32} {a5 : Int32} {s0 : Int32} {m : rf_m} (hr_rec80 : ∀ {x0 : Int32} {x1 : Int32} {x2 : Int32} {x3 : Int32} {x4 : Int32} {m : rf_m} {r : (Int32 × rf_m)}, rec80 x0 x1 x2 x3 x4 m = some r → fr S_X14_adjust m r.2) {r : (Int32 × rf_m)} (h : g_X14_adjust_191 w rec80 a1 a2 a3 a5 s0 m = some r) : fr S_X14_adjust m r.2 := by
  unfold g_X14_adjust_191 at h
  obtain ⟨_, h⟩ := rf_g_some h
  obtain ⟨_, h⟩ := rf_g_some h
  exact fr_trans (fr_i ((fr_refl _ m)) (fr_c_in (by decide) _)) (fr_mono (fg_X14_adjust_209 hr_rec80 h) (by decide))
theorem fg_X14_adjust_190 {w : rf_w} {rec80 : Int32 → Int32 → Int32 → Int32 → Int32 → rf_m → Option (Int32 × rf_m)} {a1 : Int32} {a2 : Int32} {a3 : Int32} {a5 : Int32} {m : rf_m} (hr_rec80 : ∀ {x0 : Int32} {x1 : Int32} {x2 : Int32} {x3 : Int32} {x4 : Int32} {m : rf_m} {r : (Int32 × rf_m)}, rec80 x0 x1 x2 x3 x4 m = some r → fr S_X14_adjust m r.2) {r : (Int32 × rf_m)} (h : g_X14_adjust_190 w rec80 a1 a2 a3 a5 m = some r) : fr S_X14_adjust m r.2 := by
  unfold g_X14_adjust_190 at h
  exact fr_trans ((fr_refl _ m)) (fr_mono (fg_X14_adjust_191 hr_rec80 h) (by decide))
theorem fg_X14_adjust_128 {w : rf_w} {rec80 : Int32 → Int32 → Int32 → Int32 → Int32 → rf_m → Option (Int32 × rf_m)} {a1 : Int32} {a2 : Int32} {a3 : Int32} {a4 : Int32} {a5 : Int32} {a6 : Int32} {a7 : Int32} {s0 : Int32} {m : rf_m} (hr_rec80 : ∀ {x0 : Int32} {x1 : Int32} {x2 : Int32} {x3 : Int32} {x4 : Int32} {m : rf_m} {r : (Int32 × rf_m)}, rec80 x0 x1 x2 x3 x4 m = some r → fr S_X14_adjust m r.2) {r : (Int32 × rf_m)} (h : g_X14_adjust_128 w rec80 a1 a2 a3 a4 a5 a6 a7 s0 m = some r) : fr S_X14_adjust m r.2 := by
  unfold g_X14_adjust_128 at h
  rcases rf_ite_some h with ⟨_, h⟩ | ⟨_, h⟩
  · exact fr_trans ((fr_refl _ m)) (fr_mono (fg_X14_adjust_209 hr_rec80 h) (by decide))
  · obtain ⟨_, h⟩ := rf_g_some h
    obtain ⟨_, h⟩ := rf_g_some h
    obtain ⟨y2, m2, q1, h⟩ := rf_b_some h
    have e1 : fr S_X14_adjust m m2 := fr_trans (fr_i (fr_i ((fr_refl _ m)) (fr_c_in (by decide) _)) (fr_c_in (by decide) _)) (fr_mono (fg_X14_missOf q1) (by decide))
    obtain ⟨_, h⟩ := rf_g_some h
    rcases rf_ite_some h with ⟨_, h⟩ | ⟨_, h⟩
    · exact fr_trans (fr_i e1 (fr_c_in (by decide) _)) (fr_mono (fg_X14_adjust_190 hr_rec80 h) (by decide))
    · obtain ⟨_, h⟩ := rf_g_some h
      rcases rf_ite_some h with ⟨_, h⟩ | ⟨_, h⟩
      · exact fr_trans (fr_i e1 (fr_c_in (by decide) _)) (fr_mono (fg_X14_adjust_190 hr_rec80 h) (by decide))
      · exact fr_trans (fr_i e1 (fr_c_in (by decide) _)) (fr_mono (fg_X14_adjust_191 hr_rec80 h) (by decide))
theorem fg_X14_adjust_116 {w : rf_w} {rec80 : Int32 → Int32 → Int32 → Int32 → Int32 → rf_m → Option (Int32 × rf_m)} {a1 : Int32} {a2 : Int32} {a3 : Int32} {a4 : Int32} {a5 : Int32} {a6 : Int32} {s0 : Int32} {m : rf_m} (hr_rec80 : ∀ {x0 : Int32} {x1 : Int32} {x2 : Int32} {x3 : Int32} {x4 : Int32} {m : rf_m} {r : (Int32 × rf_m)}, rec80 x0 x1 x2 x3 x4 m = some r → fr S_X14_adjust m r.2) {r : (Int32 × rf_m)} (h : g_X14_adjust_116 w rec80 a1 a2 a3 a4 a5 a6 s0 m = some r) : fr S_X14_adjust m r.2 := by
  unfold g_X14_adjust_116 at h
  rcases rf_ite_some h with ⟨_, h⟩ | ⟨_, h⟩
  · exact fr_trans ((fr_refl _ m)) (fr_mono (fg_X14_adjust_128 hr_rec80 h) (by decide))
  · exact fr_trans ((fr_refl _ m)) (fr_mono (fg_X14_adjust_128 hr_rec80 h) (by decide))
theorem fg_X14_adjust_99 {w : rf_w} {rec80 : Int32 → Int32 → Int32 → Int32 → Int32 → rf_m → Option (Int32 × rf_m)} {a1 : Int32} {a2 : Int32} {a3 : Int32} {a4 : Int32} {a5 : Int32} {s0 : Int32} {m : rf_m} (hr_rec80 : ∀ {x0 : Int32} {x1 : Int32} {x2 : Int32} {x3 : Int32} {x4 : Int32} {m : rf_m} {r : (Int32 × rf_m)}, rec80 x0 x1 x2 x3 x4 m = some r → fr S_X14_adjust m r.2) {r : (Int32 × rf_m)} (h : g_X14_adjust_99 w rec80 a1 a2 a3 a4 a5 s0 m = some r) : fr S_X14_adjust m r.2 := by
  unfold g_X14_adjust_99 at h
  rcases rf_ite_some h with ⟨_, h⟩ | ⟨_, h⟩
  · exact fr_trans ((fr_refl _ m)) (fr_mono (fg_X14_adjust_116 hr_rec80 h) (by decide))
  · exact fr_trans ((fr_refl _ m)) (fr_mono (fg_X14_adjust_116 hr_rec80 h) (by decide))
theorem fg_X14_adjust_80_b {w : rf_w} {rec80 : Int32 → Int32 → Int32 → Int32 → Int32 → rf_m → Option (Int32 × rf_m)} {a1 : Int32} {a2 : Int32} {a3 : Int32} {a4 : Int32} {a5 : Int32} {m : rf_m} (hr_rec80 : ∀ {x0 : Int32} {x1 : Int32} {x2 : Int32} {x3 : Int32} {x4 : Int32} {m : rf_m} {r : (Int32 × rf_m)}, rec80 x0 x1 x2 x3 x4 m = some r → fr S_X14_adjust m r.2) {r : (Int32 × rf_m)} (h : g_X14_adjust_80_b w rec80 a1 a2 a3 a4 a5 m = some r) : fr S_X14_adjust m r.2 := by
  unfold g_X14_adjust_80_b at h
  rcases rf_ite_some h with ⟨_, h⟩ | ⟨_, h⟩
  · rcases rf_ite_some h with ⟨_, h⟩ | ⟨_, h⟩
    · obtain ⟨y0, m0, q1, h⟩ := rf_b_some h
      have e1 : fr S_X14_adjust m m0 := fr_trans ((fr_refl _ m)) (fr_mono (fg_X14_refused q1) (by decide))
      obtain rfl := Option.some.inj h
      exact e1
    · exact fr_trans ((fr_refl _ m)) (fr_mono (fg_X14_adjust_229 _ h) (by decide))
  · rcases rf_ite_some h with ⟨_, h⟩ | ⟨_, h⟩
    · exact fr_trans ((fr_refl _ m)) (fr_mono (fg_X14_adjust_99 hr_rec80 h) (by decide))
    · exact fr_trans ((fr_refl _ m)) (fr_mono (fg_X14_adjust_99 hr_rec80 h) (by decide))
theorem fg_X14_adjust_80 {w : rf_w} (n : Nat) : ∀ {a1 : Int32} {a2 : Int32} {a3 : Int32} {a4 : Int32} {a5 : Int32} {m : rf_m} {r : (Int32 × rf_m)}, g_X14_adjust_80 w n a1 a2 a3 a4 a5 m = some r → fr S_X14_adjust m r.2 := by
  induction n with
  | zero => intro a1 a2 a3 a4 a5 m r h; cases h
  | succ n ih =>
    intro a1 a2 a3 a4 a5 m r h
    exact fg_X14_adjust_80_b ih h
theorem fg_X14_adjust_47 {w : rf_w} {a1 : Int32} {a2 : Int32} {m : rf_m} {r : (Int32 × rf_m)} (h : g_X14_adjust_47 w a1 a2 m = some r) : fr S_X14_adjust m r.2 := by
  unfold g_X14_adjust_47 at h
  obtain ⟨y0, m0, q1, h⟩ := rf_b_some h
  have e1 : fr S_X14_adjust m m0 := fr_trans ((fr_refl _ m)) (fr_mono (fg_X14_bits q1) (by decide))
  obtain ⟨y1, m1, q2, h⟩ := rf_b_some h
  have e2 : fr S_X14_adjust m m1 := fr_trans e1 (fr_mono (fg_X14_bits q2) (by decide))
  rcases rf_ite_some h with ⟨_, h⟩ | ⟨_, h⟩
  · obtain ⟨m2, q3, h⟩ := rf_bv_some h
    have e3 : fr S_X14_adjust m m2 := fr_trans e2 (fr_mono (fg_X14_allMeans q3) (by decide))
    exact fr_trans e3 (fr_mono (fg_X14_adjust_80 _ h) (by decide))
  · obtain ⟨y3, m3, q4, h⟩ := rf_b_some h
    have e4 : fr S_X14_adjust m m3 := fr_trans e2 (fr_mono (fg_X14_refused q4) (by decide))
    obtain rfl := Option.some.inj h
    exact e4
theorem fg_X14_adjust {w : rf_w} {m : rf_m} {a1 : Int32} {a2 : Int32} {r : (Int32 × rf_m)} (h : g_X14_adjust w m a1 a2 = some r) : fr S_X14_adjust m r.2 := by
  unfold g_X14_adjust at h
  rcases rf_ite_some h with ⟨_, h⟩ | ⟨_, h⟩
  · obtain ⟨y0, m0, q1, h⟩ := rf_b_some h
    have e1 : fr S_X14_adjust m m0 := fr_trans (fr_i ((fr_refl _ m)) (by decide)) (fr_mono (fg_X14_refused q1) (by decide))
    obtain rfl := Option.some.inj h
    exact e1
  · rcases rf_ite_some h with ⟨_, h⟩ | ⟨_, h⟩
    · obtain ⟨y1, m1, q2, h⟩ := rf_b_some h
      have e2 : fr S_X14_adjust m m1 := fr_trans (fr_i ((fr_refl _ m)) (by decide)) (fr_mono (fg_X14_refused q2) (by decide))
      obtain rfl := Option.some.inj h
      exact e2
    · rcases rf_ite_some h with ⟨_, h⟩ | ⟨_, h⟩
      · obtain ⟨y2, m2, q3, h⟩ := rf_b_some h
        have e3 : fr S_X14_adjust m m2 := fr_trans (fr_i ((fr_refl _ m)) (by decide)) (fr_mono (fg_X14_refused q3) (by decide))
        obtain rfl := Option.some.inj h
        exact e3
      · rcases rf_ite_some h with ⟨_, h⟩ | ⟨_, h⟩
        · obtain ⟨y3, m3, q4, h⟩ := rf_b_some h
          have e4 : fr S_X14_adjust m m3 := fr_trans (fr_i ((fr_refl _ m)) (by decide)) (fr_mono (fg_X14_refused q4) (by decide))
          obtain rfl := Option.some.inj h
          exact e4
        · rcases rf_ite_some h with ⟨_, h⟩ | ⟨_, h⟩
          · rcases rf_ite_some h with ⟨_, h⟩ | ⟨_, h⟩
            · obtain ⟨y4, m4, q5, h⟩ := rf_b_some h
              have e5 : fr S_X14_adjust m m4 := fr_trans (fr_i ((fr_refl _ m)) (by decide)) (fr_mono (fg_X14_refused q5) (by decide))
              obtain rfl := Option.some.inj h
              exact e5
            · exact fr_trans (fr_i ((fr_refl _ m)) (by decide)) (fr_mono (fg_X14_adjust_47 h) (by decide))
          · exact fr_trans (fr_i ((fr_refl _ m)) (by decide)) (fr_mono (fg_X14_adjust_47 h) (by decide))
def S_X14_times__252_264 : fr_S := [(252, 252, none)]
theorem fg_X14_times__252_264_14_b {w : rf_w} {rec14 : Int32 → Int32 → Int32 → Int64 → Int64 → Int32 → rf_m → Option (rf_m)} {a1 : Int32} {a3 : Int32} {a4 : Int32} {a5 : Int64} {a7 : Int64} {a9 : Int32} {m : rf_m} (hr_rec14 : ∀ {x0 : Int32} {x1 : Int32} {x2 : Int32} {x3 : Int64} {x4 : Int64} {x5 : Int32} {m : rf_m} {r : (rf_m)}, rec14 x0 x1 x2 x3 x4 x5 m = some r → fr S_X14_times__252_264 m r) {r : (rf_m)} (h : g_X14_times__252_264_14_b w rec14 a1 a3 a4 a5 a7 a9 m = some r) : fr S_X14_times__252_264 m r := by
  unfold g_X14_times__252_264_14_b at h
  rcases rf_ite_some h with ⟨_, h⟩ | ⟨_, h⟩
  · rcases rf_ite_some h with ⟨_, h⟩ | ⟨_, h⟩
    · obtain rfl := Option.some.inj h
      exact (fr_refl _ m)
    · obtain ⟨m0, q1, h⟩ := rf_bv_some h
      have e1 : fr S_X14_times__252_264 m m0 := fr_trans ((fr_refl _ m)) (fr_mono (fg_X14_turns__252 q1) (by decide))
      obtain rfl := Option.some.inj h
      exact e1
  · obtain ⟨_, h⟩ := rf_g_some h
    have h := fr_vl h
    obtain ⟨_, h⟩ := rf_g_some h
    have h := fr_vl h
    exact fr_trans (fr_i ((fr_refl _ m)) (fr_c_in (by decide) _)) (hr_rec14 h)
theorem fg_X14_times__252_264_14 {w : rf_w} (n : Nat) : ∀ {a1 : Int32} {a3 : Int32} {a4 : Int32} {a5 : Int64} {a7 : Int64} {a9 : Int32} {m : rf_m} {r : (rf_m)}, g_X14_times__252_264_14 w n a1 a3 a4 a5 a7 a9 m = some r → fr S_X14_times__252_264 m r := by
  induction n with
  | zero => intro a1 a3 a4 a5 a7 a9 m r h; cases h
  | succ n ih =>
    intro a1 a3 a4 a5 a7 a9 m r h
    exact fg_X14_times__252_264_14_b ih h
theorem fg_X14_times__252_264 {w : rf_w} {m : rf_m} {a1 : Int32} {a3 : Int32} {a4 : Int32} {r : (rf_m)} (h : g_X14_times__252_264 w m a1 a3 a4 = some r) : fr S_X14_times__252_264 m r := by
  unfold g_X14_times__252_264 at h
  obtain ⟨y0, m0, q1, h⟩ := rf_b_some h
  have e1 : fr S_X14_times__252_264 m m0 := fr_trans ((fr_refl _ m)) (fr_mono (fg_absL q1) (by decide))
  exact fr_trans e1 (fr_mono (fg_X14_times__252_264_14 _ h) (by decide))
def S_X14_change : fr_S := [(206, 206, some 0), (249, 249, none), (250, 250, none), (251, 251, none), (252, 252, none), (253, 253, none)]
theorem fg_X14_change {w : rf_w} {m : rf_m} {a1 : Int32} {r : (Int32 × rf_m)} (h : g_X14_change w m a1 = some r) : fr S_X14_change m r.2 := by
  unfold g_X14_change at h
  obtain ⟨y0, m0, q1, h⟩ := rf_b_some h
  have e1 : fr S_X14_change m m0 := fr_trans (fr_i ((fr_refl _ m)) (by decide)) (fr_mono (fg_X14_isAngle q1) (by decide))
  rcases rf_ite_some h with ⟨_, h⟩ | ⟨_, h⟩
  · obtain rfl := Option.some.inj h
    exact e1
  · rcases rf_ite_some h with ⟨_, h⟩ | ⟨_, h⟩
    · obtain rfl := Option.some.inj h
      exact e1
    · obtain ⟨_, h⟩ := rf_g_some h
      rcases rf_ite_some h with ⟨_, h⟩ | ⟨_, h⟩
      · obtain rfl := Option.some.inj h
        exact e1
      · obtain ⟨m2, q2, h⟩ := rf_bv_some h
        have e2 : fr S_X14_change m m2 := fr_trans e1 (fr_mono (fg_X14_times__252_264 q2) (by decide))
        obtain ⟨m3, q3, h⟩ := rf_bv_some h
        have e3 : fr S_X14_change m m3 := fr_trans e2 (fr_mono (fg_X14_copies__253_259 q3) (by decide))
        obtain ⟨m4, q4, h⟩ := rf_bv_some h
        have e4 : fr S_X14_change m m4 := fr_trans e3 (fr_mono (fg_X14_floors q4) (by decide))
        obtain ⟨y5, m5, q5, h⟩ := rf_b_some h
        have e5 : fr S_X14_change m m5 := fr_trans e4 (fr_mono (fg_X14_isLong q5) (by decide))
        rcases rf_ite_some h with ⟨_, h⟩ | ⟨_, h⟩
        · obtain rfl := Option.some.inj h
          exact e5
        · obtain ⟨y6, m6, q6, h⟩ := rf_b_some h
          have e6 : fr S_X14_change m m6 := fr_trans e5 (fr_mono (fg_X14_quotientLong q6) (by decide))
          obtain ⟨y7, m7, q7, h⟩ := rf_b_some h
          have e7 : fr S_X14_change m m7 := fr_trans e6 (fr_mono (fg_X14_quotientLong q7) (by decide))
          rcases rf_ite_some h with ⟨_, h⟩ | ⟨_, h⟩
          · obtain ⟨y8, m8, q8, h⟩ := rf_b_some h
            have e8 : fr S_X14_change m m8 := fr_trans e7 (fr_mono (fg_X14_quotientLong q8) (by decide))
            obtain rfl := Option.some.inj h
            exact e8
          · obtain rfl := Option.some.inj h
            exact e7
def S_X14_isNoLess__250_267 : fr_S := []
theorem fg_X14_isNoLess__250_267_3_b {w : rf_w} {rec3 : Int32 → Int32 → Int32 → rf_m → Option (Int32 × rf_m)} {a1 : Int32} {a3 : Int32} {a4 : Int32} {m : rf_m} (hr_rec3 : ∀ {x0 : Int32} {x1 : Int32} {x2 : Int32} {m : rf_m} {r : (Int32 × rf_m)}, rec3 x0 x1 x2 m = some r → fr S_X14_isNoLess__250_267 m r.2) {r : (Int32 × rf_m)} (h : g_X14_isNoLess__250_267_3_b w rec3 a1 a3 a4 m = some r) : fr S_X14_isNoLess__250_267 m r.2 := by
  unfold g_X14_isNoLess__250_267_3_b at h
  rcases rf_ite_some h with ⟨_, h⟩ | ⟨_, h⟩
  · obtain rfl := Option.some.inj h
    exact (fr_refl _ m)
  · obtain ⟨_, h⟩ := rf_g_some h
    have h := fr_vl h
    obtain ⟨_, h⟩ := rf_g_some h
    have h := fr_vl h
    rcases rf_ite_some h with ⟨_, h⟩ | ⟨_, h⟩
    · exact fr_trans ((fr_refl _ m)) (hr_rec3 h)
    · rcases rf_ite_some h with ⟨_, h⟩ | ⟨_, h⟩
      · obtain rfl := Option.some.inj h
        exact (fr_refl _ m)
      · obtain rfl := Option.some.inj h
        exact (fr_refl _ m)
theorem fg_X14_isNoLess__250_267_3 {w : rf_w} (n : Nat) : ∀ {a1 : Int32} {a3 : Int32} {a4 : Int32} {m : rf_m} {r : (Int32 × rf_m)}, g_X14_isNoLess__250_267_3 w n a1 a3 a4 m = some r → fr S_X14_isNoLess__250_267 m r.2 := by
  induction n with
  | zero => intro a1 a3 a4 m r h; cases h
  | succ n ih =>
    intro a1 a3 a4 m r h
    exact fg_X14_isNoLess__250_267_3_b ih h
theorem fg_X14_isNoLess__250_267 {w : rf_w} {m : rf_m} {a1 : Int32} {a3 : Int32} {r : (Int32 × rf_m)} (h : g_X14_isNoLess__250_267 w m a1 a3 = some r) : fr S_X14_isNoLess__250_267 m r.2 := by
  unfold g_X14_isNoLess__250_267 at h
  exact fr_trans ((fr_refl _ m)) (fr_mono (fg_X14_isNoLess__250_267_3 _ h) (by decide))
def S_X14_copies__251_267 : fr_S := [(251, 251, none)]
theorem fg_X14_copies__251_267_3_b {w : rf_w} {rec3 : Int32 → Int32 → Int32 → rf_m → Option (rf_m)} {a1 : Int32} {a3 : Int32} {a4 : Int32} {m : rf_m} (hr_rec3 : ∀ {x0 : Int32} {x1 : Int32} {x2 : Int32} {m : rf_m} {r : (rf_m)}, rec3 x0 x1 x2 m = some r → fr S_X14_copies__251_267 m r) {r : (rf_m)} (h : g_X14_copies__251_267_3_b w rec3 a1 a3 a4 m = some r) : fr S_X14_copies__251_267 m r := by
  unfold g_X14_copies__251_267_3_b at h
  rcases rf_ite_some h with ⟨_, h⟩ | ⟨_, h⟩
  · obtain rfl := Option.some.inj h
    exact (fr_refl _ m)
  · obtain ⟨_, h⟩ := rf_g_some h
    obtain ⟨_, h⟩ := rf_g_some h
    exact fr_trans (fr_i ((fr_refl _ m)) (fr_c_in (by decide) _)) (hr_rec3 h)
theorem fg_X14_copies__251_267_3 {w : rf_w} (n : Nat) : ∀ {a1 : Int32} {a3 : Int32} {a4 : Int32} {m : rf_m} {r : (rf_m)}, g_X14_copies__251_267_3 w n a1 a3 a4 m = some r → fr S_X14_copies__251_267 m r := by
  induction n with
  | zero => intro a1 a3 a4 m r h; cases h
  | succ n ih =>
    intro a1 a3 a4 m r h
    exact fg_X14_copies__251_267_3_b ih h
theorem fg_X14_copies__251_267 {w : rf_w} {m : rf_m} {a1 : Int32} {a3 : Int32} {r : (rf_m)} (h : g_X14_copies__251_267 w m a1 a3 = some r) : fr S_X14_copies__251_267 m r := by
  unfold g_X14_copies__251_267 at h
  exact fr_trans ((fr_refl _ m)) (fr_mono (fg_X14_copies__251_267_3 _ h) (by decide))
def S_X14_divides__259_267 : fr_S := [(249, 249, none), (250, 250, none), (251, 251, none)]
theorem fg_X14_divides__259_267_139 {w : rf_w} {rec42 : Int32 → Int32 → Int32 → rf_m → Option (rf_m)} {a2 : Int32} {a4 : Int32} {a5 : Int32} {m : rf_m} (hr_rec42 : ∀ {x0 : Int32} {x1 : Int32} {x2 : Int32} {m : rf_m} {r : (rf_m)}, rec42 x0 x1 x2 m = some r → fr S_X14_divides__259_267 m r) {r : (rf_m)} (h : g_X14_divides__259_267_139 w rec42 a2 a4 a5 m = some r) : fr S_X14_divides__259_267 m r := by
  unfold g_X14_divides__259_267_139 at h
  exact fr_trans ((fr_refl _ m)) (hr_rec42 h)
theorem fg_X14_divides__259_267_42_b {w : rf_w} {rec42 : Int32 → Int32 → Int32 → rf_m → Option (rf_m)} {a2 : Int32} {a4 : Int32} {a5 : Int32} {m : rf_m} (hr_rec42 : ∀ {x0 : Int32} {x1 : Int32} {x2 : Int32} {m : rf_m} {r : (rf_m)}, rec42 x0 x1 x2 m = some r → fr S_X14_divides__259_267 m r) {r : (rf_m)} (h : g_X14_divides__259_267_42_b w rec42 a2 a4 a5 m = some r) : fr S_X14_divides__259_267 m r := by
  unfold g_X14_divides__259_267_42_b at h
  rcases rf_ite_some h with ⟨_, h⟩ | ⟨_, h⟩
  · obtain rfl := Option.some.inj h
    exact (fr_refl _ m)
  · obtain ⟨m0, q1, h⟩ := rf_bv_some h
    have e1 : fr S_X14_divides__259_267 m m0 := fr_trans ((fr_refl _ m)) (fr_mono (fg_X14_adds__250_250 q1) (by decide))
    obtain ⟨_, h⟩ := rf_g_some h
    obtain ⟨m2, q2, h⟩ := rf_bv_some h
    have e2 : fr S_X14_divides__259_267 m m2 := fr_trans (fr_i e1 (fr_c_in (by decide) _)) (fr_mono (fg_X14_adds__249_249 q2) (by decide))
    obtain ⟨y3, m3, q3, h⟩ := rf_b_some h
    have e3 : fr S_X14_divides__259_267 m m3 := fr_trans e2 (fr_mono (fg_X14_isNoLess__250_267 q3) (by decide))
    rcases rf_ite_some h with ⟨_, h⟩ | ⟨_, h⟩
    · exact fr_trans e3 (fr_mono (fg_X14_divides__259_267_139 hr_rec42 h) (by decide))
    · obtain ⟨m4, q4, h⟩ := rf_bv_some h
      have e4 : fr S_X14_divides__259_267 m m4 := fr_trans e3 (fr_mono (fg_X14_adds__250_251 q4) (by decide))
      exact fr_trans (fr_i e4 (fr_c_in (by decide) _)) (fr_mono (fg_X14_divides__259_267_139 hr_rec42 h) (by decide))
theorem fg_X14_divides__259_267_42 {w : rf_w} (n : Nat) : ∀ {a2 : Int32} {a4 : Int32} {a5 : Int32} {m : rf_m} {r : (rf_m)}, g_X14_divides__259_267_42 w n a2 a4 a5 m = some r → fr S_X14_divides__259_267 m r := by
  induction n with
  | zero => intro a2 a4 a5 m r h; cases h
  | succ n ih =>
    intro a2 a4 a5 m r h
    exact fg_X14_divides__259_267_42_b ih h
theorem fg_X14_divides__259_267 {w : rf_w} {m : rf_m} {a2 : Int32} {a4 : Int32} {r : (rf_m)} (h : g_X14_divides__259_267 w m a2 a4 = some r) : fr S_X14_divides__259_267 m r := by
  unfold g_X14_divides__259_267 at h
  obtain ⟨m0, q1, h⟩ := rf_bv_some h
  have e1 : fr S_X14_divides__259_267 m m0 := fr_trans ((fr_refl _ m)) (fr_mono (fg_X14_set__249 q1) (by decide))
  obtain ⟨m1, q2, h⟩ := rf_bv_some h
  have e2 : fr S_X14_divides__259_267 m m1 := fr_trans e1 (fr_mono (fg_X14_set__250 q2) (by decide))
  obtain ⟨m2, q3, h⟩ := rf_bv_some h
  have e3 : fr S_X14_divides__259_267 m m2 := fr_trans e2 (fr_mono (fg_X14_copies__251_267 q3) (by decide))
  obtain ⟨m3, q4, h⟩ := rf_bv_some h
  have e4 : fr S_X14_divides__259_267 m m3 := fr_trans e3 (fr_mono (fg_X14_turns__251 q4) (by decide))
  exact fr_trans e4 (fr_mono (fg_X14_divides__259_267_42 _ h) (by decide))
def S_X14_divides__266_267 : fr_S := [(249, 249, none), (250, 250, none), (251, 251, none)]
theorem fg_X14_divides__266_267_139 {w : rf_w} {rec42 : Int32 → Int32 → Int32 → rf_m → Option (rf_m)} {a2 : Int32} {a4 : Int32} {a5 : Int32} {m : rf_m} (hr_rec42 : ∀ {x0 : Int32} {x1 : Int32} {x2 : Int32} {m : rf_m} {r : (rf_m)}, rec42 x0 x1 x2 m = some r → fr S_X14_divides__266_267 m r) {r : (rf_m)} (h : g_X14_divides__266_267_139 w rec42 a2 a4 a5 m = some r) : fr S_X14_divides__266_267 m r := by
  unfold g_X14_divides__266_267_139 at h
  exact fr_trans ((fr_refl _ m)) (hr_rec42 h)
theorem fg_X14_divides__266_267_42_b {w : rf_w} {rec42 : Int32 → Int32 → Int32 → rf_m → Option (rf_m)} {a2 : Int32} {a4 : Int32} {a5 : Int32} {m : rf_m} (hr_rec42 : ∀ {x0 : Int32} {x1 : Int32} {x2 : Int32} {m : rf_m} {r : (rf_m)}, rec42 x0 x1 x2 m = some r → fr S_X14_divides__266_267 m r) {r : (rf_m)} (h : g_X14_divides__266_267_42_b w rec42 a2 a4 a5 m = some r) : fr S_X14_divides__266_267 m r := by
  unfold g_X14_divides__266_267_42_b at h
  rcases rf_ite_some h with ⟨_, h⟩ | ⟨_, h⟩
  · obtain rfl := Option.some.inj h
    exact (fr_refl _ m)
  · obtain ⟨m0, q1, h⟩ := rf_bv_some h
    have e1 : fr S_X14_divides__266_267 m m0 := fr_trans ((fr_refl _ m)) (fr_mono (fg_X14_adds__250_250 q1) (by decide))
    obtain ⟨_, h⟩ := rf_g_some h
    obtain ⟨m2, q2, h⟩ := rf_bv_some h
    have e2 : fr S_X14_divides__266_267 m m2 := fr_trans (fr_i e1 (fr_c_in (by decide) _)) (fr_mono (fg_X14_adds__249_249 q2) (by decide))
    obtain ⟨y3, m3, q3, h⟩ := rf_b_some h
    have e3 : fr S_X14_divides__266_267 m m3 := fr_trans e2 (fr_mono (fg_X14_isNoLess__250_267 q3) (by decide))
    rcases rf_ite_some h with ⟨_, h⟩ | ⟨_, h⟩
    · exact fr_trans e3 (fr_mono (fg_X14_divides__266_267_139 hr_rec42 h) (by decide))
    · obtain ⟨m4, q4, h⟩ := rf_bv_some h
      have e4 : fr S_X14_divides__266_267 m m4 := fr_trans e3 (fr_mono (fg_X14_adds__250_251 q4) (by decide))
      exact fr_trans (fr_i e4 (fr_c_in (by decide) _)) (fr_mono (fg_X14_divides__266_267_139 hr_rec42 h) (by decide))
theorem fg_X14_divides__266_267_42 {w : rf_w} (n : Nat) : ∀ {a2 : Int32} {a4 : Int32} {a5 : Int32} {m : rf_m} {r : (rf_m)}, g_X14_divides__266_267_42 w n a2 a4 a5 m = some r → fr S_X14_divides__266_267 m r := by
  induction n with
  | zero => intro a2 a4 a5 m r h; cases h
  | succ n ih =>
    intro a2 a4 a5 m r h
    exact fg_X14_divides__266_267_42_b ih h
theorem fg_X14_divides__266_267 {w : rf_w} {m : rf_m} {a2 : Int32} {a4 : Int32} {r : (rf_m)} (h : g_X14_divides__266_267 w m a2 a4 = some r) : fr S_X14_divides__266_267 m r := by
  unfold g_X14_divides__266_267 at h
  obtain ⟨m0, q1, h⟩ := rf_bv_some h
  have e1 : fr S_X14_divides__266_267 m m0 := fr_trans ((fr_refl _ m)) (fr_mono (fg_X14_set__249 q1) (by decide))
  obtain ⟨m1, q2, h⟩ := rf_bv_some h
  have e2 : fr S_X14_divides__266_267 m m1 := fr_trans e1 (fr_mono (fg_X14_set__250 q2) (by decide))
  obtain ⟨m2, q3, h⟩ := rf_bv_some h
  have e3 : fr S_X14_divides__266_267 m m2 := fr_trans e2 (fr_mono (fg_X14_copies__251_267 q3) (by decide))
  obtain ⟨m3, q4, h⟩ := rf_bv_some h
  have e4 : fr S_X14_divides__266_267 m m3 := fr_trans e3 (fr_mono (fg_X14_turns__251 q4) (by decide))
  exact fr_trans e4 (fr_mono (fg_X14_divides__266_267_42 _ h) (by decide))
def S_X14_isZero__266 : fr_S := []
theorem fg_X14_isZero__266_27 {w : rf_w} {rec4 : Int32 → Int32 → Int32 → rf_m → Option (Int32 × rf_m)} {a1 : Int32} {a3 : Int32} {s0 : Int32} {m : rf_m} (hr_rec4 : ∀ {x0 : Int32} {x1 : Int32} {x2 : Int32} {m : rf_m} {r : (Int32 × rf_m)}, rec4 x0 x1 x2 m = some r → fr S_X14_isZero__266 m r.2) {r : (Int32 × rf_m)} (h : g_X14_isZero__266_27 w rec4 a1 a3 s0 m = some r) : fr S_X14_isZero__266 m r.2 := by
  unfold g_X14_isZero__266_27 at h
  exact fr_trans ((fr_refl _ m)) (hr_rec4 h)
theorem fg_X14_isZero__266_26 {w : rf_w} {rec4 : Int32 → Int32 → Int32 → rf_m → Option (Int32 × rf_m)} {a1 : Int32} {a3 : Int32} {m : rf_m} (hr_rec4 : ∀ {x0 : Int32} {x1 : Int32} {x2 : Int32} {m : rf_m} {r : (Int32 × rf_m)}, rec4 x0 x1 x2 m = some r → fr S_X14_isZero__266 m r.2) {r : (Int32 × rf_m)} (h : g_X14_isZero__266_26 w rec4 a1 a3 m = some r) : fr S_X14_isZero__266 m r.2 := by
  unfold g_X14_isZero__266_26 at h
  exact fr_trans ((fr_refl _ m)) (fr_mono (fg_X14_isZero__266_27 hr_rec4 h) (by decide))
theorem fg_X14_isZero__266_4_b {w : rf_w} {rec4 : Int32 → Int32 → Int32 → rf_m → Option (Int32 × rf_m)} {a1 : Int32} {a2 : Int32} {a3 : Int32} {m : rf_m} (hr_rec4 : ∀ {x0 : Int32} {x1 : Int32} {x2 : Int32} {m : rf_m} {r : (Int32 × rf_m)}, rec4 x0 x1 x2 m = some r → fr S_X14_isZero__266 m r.2) {r : (Int32 × rf_m)} (h : g_X14_isZero__266_4_b w rec4 a1 a2 a3 m = some r) : fr S_X14_isZero__266 m r.2 := by
  unfold g_X14_isZero__266_4_b at h
  rcases rf_ite_some h with ⟨_, h⟩ | ⟨_, h⟩
  · obtain ⟨_, h⟩ := rf_g_some h
    obtain rfl := Option.some.inj h
    exact (fr_refl _ m)
  · rcases rf_ite_some h with ⟨_, h⟩ | ⟨_, h⟩
    · exact fr_trans ((fr_refl _ m)) (fr_mono (fg_X14_isZero__266_26 hr_rec4 h) (by decide))
    · obtain ⟨_, h⟩ := rf_g_some h
      rcases rf_ite_some h with ⟨_, h⟩ | ⟨_, h⟩
      · exact fr_trans ((fr_refl _ m)) (fr_mono (fg_X14_isZero__266_27 hr_rec4 h) (by decide))
      · exact fr_trans ((fr_refl _ m)) (fr_mono (fg_X14_isZero__266_26 hr_rec4 h) (by decide))
theorem fg_X14_isZero__266_4 {w : rf_w} (n : Nat) : ∀ {a1 : Int32} {a2 : Int32} {a3 : Int32} {m : rf_m} {r : (Int32 × rf_m)}, g_X14_isZero__266_4 w n a1 a2 a3 m = some r → fr S_X14_isZero__266 m r.2 := by
  induction n with
  | zero => intro a1 a2 a3 m r h; cases h
  | succ n ih =>
    intro a1 a2 a3 m r h
    exact fg_X14_isZero__266_4_b ih h
theorem fg_X14_isZero__266 {w : rf_w} {m : rf_m} {a1 : Int32} {r : (Int32 × rf_m)} (h : g_X14_isZero__266 w m a1 = some r) : fr S_X14_isZero__266 m r.2 := by
  unfold g_X14_isZero__266 at h
  exact fr_trans ((fr_refl _ m)) (fr_mono (fg_X14_isZero__266_4 _ h) (by decide))
def S_X14_copies__266_264 : fr_S := [(266, 266, none)]
theorem fg_X14_copies__266_264_3_b {w : rf_w} {rec3 : Int32 → Int32 → Int32 → rf_m → Option (rf_m)} {a1 : Int32} {a3 : Int32} {a4 : Int32} {m : rf_m} (hr_rec3 : ∀ {x0 : Int32} {x1 : Int32} {x2 : Int32} {m : rf_m} {r : (rf_m)}, rec3 x0 x1 x2 m = some r → fr S_X14_copies__266_264 m r) {r : (rf_m)} (h : g_X14_copies__266_264_3_b w rec3 a1 a3 a4 m = some r) : fr S_X14_copies__266_264 m r := by
  unfold g_X14_copies__266_264_3_b at h
  rcases rf_ite_some h with ⟨_, h⟩ | ⟨_, h⟩
  · obtain rfl := Option.some.inj h
    exact (fr_refl _ m)
  · obtain ⟨_, h⟩ := rf_g_some h
    obtain ⟨_, h⟩ := rf_g_some h
    exact fr_trans (fr_i ((fr_refl _ m)) (fr_c_in (by decide) _)) (hr_rec3 h)
theorem fg_X14_copies__266_264_3 {w : rf_w} (n : Nat) : ∀ {a1 : Int32} {a3 : Int32} {a4 : Int32} {m : rf_m} {r : (rf_m)}, g_X14_copies__266_264_3 w n a1 a3 a4 m = some r → fr S_X14_copies__266_264 m r := by
  induction n with
  | zero => intro a1 a3 a4 m r h; cases h
  | succ n ih =>
    intro a1 a3 a4 m r h
    exact fg_X14_copies__266_264_3_b ih h
theorem fg_X14_copies__266_264 {w : rf_w} {m : rf_m} {a1 : Int32} {a3 : Int32} {r : (rf_m)} (h : g_X14_copies__266_264 w m a1 a3 = some r) : fr S_X14_copies__266_264 m r := by
  unfold g_X14_copies__266_264 at h
  exact fr_trans ((fr_refl _ m)) (fr_mono (fg_X14_copies__266_264_3 _ h) (by decide))
def S_X14_turns__266 : fr_S := [(266, 266, none)]
theorem fg_X14_turns__266_5_b {w : rf_w} {rec5 : Int32 → Int64 → Int32 → rf_m → Option (rf_m)} {a1 : Int32} {a2 : Int64} {a4 : Int32} {m : rf_m} (hr_rec5 : ∀ {x0 : Int32} {x1 : Int64} {x2 : Int32} {m : rf_m} {r : (rf_m)}, rec5 x0 x1 x2 m = some r → fr S_X14_turns__266 m r) {r : (rf_m)} (h : g_X14_turns__266_5_b w rec5 a1 a2 a4 m = some r) : fr S_X14_turns__266 m r := by
  unfold g_X14_turns__266_5_b at h
  rcases rf_ite_some h with ⟨_, h⟩ | ⟨_, h⟩
  · obtain rfl := Option.some.inj h
    exact (fr_refl _ m)
  · obtain ⟨_, h⟩ := rf_g_some h
    have h := fr_vl h
    obtain ⟨_, h⟩ := rf_g_some h
    have h := fr_vl h
    exact fr_trans (fr_i ((fr_refl _ m)) (fr_c_in (by decide) _)) (hr_rec5 h)
theorem fg_X14_turns__266_5 {w : rf_w} (n : Nat) : ∀ {a1 : Int32} {a2 : Int64} {a4 : Int32} {m : rf_m} {r : (rf_m)}, g_X14_turns__266_5 w n a1 a2 a4 m = some r → fr S_X14_turns__266 m r := by
  induction n with
  | zero => intro a1 a2 a4 m r h; cases h
  | succ n ih =>
    intro a1 a2 a4 m r h
    exact fg_X14_turns__266_5_b ih h
theorem fg_X14_turns__266 {w : rf_w} {m : rf_m} {a1 : Int32} {r : (rf_m)} (h : g_X14_turns__266 w m a1 = some r) : fr S_X14_turns__266 m r := by
  unfold g_X14_turns__266 at h
  exact fr_trans ((fr_refl _ m)) (fr_mono (fg_X14_turns__266_5 _ h) (by decide))
def S_X14_isNoLess__250_266 : fr_S := []
theorem fg_X14_isNoLess__250_266_3_b {w : rf_w} {rec3 : Int32 → Int32 → Int32 → rf_m → Option (Int32 × rf_m)} {a1 : Int32} {a3 : Int32} {a4 : Int32} {m : rf_m} (hr_rec3 : ∀ {x0 : Int32} {x1 : Int32} {x2 : Int32} {m : rf_m} {r : (Int32 × rf_m)}, rec3 x0 x1 x2 m = some r → fr S_X14_isNoLess__250_266 m r.2) {r : (Int32 × rf_m)} (h : g_X14_isNoLess__250_266_3_b w rec3 a1 a3 a4 m = some r) : fr S_X14_isNoLess__250_266 m r.2 := by
  unfold g_X14_isNoLess__250_266_3_b at h
  rcases rf_ite_some h with ⟨_, h⟩ | ⟨_, h⟩
  · obtain rfl := Option.some.inj h
    exact (fr_refl _ m)
  · obtain ⟨_, h⟩ := rf_g_some h
    have h := fr_vl h
    obtain ⟨_, h⟩ := rf_g_some h
    have h := fr_vl h
    rcases rf_ite_some h with ⟨_, h⟩ | ⟨_, h⟩
    · exact fr_trans ((fr_refl _ m)) (hr_rec3 h)
    · rcases rf_ite_some h with ⟨_, h⟩ | ⟨_, h⟩
      · obtain rfl := Option.some.inj h
        exact (fr_refl _ m)
      · obtain rfl := Option.some.inj h
        exact (fr_refl _ m)
theorem fg_X14_isNoLess__250_266_3 {w : rf_w} (n : Nat) : ∀ {a1 : Int32} {a3 : Int32} {a4 : Int32} {m : rf_m} {r : (Int32 × rf_m)}, g_X14_isNoLess__250_266_3 w n a1 a3 a4 m = some r → fr S_X14_isNoLess__250_266 m r.2 := by
  induction n with
  | zero => intro a1 a3 a4 m r h; cases h
  | succ n ih =>
    intro a1 a3 a4 m r h
    exact fg_X14_isNoLess__250_266_3_b ih h
theorem fg_X14_isNoLess__250_266 {w : rf_w} {m : rf_m} {a1 : Int32} {a3 : Int32} {r : (Int32 × rf_m)} (h : g_X14_isNoLess__250_266 w m a1 a3 = some r) : fr S_X14_isNoLess__250_266 m r.2 := by
  unfold g_X14_isNoLess__250_266 at h
  exact fr_trans ((fr_refl _ m)) (fr_mono (fg_X14_isNoLess__250_266_3 _ h) (by decide))
def S_X14_copies__251_266 : fr_S := [(251, 251, none)]
theorem fg_X14_copies__251_266_3_b {w : rf_w} {rec3 : Int32 → Int32 → Int32 → rf_m → Option (rf_m)} {a1 : Int32} {a3 : Int32} {a4 : Int32} {m : rf_m} (hr_rec3 : ∀ {x0 : Int32} {x1 : Int32} {x2 : Int32} {m : rf_m} {r : (rf_m)}, rec3 x0 x1 x2 m = some r → fr S_X14_copies__251_266 m r) {r : (rf_m)} (h : g_X14_copies__251_266_3_b w rec3 a1 a3 a4 m = some r) : fr S_X14_copies__251_266 m r := by
  unfold g_X14_copies__251_266_3_b at h
  rcases rf_ite_some h with ⟨_, h⟩ | ⟨_, h⟩
  · obtain rfl := Option.some.inj h
    exact (fr_refl _ m)
  · obtain ⟨_, h⟩ := rf_g_some h
    obtain ⟨_, h⟩ := rf_g_some h
    exact fr_trans (fr_i ((fr_refl _ m)) (fr_c_in (by decide) _)) (hr_rec3 h)
theorem fg_X14_copies__251_266_3 {w : rf_w} (n : Nat) : ∀ {a1 : Int32} {a3 : Int32} {a4 : Int32} {m : rf_m} {r : (rf_m)}, g_X14_copies__251_266_3 w n a1 a3 a4 m = some r → fr S_X14_copies__251_266 m r := by
  induction n with
  | zero => intro a1 a3 a4 m r h; cases h
  | succ n ih =>
    intro a1 a3 a4 m r h
    exact fg_X14_copies__251_266_3_b ih h
theorem fg_X14_copies__251_266 {w : rf_w} {m : rf_m} {a1 : Int32} {a3 : Int32} {r : (rf_m)} (h : g_X14_copies__251_266 w m a1 a3 = some r) : fr S_X14_copies__251_266 m r := by
  unfold g_X14_copies__251_266 at h
  exact fr_trans ((fr_refl _ m)) (fr_mono (fg_X14_copies__251_266_3 _ h) (by decide))
def S_X14_divides__267_266 : fr_S := [(249, 249, none), (250, 250, none), (251, 251, none)]
theorem fg_X14_divides__267_266_139 {w : rf_w} {rec42 : Int32 → Int32 → Int32 → rf_m → Option (rf_m)} {a2 : Int32} {a4 : Int32} {a5 : Int32} {m : rf_m} (hr_rec42 : ∀ {x0 : Int32} {x1 : Int32} {x2 : Int32} {m : rf_m} {r : (rf_m)}, rec42 x0 x1 x2 m = some r → fr S_X14_divides__267_266 m r) {r : (rf_m)} (h : g_X14_divides__267_266_139 w rec42 a2 a4 a5 m = some r) : fr S_X14_divides__267_266 m r := by
  unfold g_X14_divides__267_266_139 at h
  exact fr_trans ((fr_refl _ m)) (hr_rec42 h)
theorem fg_X14_divides__267_266_42_b {w : rf_w} {rec42 : Int32 → Int32 → Int32 → rf_m → Option (rf_m)} {a2 : Int32} {a4 : Int32} {a5 : Int32} {m : rf_m} (hr_rec42 : ∀ {x0 : Int32} {x1 : Int32} {x2 : Int32} {m : rf_m} {r : (rf_m)}, rec42 x0 x1 x2 m = some r → fr S_X14_divides__267_266 m r) {r : (rf_m)} (h : g_X14_divides__267_266_42_b w rec42 a2 a4 a5 m = some r) : fr S_X14_divides__267_266 m r := by
  unfold g_X14_divides__267_266_42_b at h
  rcases rf_ite_some h with ⟨_, h⟩ | ⟨_, h⟩
  · obtain rfl := Option.some.inj h
    exact (fr_refl _ m)
  · obtain ⟨m0, q1, h⟩ := rf_bv_some h
    have e1 : fr S_X14_divides__267_266 m m0 := fr_trans ((fr_refl _ m)) (fr_mono (fg_X14_adds__250_250 q1) (by decide))
    obtain ⟨_, h⟩ := rf_g_some h
    obtain ⟨m2, q2, h⟩ := rf_bv_some h
    have e2 : fr S_X14_divides__267_266 m m2 := fr_trans (fr_i e1 (fr_c_in (by decide) _)) (fr_mono (fg_X14_adds__249_249 q2) (by decide))
    obtain ⟨y3, m3, q3, h⟩ := rf_b_some h
    have e3 : fr S_X14_divides__267_266 m m3 := fr_trans e2 (fr_mono (fg_X14_isNoLess__250_266 q3) (by decide))
    rcases rf_ite_some h with ⟨_, h⟩ | ⟨_, h⟩
    · exact fr_trans e3 (fr_mono (fg_X14_divides__267_266_139 hr_rec42 h) (by decide))
    · obtain ⟨m4, q4, h⟩ := rf_bv_some h
      have e4 : fr S_X14_divides__267_266 m m4 := fr_trans e3 (fr_mono (fg_X14_adds__250_251 q4) (by decide))
      exact fr_trans (fr_i e4 (fr_c_in (by decide) _)) (fr_mono (fg_X14_divides__267_266_139 hr_rec42 h) (by decide))
theorem fg_X14_divides__267_266_42 {w : rf_w} (n : Nat) : ∀ {a2 : Int32} {a4 : Int32} {a5 : Int32} {m : rf_m} {r : (rf_m)}, g_X14_divides__267_266_42 w n a2 a4 a5 m = some r → fr S_X14_divides__267_266 m r := by
  induction n with
  | zero => intro a2 a4 a5 m r h; cases h
  | succ n ih =>
    intro a2 a4 a5 m r h
    exact fg_X14_divides__267_266_42_b ih h
theorem fg_X14_divides__267_266 {w : rf_w} {m : rf_m} {a2 : Int32} {a4 : Int32} {r : (rf_m)} (h : g_X14_divides__267_266 w m a2 a4 = some r) : fr S_X14_divides__267_266 m r := by
  unfold g_X14_divides__267_266 at h
  obtain ⟨m0, q1, h⟩ := rf_bv_some h
  have e1 : fr S_X14_divides__267_266 m m0 := fr_trans ((fr_refl _ m)) (fr_mono (fg_X14_set__249 q1) (by decide))
  obtain ⟨m1, q2, h⟩ := rf_bv_some h
  have e2 : fr S_X14_divides__267_266 m m1 := fr_trans e1 (fr_mono (fg_X14_set__250 q2) (by decide))
  obtain ⟨m2, q3, h⟩ := rf_bv_some h
  have e3 : fr S_X14_divides__267_266 m m2 := fr_trans e2 (fr_mono (fg_X14_copies__251_266 q3) (by decide))
  obtain ⟨m3, q4, h⟩ := rf_bv_some h
  have e4 : fr S_X14_divides__267_266 m m3 := fr_trans e3 (fr_mono (fg_X14_turns__251 q4) (by decide))
  exact fr_trans e4 (fr_mono (fg_X14_divides__267_266_42 _ h) (by decide))
def S_X14_copies__267_266 : fr_S := [(267, 267, none)]
theorem fg_X14_copies__267_266_3_b {w : rf_w} {rec3 : Int32 → Int32 → Int32 → rf_m → Option (rf_m)} {a1 : Int32} {a3 : Int32} {a4 : Int32} {m : rf_m} (hr_rec3 : ∀ {x0 : Int32} {x1 : Int32} {x2 : Int32} {m : rf_m} {r : (rf_m)}, rec3 x0 x1 x2 m = some r → fr S_X14_copies__267_266 m r) {r : (rf_m)} (h : g_X14_copies__267_266_3_b w rec3 a1 a3 a4 m = some r) : fr S_X14_copies__267_266 m r := by
  unfold g_X14_copies__267_266_3_b at h
  rcases rf_ite_some h with ⟨_, h⟩ | ⟨_, h⟩
  · obtain rfl := Option.some.inj h
    exact (fr_refl _ m)
  · obtain ⟨_, h⟩ := rf_g_some h
    obtain ⟨_, h⟩ := rf_g_some h
    exact fr_trans (fr_i ((fr_refl _ m)) (fr_c_in (by decide) _)) (hr_rec3 h)
theorem fg_X14_copies__267_266_3 {w : rf_w} (n : Nat) : ∀ {a1 : Int32} {a3 : Int32} {a4 : Int32} {m : rf_m} {r : (rf_m)}, g_X14_copies__267_266_3 w n a1 a3 a4 m = some r → fr S_X14_copies__267_266 m r := by
  induction n with
  | zero => intro a1 a3 a4 m r h; cases h
  | succ n ih =>
    intro a1 a3 a4 m r h
    exact fg_X14_copies__267_266_3_b ih h
theorem fg_X14_copies__267_266 {w : rf_w} {m : rf_m} {a1 : Int32} {a3 : Int32} {r : (rf_m)} (h : g_X14_copies__267_266 w m a1 a3 = some r) : fr S_X14_copies__267_266 m r := by
  unfold g_X14_copies__267_266 at h
  exact fr_trans ((fr_refl _ m)) (fr_mono (fg_X14_copies__267_266_3 _ h) (by decide))
end FRL
