section FRL
def S_X7_turnsIn : fr_S := []
theorem fg_X7_turnsIn {w : rf_w} {m : rf_m} {a1 : Int32} {r : (Int32 × rf_m)} (h : g_X7_turnsIn w m a1 = some r) : fr S_X7_turnsIn m r.2 := by
  unfold g_X7_turnsIn at h
  obtain ⟨_, h⟩ := rf_g_some h
  obtain rfl := Option.some.inj h
  exact (fr_refl _ m)
def S_X7_sumLess__53_31 : fr_S := []
theorem fg_X7_sumLess__53_31_6_b {w : rf_w} {rec6 : Int32 → Int32 → Int32 → Int32 → Int32 → rf_m → Option (Int32 × rf_m)} {a1 : Int32} {a2 : Int32} {a4 : Int32} {a5 : Int32} {a6 : Int32} {m : rf_m} (hr_rec6 : ∀ {x0 : Int32} {x1 : Int32} {x2 : Int32} {x3 : Int32} {x4 : Int32} {m : rf_m} {r : (Int32 × rf_m)}, rec6 x0 x1 x2 x3 x4 m = some r → fr S_X7_sumLess__53_31 m r.2) {r : (Int32 × rf_m)} (h : g_X7_sumLess__53_31_6_b w rec6 a1 a2 a4 a5 a6 m = some r) : fr S_X7_sumLess__53_31 m r.2 := by
  unfold g_X7_sumLess__53_31_6_b at h
  rcases rf_ite_some h with ⟨_, h⟩ | ⟨_, h⟩
  · obtain rfl := Option.some.inj h
    exact (fr_refl _ m)
  · obtain ⟨_, h⟩ := rf_g_some h
    obtain ⟨_, h⟩ := rf_g_some h
    rcases rf_ite_some h with ⟨_, h⟩ | ⟨_, h⟩
    · obtain ⟨_, h⟩ := rf_g_some h
      obtain ⟨_, h⟩ := rf_g_some h
      have h := fr_vi h
      exact fr_trans ((fr_refl _ m)) (hr_rec6 h)
    · obtain rfl := Option.some.inj h
      exact (fr_refl _ m)
theorem fg_X7_sumLess__53_31_6 {w : rf_w} (n : Nat) : ∀ {a1 : Int32} {a2 : Int32} {a4 : Int32} {a5 : Int32} {a6 : Int32} {m : rf_m} {r : (Int32 × rf_m)}, g_X7_sumLess__53_31_6 w n a1 a2 a4 a5 a6 m = some r → fr S_X7_sumLess__53_31 m r.2 := by
  induction n with
  | zero => intro a1 a2 a4 a5 a6 m r h; cases h
  | succ n ih =>
    intro a1 a2 a4 a5 a6 m r h
    exact fg_X7_sumLess__53_31_6_b ih h
theorem fg_X7_sumLess__53_31 {w : rf_w} {m : rf_m} {a1 : Int32} {a2 : Int32} {a4 : Int32} {r : (Int32 × rf_m)} (h : g_X7_sumLess__53_31 w m a1 a2 a4 = some r) : fr S_X7_sumLess__53_31 m r.2 := by
  unfold g_X7_sumLess__53_31 at h
  exact fr_trans ((fr_refl _ m)) (fr_mono (fg_X7_sumLess__53_31_6 _ h) (by decide))
def S_X7_roundMiss__31 : fr_S := []
theorem fg_X7_roundMiss__31 {w : rf_w} {m : rf_m} {a1 : Int32} {r : (Int32 × rf_m)} (h : g_X7_roundMiss__31 w m a1 = some r) : fr S_X7_roundMiss__31 m r.2 := by
  unfold g_X7_roundMiss__31 at h
  obtain ⟨_, h⟩ := rf_g_some h
  obtain ⟨y1, m1, q1, h⟩ := rf_b_some h
  have e1 : fr S_X7_roundMiss__31 m m1 := fr_trans ((fr_refl _ m)) (fr_mono (fg_X7_sumLess__53_31 q1) (by decide))
  obtain rfl := Option.some.inj h
  exact e1
def S_X0_take : fr_S := [(55, 55, some 8), (60, 60, none)]
theorem fg_X0_take {w : rf_w} {m : rf_m} {a1 : Int32} {r : (Int32 × rf_m)} (h : g_X0_take w m a1 = some r) : fr S_X0_take m r.2 := by
  unfold g_X0_take at h
  rcases rf_ite_some h with ⟨_, h⟩ | ⟨_, h⟩
  · obtain rfl := Option.some.inj h
    exact (fr_refl _ m)
  · rcases rf_ite_some h with ⟨_, h⟩ | ⟨_, h⟩
    · obtain ⟨_, h⟩ := rf_g_some h
      obtain rfl := Option.some.inj h
      exact fr_i (fr_i ((fr_refl _ m)) (fr_c_in (by decide) _)) (by decide)
    · obtain rfl := Option.some.inj h
      exact (fr_refl _ m)
def S_X7_turnOf : fr_S := []
theorem fg_X7_turnOf {w : rf_w} {m : rf_m} {a1 : Int32} {a2 : Int32} {r : (Int32 × rf_m)} (h : g_X7_turnOf w m a1 a2 = some r) : fr S_X7_turnOf m r.2 := by
  unfold g_X7_turnOf at h
  obtain ⟨_, h⟩ := rf_g_some h
  obtain rfl := Option.some.inj h
  exact (fr_refl _ m)
def S_X7_sumLess__51_31 : fr_S := []
theorem fg_X7_sumLess__51_31_6_b {w : rf_w} {rec6 : Int32 → Int32 → Int32 → Int32 → Int32 → rf_m → Option (Int32 × rf_m)} {a1 : Int32} {a2 : Int32} {a4 : Int32} {a5 : Int32} {a6 : Int32} {m : rf_m} (hr_rec6 : ∀ {x0 : Int32} {x1 : Int32} {x2 : Int32} {x3 : Int32} {x4 : Int32} {m : rf_m} {r : (Int32 × rf_m)}, rec6 x0 x1 x2 x3 x4 m = some r → fr S_X7_sumLess__51_31 m r.2) {r : (Int32 × rf_m)} (h : g_X7_sumLess__51_31_6_b w rec6 a1 a2 a4 a5 a6 m = some r) : fr S_X7_sumLess__51_31 m r.2 := by
  unfold g_X7_sumLess__51_31_6_b at h
  rcases rf_ite_some h with ⟨_, h⟩ | ⟨_, h⟩
  · obtain rfl := Option.some.inj h
    exact (fr_refl _ m)
  · obtain ⟨_, h⟩ := rf_g_some h
    obtain ⟨_, h⟩ := rf_g_some h
    rcases rf_ite_some h with ⟨_, h⟩ | ⟨_, h⟩
    · obtain ⟨_, h⟩ := rf_g_some h
      obtain ⟨_, h⟩ := rf_g_some h
      have h := fr_vi h
      exact fr_trans ((fr_refl _ m)) (hr_rec6 h)
    · obtain rfl := Option.some.inj h
      exact (fr_refl _ m)
theorem fg_X7_sumLess__51_31_6 {w : rf_w} (n : Nat) : ∀ {a1 : Int32} {a2 : Int32} {a4 : Int32} {a5 : Int32} {a6 : Int32} {m : rf_m} {r : (Int32 × rf_m)}, g_X7_sumLess__51_31_6 w n a1 a2 a4 a5 a6 m = some r → fr S_X7_sumLess__51_31 m r.2 := by
  induction n with
  | zero => intro a1 a2 a4 a5 a6 m r h; cases h
  | succ n ih =>
    intro a1 a2 a4 a5 a6 m r h
    exact fg_X7_sumLess__51_31_6_b ih h
theorem fg_X7_sumLess__51_31 {w : rf_w} {m : rf_m} {a1 : Int32} {a2 : Int32} {a4 : Int32} {r : (Int32 × rf_m)} (h : g_X7_sumLess__51_31 w m a1 a2 a4 = some r) : fr S_X7_sumLess__51_31 m r.2 := by
  unfold g_X7_sumLess__51_31 at h
  exact fr_trans ((fr_refl _ m)) (fr_mono (fg_X7_sumLess__51_31_6 _ h) (by decide))
def S_X7_triangleMiss__31 : fr_S := []
theorem fg_X7_triangleMiss__31 {w : rf_w} {m : rf_m} {a1 : Int32} {r : (Int32 × rf_m)} (h : g_X7_triangleMiss__31 w m a1 = some r) : fr S_X7_triangleMiss__31 m r.2 := by
  unfold g_X7_triangleMiss__31 at h
  obtain ⟨_, h⟩ := rf_g_some h
  obtain ⟨y1, m1, q1, h⟩ := rf_b_some h
  have e1 : fr S_X7_triangleMiss__31 m m1 := fr_trans ((fr_refl _ m)) (fr_mono (fg_X7_sumLess__51_31 q1) (by decide))
  obtain rfl := Option.some.inj h
  exact e1
def S_X7_cornerOf : fr_S := []
theorem fg_X7_cornerOf {w : rf_w} {m : rf_m} {a1 : Int32} {a2 : Int32} {r : (Int32 × rf_m)} (h : g_X7_cornerOf w m a1 a2 = some r) : fr S_X7_cornerOf m r.2 := by
  unfold g_X7_cornerOf at h
  obtain ⟨_, h⟩ := rf_g_some h
  obtain rfl := Option.some.inj h
  exact (fr_refl _ m)
def S_J7_fill_53178__56 : fr_S := [(56, 56, none)]
theorem fg_J7_fill_53178__56_5_b {w : rf_w} {rec5 : Int32 → Int32 → Int32 → rf_m → Option (rf_m)} {a1 : Int32} {a2 : Int32} {a3 : Int32} {m : rf_m} (hr_rec5 : ∀ {x0 : Int32} {x1 : Int32} {x2 : Int32} {m : rf_m} {r : (rf_m)}, rec5 x0 x1 x2 m = some r → fr S_J7_fill_53178__56 m r) {r : (rf_m)} (h : g_J7_fill_53178__56_5_b w rec5 a1 a2 a3 m = some r) : fr S_J7_fill_53178__56 m r := by
  unfold g_J7_fill_53178__56_5_b at h
  rcases rf_ite_some h with ⟨_, h⟩ | ⟨_, h⟩
  · obtain rfl := Option.some.inj h
    exact (fr_refl _ m)
  · obtain ⟨_, h⟩ := rf_g_some h
    exact fr_trans (fr_i ((fr_refl _ m)) (fr_c_in (by decide) _)) (hr_rec5 h)
theorem fg_J7_fill_53178__56_5 {w : rf_w} (n : Nat) : ∀ {a1 : Int32} {a2 : Int32} {a3 : Int32} {m : rf_m} {r : (rf_m)}, g_J7_fill_53178__56_5 w n a1 a2 a3 m = some r → fr S_J7_fill_53178__56 m r := by
  induction n with
  | zero => intro a1 a2 a3 m r h; cases h
  | succ n ih =>
    intro a1 a2 a3 m r h
    exact fg_J7_fill_53178__56_5_b ih h
theorem fg_J7_fill_53178__56 {w : rf_w} {m : rf_m} {a1 : Int32} {r : (rf_m)} (h : g_J7_fill_53178__56 w m a1 = some r) : fr S_J7_fill_53178__56 m r := by
  unfold g_J7_fill_53178__56 at h
  exact fr_trans ((fr_refl _ m)) (fr_mono (fg_J7_fill_53178__56_5 _ h) (by decide))
def S_X0_gather : fr_S := [(55, 55, some 8), (56, 56, none), (60, 60, none)]
theorem fg_X0_gather_194 {w : rf_w} {rec105 : Int32 → Int32 → rf_m → Option (Int32 × rf_m)} {a2 : Int32} {a3 : Int32} {m : rf_m} (hr_rec105 : ∀ {x0 : Int32} {x1 : Int32} {m : rf_m} {r : (Int32 × rf_m)}, rec105 x0 x1 m = some r → fr S_X0_gather m r.2) {r : (Int32 × rf_m)} (h : g_X0_gather_194 w rec105 a2 a3 m = some r) : fr S_X0_gather m r.2 := by
  unfold g_X0_gather_194 at h
  exact fr_trans ((fr_refl _ m)) (hr_rec105 h)
theorem fg_X0_gather_127_b {w : rf_w} {rec105 : Int32 → Int32 → rf_m → Option (Int32 × rf_m)} {rec127 : Int32 → Int32 → Int32 → rf_m → Option (Int32 × rf_m)} {a2 : Int32} {a3 : Int32} {a4 : Int32} {m : rf_m} (hr_rec105 : ∀ {x0 : Int32} {x1 : Int32} {m : rf_m} {r : (Int32 × rf_m)}, rec105 x0 x1 m = some r → fr S_X0_gather m r.2) (hr_rec127 : ∀ {x0 : Int32} {x1 : Int32} {x2 : Int32} {m : rf_m} {r : (Int32 × rf_m)}, rec127 x0 x1 x2 m = some r → fr S_X0_gather m r.2) {r : (Int32 × rf_m)} (h : g_X0_gather_127_b w rec105 rec127 a2 a3 a4 m = some r) : fr S_X0_gather m r.2 := by
  unfold g_X0_gather_127_b at h
  obtain ⟨y0, m0, q1, h⟩ := rf_b_some h
  have e1 : fr S_X0_gather m m0 := fr_trans ((fr_refl _ m)) (fr_mono (fg_X7_turnsIn q1) (by decide))
  rcases rf_ite_some h with ⟨_, h⟩ | ⟨_, h⟩
  · obtain ⟨y1, m1, q2, h⟩ := rf_b_some h
    have e2 : fr S_X0_gather m m1 := fr_trans e1 (fr_mono (fg_X7_roundMiss__31 q2) (by decide))
    obtain ⟨y2, m2, q3, h⟩ := rf_b_some h
    have e3 : fr S_X0_gather m m2 := fr_trans e2 (fr_mono (fg_X0_take q3) (by decide))
    rcases rf_ite_some h with ⟨_, h⟩ | ⟨_, h⟩
    · obtain rfl := Option.some.inj h
      exact e3
    · exact fr_trans e3 (fr_mono (fg_X0_gather_194 hr_rec105 h) (by decide))
  · obtain ⟨y3, m3, q4, h⟩ := rf_b_some h
    have e4 : fr S_X0_gather m m3 := fr_trans e1 (fr_mono (fg_X7_turnOf q4) (by decide))
    obtain ⟨_, h⟩ := rf_g_some h
    obtain ⟨_, h⟩ := rf_g_some h
    exact fr_trans (fr_i e4 (fr_c_in (by decide) _)) (hr_rec127 h)
theorem fg_X0_gather_127 {w : rf_w} {rec105 : Int32 → Int32 → rf_m → Option (Int32 × rf_m)} (hr_rec105 : ∀ {x0 : Int32} {x1 : Int32} {m : rf_m} {r : (Int32 × rf_m)}, rec105 x0 x1 m = some r → fr S_X0_gather m r.2) (n : Nat) : ∀ {a2 : Int32} {a3 : Int32} {a4 : Int32} {m : rf_m} {r : (Int32 × rf_m)}, g_X0_gather_127 w rec105 n a2 a3 a4 m = some r → fr S_X0_gather m r.2 := by
  induction n with
  | zero => intro a2 a3 a4 m r h; cases h
  | succ n ih =>
    intro a2 a3 a4 m r h
    exact fg_X0_gather_127_b hr_rec105 ih h
theorem fg_X0_gather_105_b {w : rf_w} {rec105 : Int32 → Int32 → rf_m → Option (Int32 × rf_m)} {a2 : Int32} {a3 : Int32} {m : rf_m} (hr_rec105 : ∀ {x0 : Int32} {x1 : Int32} {m : rf_m} {r : (Int32 × rf_m)}, rec105 x0 x1 m = some r → fr S_X0_gather m r.2) {r : (Int32 × rf_m)} (h : g_X0_gather_105_b w rec105 a2 a3 m = some r) : fr S_X0_gather m r.2 := by
  unfold g_X0_gather_105_b at h
  rcases rf_ite_some h with ⟨_, h⟩ | ⟨_, h⟩
  · obtain rfl := Option.some.inj h
    exact (fr_refl _ m)
  · rcases rf_ite_some h with ⟨_, h⟩ | ⟨_, h⟩
    · exact fr_trans ((fr_refl _ m)) (fr_mono (fg_X0_gather_194 hr_rec105 h) (by decide))
    · exact fr_trans ((fr_refl _ m)) (fr_mono (fg_X0_gather_127 hr_rec105 _ h) (by decide))
theorem fg_X0_gather_105 {w : rf_w} (n : Nat) : ∀ {a2 : Int32} {a3 : Int32} {m : rf_m} {r : (Int32 × rf_m)}, g_X0_gather_105 w n a2 a3 m = some r → fr S_X0_gather m r.2 := by
  induction n with
  | zero => intro a2 a3 m r h; cases h
  | succ n ih =>
    intro a2 a3 m r h
    exact fg_X0_gather_105_b ih h
theorem fg_X0_gather_97 {w : rf_w} {rec15 : Int32 → Int32 → Int32 → rf_m → Option (Int32 × rf_m)} {a1 : Int32} {a2 : Int32} {a3 : Int32} {m : rf_m} (hr_rec15 : ∀ {x0 : Int32} {x1 : Int32} {x2 : Int32} {m : rf_m} {r : (Int32 × rf_m)}, rec15 x0 x1 x2 m = some r → fr S_X0_gather m r.2) {r : (Int32 × rf_m)} (h : g_X0_gather_97 w rec15 a1 a2 a3 m = some r) : fr S_X0_gather m r.2 := by
  unfold g_X0_gather_97 at h
  exact fr_trans ((fr_refl _ m)) (hr_rec15 h)
theorem fg_X0_gather_37_b {w : rf_w} {rec15 : Int32 → Int32 → Int32 → rf_m → Option (Int32 × rf_m)} {rec37 : Int32 → Int32 → Int32 → Int32 → rf_m → Option (Int32 × rf_m)} {a1 : Int32} {a2 : Int32} {a3 : Int32} {a4 : Int32} {m : rf_m} (hr_rec15 : ∀ {x0 : Int32} {x1 : Int32} {x2 : Int32} {m : rf_m} {r : (Int32 × rf_m)}, rec15 x0 x1 x2 m = some r → fr S_X0_gather m r.2) (hr_rec37 : ∀ {x0 : Int32} {x1 : Int32} {x2 : Int32} {x3 : Int32} {m : rf_m} {r : (Int32 × rf_m)}, rec37 x0 x1 x2 x3 m = some r → fr S_X0_gather m r.2) {r : (Int32 × rf_m)} (h : g_X0_gather_37_b w rec15 rec37 a1 a2 a3 a4 m = some r) : fr S_X0_gather m r.2 := by
  unfold g_X0_gather_37_b at h
  rcases rf_ite_some h with ⟨_, h⟩ | ⟨_, h⟩
  · obtain ⟨y0, m0, q1, h⟩ := rf_b_some h
    have e1 : fr S_X0_gather m m0 := fr_trans ((fr_refl _ m)) (fr_mono (fg_X7_triangleMiss__31 q1) (by decide))
    obtain ⟨y1, m1, q2, h⟩ := rf_b_some h
    have e2 : fr S_X0_gather m m1 := fr_trans e1 (fr_mono (fg_X0_take q2) (by decide))
    rcases rf_ite_some h with ⟨_, h⟩ | ⟨_, h⟩
    · obtain rfl := Option.some.inj h
      exact e2
    · exact fr_trans e2 (fr_mono (fg_X0_gather_97 hr_rec15 h) (by decide))
  · obtain ⟨y2, m2, q3, h⟩ := rf_b_some h
    have e3 : fr S_X0_gather m m2 := fr_trans ((fr_refl _ m)) (fr_mono (fg_X7_cornerOf q3) (by decide))
    obtain ⟨_, h⟩ := rf_g_some h
    obtain ⟨_, h⟩ := rf_g_some h
    exact fr_trans (fr_i e3 (fr_c_in (by decide) _)) (hr_rec37 h)
theorem fg_X0_gather_37 {w : rf_w} {rec15 : Int32 → Int32 → Int32 → rf_m → Option (Int32 × rf_m)} (hr_rec15 : ∀ {x0 : Int32} {x1 : Int32} {x2 : Int32} {m : rf_m} {r : (Int32 × rf_m)}, rec15 x0 x1 x2 m = some r → fr S_X0_gather m r.2) (n : Nat) : ∀ {a1 : Int32} {a2 : Int32} {a3 : Int32} {a4 : Int32} {m : rf_m} {r : (Int32 × rf_m)}, g_X0_gather_37 w rec15 n a1 a2 a3 a4 m = some r → fr S_X0_gather m r.2 := by
  induction n with
  | zero => intro a1 a2 a3 a4 m r h; cases h
  | succ n ih =>
    intro a1 a2 a3 a4 m r h
    exact fg_X0_gather_37_b hr_rec15 ih h
theorem fg_X0_gather_15_b {w : rf_w} {rec15 : Int32 → Int32 → Int32 → rf_m → Option (Int32 × rf_m)} {a1 : Int32} {a2 : Int32} {a3 : Int32} {m : rf_m} (hr_rec15 : ∀ {x0 : Int32} {x1 : Int32} {x2 : Int32} {m : rf_m} {r : (Int32 × rf_m)}, rec15 x0 x1 x2 m = some r → fr S_X0_gather m r.2) {r : (Int32 × rf_m)} (h : g_X0_gather_15_b w rec15 a1 a2 a3 m = some r) : fr S_X0_gather m r.2 := by
  unfold g_X0_gather_15_b at h
  rcases rf_ite_some h with ⟨_, h⟩ | ⟨_, h⟩
  · exact fr_trans ((fr_refl _ m)) (fr_mono (fg_X0_gather_105 _ h) (by decide))
  · rcases rf_ite_some h with ⟨_, h⟩ | ⟨_, h⟩
    · exact fr_trans ((fr_refl _ m)) (fr_mono (fg_X0_gather_97 hr_rec15 h) (by decide))
    · exact fr_trans ((fr_refl _ m)) (fr_mono (fg_X0_gather_37 hr_rec15 _ h) (by decide))
theorem fg_X0_gather_15 {w : rf_w} (n : Nat) : ∀ {a1 : Int32} {a2 : Int32} {a3 : Int32} {m : rf_m} {r : (Int32 × rf_m)}, g_X0_gather_15 w n a1 a2 a3 m = some r → fr S_X0_gather m r.2 := by
  induction n with
  | zero => intro a1 a2 a3 m r h; cases h
  | succ n ih =>
    intro a1 a2 a3 m r h
    exact fg_X0_gather_15_b ih h
theorem fg_X0_gather {w : rf_w} {m : rf_m} {a1 : Int32} {a2 : Int32} {r : (Int32 × rf_m)} (h : g_X0_gather w m a1 a2 = some r) : fr S_X0_gather m r.2 := by
  unfold g_X0_gather at h
  obtain ⟨m0, q1, h⟩ := rf_bv_some h
  have e1 : fr S_X0_gather m m0 := fr_trans ((fr_refl _ m)) (fr_mono (fg_J7_fill_53178__56 q1) (by decide))
  exact fr_trans (fr_i e1 (by decide)) (fr_mono (fg_X0_gather_15 _ h) (by decide))
def S_J7_fill_53178__18 : fr_S := [(18, 18, none)]
theorem fg_J7_fill_53178__18_5_b {w : rf_w} {rec5 : Int32 → Int32 → Int32 → rf_m → Option (rf_m)} {a1 : Int32} {a2 : Int32} {a3 : Int32} {m : rf_m} (hr_rec5 : ∀ {x0 : Int32} {x1 : Int32} {x2 : Int32} {m : rf_m} {r : (rf_m)}, rec5 x0 x1 x2 m = some r → fr S_J7_fill_53178__18 m r) {r : (rf_m)} (h : g_J7_fill_53178__18_5_b w rec5 a1 a2 a3 m = some r) : fr S_J7_fill_53178__18 m r := by
  unfold g_J7_fill_53178__18_5_b at h
  rcases rf_ite_some h with ⟨_, h⟩ | ⟨_, h⟩
  · obtain rfl := Option.some.inj h
    exact (fr_refl _ m)
  · obtain ⟨_, h⟩ := rf_g_some h
    exact fr_trans (fr_i ((fr_refl _ m)) (fr_c_in (by decide) _)) (hr_rec5 h)
theorem fg_J7_fill_53178__18_5 {w : rf_w} (n : Nat) : ∀ {a1 : Int32} {a2 : Int32} {a3 : Int32} {m : rf_m} {r : (rf_m)}, g_J7_fill_53178__18_5 w n a1 a2 a3 m = some r → fr S_J7_fill_53178__18 m r := by
  induction n with
  | zero => intro a1 a2 a3 m r h; cases h
  | succ n ih =>
    intro a1 a2 a3 m r h
    exact fg_J7_fill_53178__18_5_b ih h
theorem fg_J7_fill_53178__18 {w : rf_w} {m : rf_m} {a1 : Int32} {r : (rf_m)} (h : g_J7_fill_53178__18 w m a1 = some r) : fr S_J7_fill_53178__18 m r := by
  unfold g_J7_fill_53178__18 at h
  exact fr_trans ((fr_refl _ m)) (fr_mono (fg_J7_fill_53178__18_5 _ h) (by decide))
def S_X9_clearFacts : fr_S := [(18, 18, none)]
theorem fg_X9_clearFacts {w : rf_w} {m : rf_m} {r : (rf_m)} (h : g_X9_clearFacts w m = some r) : fr S_X9_clearFacts m r := by
  unfold g_X9_clearFacts at h
  obtain ⟨m0, q1, h⟩ := rf_bv_some h
  have e1 : fr S_X9_clearFacts m m0 := fr_trans ((fr_refl _ m)) (fr_mono (fg_J7_fill_53178__18 q1) (by decide))
  obtain rfl := Option.some.inj h
  exact e1
def S_max : fr_S := []
theorem fg_max {w : rf_w} {m : rf_m} {a0 : Int32} {a1 : Int32} {r : (Int32 × rf_m)} (h : g_max w m a0 a1 = some r) : fr S_max m r.2 := by
  unfold g_max at h
  rcases rf_ite_some h with ⟨_, h⟩ | ⟨_, h⟩
  · obtain rfl := Option.some.inj h
    exact (fr_refl _ m)
  · obtain rfl := Option.some.inj h
    exact (fr_refl _ m)
def S_X3_layOut : fr_S := [(18, 18, none)]
theorem fg_X3_layOut {w : rf_w} {m : rf_m} {a1 : Int32} {r : (rf_m)} (h : g_X3_layOut w m a1 = some r) : fr S_X3_layOut m r := by
  unfold g_X3_layOut at h
  obtain ⟨m0, q1, h⟩ := rf_bv_some h
  have e1 : fr S_X3_layOut m m0 := fr_trans ((fr_refl _ m)) (fr_mono (fg_X9_clearFacts q1) (by decide))
  obtain ⟨_, h⟩ := rf_g_some h
  obtain ⟨_, h⟩ := rf_g_some h
  obtain ⟨y3, m3, q2, h⟩ := rf_b_some h
  have e2 : fr S_X3_layOut m m3 := fr_trans (fr_i e1 (fr_c_in (by decide) _)) (fr_mono (fg_max q2) (by decide))
  obtain ⟨_, h⟩ := rf_g_some h
  obtain ⟨_, h⟩ := rf_g_some h
  obtain rfl := Option.some.inj h
  exact fr_i (fr_i (fr_i e2 (fr_c_in (by decide) _)) (fr_c_in (by decide) _)) (fr_c_in (by decide) _)
def S_X9_isDue : fr_S := []
theorem fg_X9_isDue {w : rf_w} {m : rf_m} {a1 : Int32} {a2 : Int32} {a3 : Int32} {r : (Int32 × rf_m)} (h : g_X9_isDue w m a1 a2 a3 = some r) : fr S_X9_isDue m r.2 := by
  unfold g_X9_isDue at h
  obtain ⟨_, h⟩ := rf_g_some h
  rcases rf_ite_some h with ⟨_, h⟩ | ⟨_, h⟩
  · obtain ⟨_, h⟩ := rf_g_some h
    rcases rf_ite_some h with ⟨_, h⟩ | ⟨_, h⟩
    · obtain rfl := Option.some.inj h
      exact (fr_refl _ m)
    · obtain ⟨_, h⟩ := rf_g_some h
      rcases rf_ite_some h with ⟨_, h⟩ | ⟨_, h⟩
      · obtain rfl := Option.some.inj h
        exact (fr_refl _ m)
      · obtain rfl := Option.some.inj h
        exact (fr_refl _ m)
  · obtain rfl := Option.some.inj h
    exact (fr_refl _ m)
def S_X9_joined : fr_S := []
theorem fg_X9_joined_116 {w : rf_w} {a5 : Int64} {m : rf_m} {r : (Int64 × rf_m)} (h : g_X9_joined_116 w a5 m = some r) : fr S_X9_joined m r.2 := by
  unfold g_X9_joined_116 at h
  rcases rf_ite_some h with ⟨_, h⟩ | ⟨_, h⟩
  · rcases rf_ite_some h with ⟨_, h⟩ | ⟨_, h⟩
    · obtain rfl := Option.some.inj h
      exact (fr_refl _ m)
    · obtain rfl := Option.some.inj h
      exact (fr_refl _ m)
  · obtain rfl := Option.some.inj h
    exact (fr_refl _ m)
theorem fg_X9_joined {w : rf_w} {m : rf_m} {a0 : Int32} {a1 : Int64} {a3 : Int64} {r : (Int64 × rf_m)} (h : g_X9_joined w m a0 a1 a3 = some r) : fr S_X9_joined m r.2 := by
  unfold g_X9_joined at h
  rcases rf_ite_some h with ⟨_, h⟩ | ⟨_, h⟩
  · obtain rfl := Option.some.inj h
    exact (fr_refl _ m)
  · rcases rf_ite_some h with ⟨_, h⟩ | ⟨_, h⟩
    · obtain rfl := Option.some.inj h
      exact (fr_refl _ m)
    · rcases rf_ite_some h with ⟨_, h⟩ | ⟨_, h⟩
      · rcases rf_ite_some h with ⟨_, h⟩ | ⟨_, h⟩
        · obtain rfl := Option.some.inj h
          exact (fr_refl _ m)
        · obtain rfl := Option.some.inj h
          exact (fr_refl _ m)
      · rcases rf_ite_some h with ⟨_, h⟩ | ⟨_, h⟩
        · rcases rf_ite_some h with ⟨_, h⟩ | ⟨_, h⟩
          · obtain rfl := Option.some.inj h
            exact (fr_refl _ m)
          · obtain rfl := Option.some.inj h
            exact (fr_refl _ m)
        · rcases rf_ite_some h with ⟨_, h⟩ | ⟨_, h⟩
          · rcases rf_ite_some h with ⟨_, h⟩ | ⟨_, h⟩
            · obtain rfl := Option.some.inj h
              exact (fr_refl _ m)
            · obtain rfl := Option.some.inj h
              exact (fr_refl _ m)
          · rcases rf_ite_some h with ⟨_, h⟩ | ⟨_, h⟩
            · exact fr_trans ((fr_refl _ m)) (fr_mono (fg_X9_joined_116 h) (by decide))
            · rcases rf_ite_some h with ⟨_, h⟩ | ⟨_, h⟩
              · exact fr_trans ((fr_refl _ m)) (fr_mono (fg_X9_joined_116 h) (by decide))
              · rcases rf_ite_some h with ⟨_, h⟩ | ⟨_, h⟩
                · exact fr_trans ((fr_refl _ m)) (fr_mono (fg_X9_joined_116 h) (by decide))
                · obtain rfl := Option.some.inj h
                  exact (fr_refl _ m)
def S_X9_run : fr_S := [(25, 25, none)]
theorem fg_X9_run_158 {w : rf_w} {rec12 : Int32 → Int32 → Int32 → Int32 → rf_m → Option (Int64 × rf_m)} {a1 : Int32} {a3 : Int32} {a4 : Int32} {a5 : Int32} {m : rf_m} (hr_rec12 : ∀ {x0 : Int32} {x1 : Int32} {x2 : Int32} {x3 : Int32} {m : rf_m} {r : (Int64 × rf_m)}, rec12 x0 x1 x2 x3 m = some r → fr S_X9_run m r.2) {r : (Int64 × rf_m)} (h : g_X9_run_158 w rec12 a1 a3 a4 a5 m = some r) : fr S_X9_run m r.2 := by
  unfold g_X9_run_158 at h
  exact fr_trans ((fr_refl _ m)) (hr_rec12 h)
theorem fg_X9_run_77 {w : rf_w} {rec12 : Int32 → Int32 → Int32 → Int32 → rf_m → Option (Int64 × rf_m)} {a1 : Int32} {a3 : Int32} {a4 : Int32} {a5 : Int32} {s1 : Int32} {s2 : Int64} {m : rf_m} (hr_rec12 : ∀ {x0 : Int32} {x1 : Int32} {x2 : Int32} {x3 : Int32} {m : rf_m} {r : (Int64 × rf_m)}, rec12 x0 x1 x2 x3 m = some r → fr S_X9_run m r.2) {r : (Int64 × rf_m)} (h : g_X9_run_77 w rec12 a1 a3 a4 a5 s1 s2 m = some r) : fr S_X9_run m r.2 := by
  unfold g_X9_run_77 at h
  obtain ⟨_, h⟩ := rf_g_some h
  exact fr_trans (fr_l ((fr_refl _ m)) (fr_c_in (by decide) _)) (fr_mono (fg_X9_run_158 hr_rec12 h) (by decide))
theorem fg_X9_run_12_b {w : rf_w} {rec12 : Int32 → Int32 → Int32 → Int32 → rf_m → Option (Int64 × rf_m)} {a1 : Int32} {a3 : Int32} {a4 : Int32} {a5 : Int32} {m : rf_m} (hr_rec12 : ∀ {x0 : Int32} {x1 : Int32} {x2 : Int32} {x3 : Int32} {m : rf_m} {r : (Int64 × rf_m)}, rec12 x0 x1 x2 x3 m = some r → fr S_X9_run m r.2) {r : (Int64 × rf_m)} (h : g_X9_run_12_b w rec12 a1 a3 a4 a5 m = some r) : fr S_X9_run m r.2 := by
  unfold g_X9_run_12_b at h
  rcases rf_ite_some h with ⟨_, h⟩ | ⟨_, h⟩
  · rcases rf_ite_some h with ⟨_, h⟩ | ⟨_, h⟩
    · obtain rfl := Option.some.inj h
      exact (fr_refl _ m)
    · obtain rfl := Option.some.inj h
      exact (fr_refl _ m)
  · obtain ⟨_, h⟩ := rf_g_some h
    have h := fr_vi h
    rcases rf_ite_some h with ⟨_, h⟩ | ⟨_, h⟩
    · rcases rf_ite_some h with ⟨_, h⟩ | ⟨_, h⟩
      · rcases rf_ite_some h with ⟨_, h⟩ | ⟨_, h⟩
        · exact fr_trans ((fr_refl _ m)) (fr_mono (fg_X9_run_158 hr_rec12 h) (by decide))
        · obtain ⟨_, h⟩ := rf_g_some h
          obtain ⟨_, h⟩ := rf_g_some h
          exact fr_trans (fr_l ((fr_refl _ m)) (fr_c_in (by decide) _)) (fr_mono (fg_X9_run_158 hr_rec12 h) (by decide))
      · rcases rf_ite_some h with ⟨_, h⟩ | ⟨_, h⟩
        · exact fr_trans ((fr_refl _ m)) (fr_mono (fg_X9_run_158 hr_rec12 h) (by decide))
        · obtain ⟨_, h⟩ := rf_g_some h
          obtain ⟨_, h⟩ := rf_g_some h
          obtain ⟨y4, m4, q1, h⟩ := rf_b_some h
          have e1 : fr S_X9_run m m4 := fr_trans ((fr_refl _ m)) (fr_mono (fg_X9_joined q1) (by decide))
          obtain ⟨_, h⟩ := rf_g_some h
          exact fr_trans (fr_l e1 (fr_c_in (by decide) _)) (fr_mono (fg_X9_run_158 hr_rec12 h) (by decide))
    · rcases rf_ite_some h with ⟨_, h⟩ | ⟨_, h⟩
      · exact fr_trans ((fr_refl _ m)) (fr_mono (fg_X9_run_158 hr_rec12 h) (by decide))
      · rcases rf_ite_some h with ⟨_, h⟩ | ⟨_, h⟩
        · obtain ⟨_, h⟩ := rf_g_some h
          exact fr_trans ((fr_refl _ m)) (fr_mono (fg_X9_run_77 hr_rec12 h) (by decide))
        · exact fr_trans ((fr_refl _ m)) (fr_mono (fg_X9_run_77 hr_rec12 h) (by decide))
theorem fg_X9_run_12 {w : rf_w} (n : Nat) : ∀ {a1 : Int32} {a3 : Int32} {a4 : Int32} {a5 : Int32} {m : rf_m} {r : (Int64 × rf_m)}, g_X9_run_12 w n a1 a3 a4 a5 m = some r → fr S_X9_run m r.2 := by
  induction n with
  | zero => intro a1 a3 a4 a5 m r h; cases h
  | succ n ih =>
    intro a1 a3 a4 a5 m r h
    exact fg_X9_run_12_b ih h
theorem fg_X9_run {w : rf_w} {m : rf_m} {a1 : Int32} {a2 : Int32} {a3 : Int32} {r : (Int64 × rf_m)} (h : g_X9_run w m a1 a2 a3 = some r) : fr S_X9_run m r.2 := by
  unfold g_X9_run at h
  exact fr_trans ((fr_refl _ m)) (fr_mono (fg_X9_run_12 _ h) (by decide))
def S_X9_holds : fr_S := [(25, 25, none)]
theorem fg_X9_holds {w : rf_w} {m : rf_m} {a1 : Int32} {r : (Int32 × rf_m)} (h : g_X9_holds w m a1 = some r) : fr S_X9_holds m r.2 := by
  unfold g_X9_holds at h
  obtain ⟨_, h⟩ := rf_g_some h
  obtain ⟨_, h⟩ := rf_g_some h
  rcases rf_ite_some h with ⟨_, h⟩ | ⟨_, h⟩
  · obtain rfl := Option.some.inj h
    exact (fr_refl _ m)
  · obtain ⟨_, h⟩ := rf_g_some h
    obtain ⟨_, h⟩ := rf_g_some h
    obtain ⟨y4, m4, q1, h⟩ := rf_b_some h
    have e1 : fr S_X9_holds m m4 := fr_trans ((fr_refl _ m)) (fr_mono (fg_X9_run q1) (by decide))
    rcases rf_ite_some h with ⟨_, h⟩ | ⟨_, h⟩
    · obtain rfl := Option.some.inj h
      exact e1
    · obtain rfl := Option.some.inj h
      exact e1
def S_X9_total : fr_S := [(25, 25, none)]
theorem fg_X9_total {w : rf_w} {m : rf_m} {a1 : Int32} {r : (Int32 × rf_m)} (h : g_X9_total w m a1 = some r) : fr S_X9_total m r.2 := by
  unfold g_X9_total at h
  obtain ⟨_, h⟩ := rf_g_some h
  obtain ⟨y1, m1, q1, h⟩ := rf_b_some h
  have e1 : fr S_X9_total m m1 := fr_trans ((fr_refl _ m)) (fr_mono (fg_X9_run q1) (by decide))
  obtain rfl := Option.some.inj h
  exact e1
def S_min : fr_S := []
theorem fg_min {w : rf_w} {m : rf_m} {a0 : Int32} {a1 : Int32} {r : (Int32 × rf_m)} (h : g_min w m a0 a1 = some r) : fr S_min m r.2 := by
  unfold g_min at h
  rcases rf_ite_some h with ⟨_, h⟩ | ⟨_, h⟩
  · obtain rfl := Option.some.inj h
    exact (fr_refl _ m)
  · obtain rfl := Option.some.inj h
    exact (fr_refl _ m)
def S_X9_weight : fr_S := [(25, 25, none)]
theorem fg_X9_weight_43 {w : rf_w} {rec2 : Int32 → Int32 → rf_m → Option (Int32 × rf_m)} {a1 : Int32} {a2 : Int32} {m : rf_m} (hr_rec2 : ∀ {x0 : Int32} {x1 : Int32} {m : rf_m} {r : (Int32 × rf_m)}, rec2 x0 x1 m = some r → fr S_X9_weight m r.2) {r : (Int32 × rf_m)} (h : g_X9_weight_43 w rec2 a1 a2 m = some r) : fr S_X9_weight m r.2 := by
  unfold g_X9_weight_43 at h
  exact fr_trans ((fr_refl _ m)) (hr_rec2 h)
theorem fg_X9_weight_2_b {w : rf_w} {rec2 : Int32 → Int32 → rf_m → Option (Int32 × rf_m)} {a1 : Int32} {a2 : Int32} {m : rf_m} (hr_rec2 : ∀ {x0 : Int32} {x1 : Int32} {m : rf_m} {r : (Int32 × rf_m)}, rec2 x0 x1 m = some r → fr S_X9_weight m r.2) {r : (Int32 × rf_m)} (h : g_X9_weight_2_b w rec2 a1 a2 m = some r) : fr S_X9_weight m r.2 := by
  unfold g_X9_weight_2_b at h
  rcases rf_ite_some h with ⟨_, h⟩ | ⟨_, h⟩
  · obtain rfl := Option.some.inj h
    exact (fr_refl _ m)
  · obtain ⟨y0, m0, q1, h⟩ := rf_b_some h
    have e1 : fr S_X9_weight m m0 := fr_trans ((fr_refl _ m)) (fr_mono (fg_X9_isDue q1) (by decide))
    rcases rf_ite_some h with ⟨_, h⟩ | ⟨_, h⟩
    · exact fr_trans e1 (fr_mono (fg_X9_weight_43 hr_rec2 h) (by decide))
    · obtain ⟨y1, m1, q2, h⟩ := rf_b_some h
      have e2 : fr S_X9_weight m m1 := fr_trans e1 (fr_mono (fg_X9_holds q2) (by decide))
      rcases rf_ite_some h with ⟨_, h⟩ | ⟨_, h⟩
      · exact fr_trans e2 (fr_mono (fg_X9_weight_43 hr_rec2 h) (by decide))
      · obtain ⟨y2, m2, q3, h⟩ := rf_b_some h
        have e3 : fr S_X9_weight m m2 := fr_trans e2 (fr_mono (fg_X9_total q3) (by decide))
        obtain ⟨y3, m3, q4, h⟩ := rf_b_some h
        have e4 : fr S_X9_weight m m3 := fr_trans e3 (fr_mono (fg_min q4) (by decide))
        obtain ⟨y4, m4, q5, h⟩ := rf_b_some h
        have e5 : fr S_X9_weight m m4 := fr_trans e4 (fr_mono (fg_max q5) (by decide))
        obtain rfl := Option.some.inj h
        exact e5
theorem fg_X9_weight_2 {w : rf_w} (n : Nat) : ∀ {a1 : Int32} {a2 : Int32} {m : rf_m} {r : (Int32 × rf_m)}, g_X9_weight_2 w n a1 a2 m = some r → fr S_X9_weight m r.2 := by
  induction n with
  | zero => intro a1 a2 m r h; cases h
  | succ n ih =>
    intro a1 a2 m r h
    exact fg_X9_weight_2_b ih h
theorem fg_X9_weight {w : rf_w} {m : rf_m} {a1 : Int32} {r : (Int32 × rf_m)} (h : g_X9_weight w m a1 = some r) : fr S_X9_weight m r.2 := by
  unfold g_X9_weight at h
  exact fr_trans ((fr_refl _ m)) (fr_mono (fg_X9_weight_2 _ h) (by decide))
def S_X3_weightOf : fr_S := [(18, 18, none), (25, 25, none)]
theorem fg_X3_weightOf {w : rf_w} {m : rf_m} {a1 : Int32} {a2 : Int32} {r : (Int32 × rf_m)} (h : g_X3_weightOf w m a1 a2 = some r) : fr S_X3_weightOf m r.2 := by
  unfold g_X3_weightOf at h
  obtain ⟨m0, q1, h⟩ := rf_bv_some h
  have e1 : fr S_X3_weightOf m m0 := fr_trans ((fr_refl _ m)) (fr_mono (fg_X3_layOut q1) (by decide))
  obtain ⟨y1, m1, q2, h⟩ := rf_b_some h
  have e2 : fr S_X3_weightOf m m1 := fr_trans e1 (fr_mono (fg_X9_weight q2) (by decide))
  obtain rfl := Option.some.inj h
  exact e2
def S_X0_weigh : fr_S := [(18, 18, none), (25, 25, none), (57, 57, none)]
theorem fg_X0_weigh_56 {w : rf_w} {rec2 : Int32 → Int32 → rf_m → Option (rf_m)} {a1 : Int32} {a2 : Int32} {s1 : Int32} {s2 : Int32} {m : rf_m} (hr_rec2 : ∀ {x0 : Int32} {x1 : Int32} {m : rf_m} {r : (rf_m)}, rec2 x0 x1 m = some r → fr S_X0_weigh m r) {r : (rf_m)} (h : g_X0_weigh_56 w rec2 a1 a2 s1 s2 m = some r) : fr S_X0_weigh m r := by
  unfold g_X0_weigh_56 at h
  obtain ⟨_, h⟩ := rf_g_some h
  exact fr_trans (fr_i ((fr_refl _ m)) (fr_c_in (by decide) _)) (hr_rec2 h)
theorem fg_X0_weigh_35 {w : rf_w} {rec2 : Int32 → Int32 → rf_m → Option (rf_m)} {a1 : Int32} {a2 : Int32} {s0 : Int32} {m : rf_m} (hr_rec2 : ∀ {x0 : Int32} {x1 : Int32} {m : rf_m} {r : (rf_m)}, rec2 x0 x1 m = some r → fr S_X0_weigh m r) {r : (rf_m)} (h : g_X0_weigh_35 w rec2 a1 a2 s0 m = some r) : fr S_X0_weigh m r := by
  unfold g_X0_weigh_35 at h
  rcases rf_ite_some h with ⟨_, h⟩ | ⟨_, h⟩
  · exact fr_trans ((fr_refl _ m)) (fr_mono (fg_X0_weigh_56 hr_rec2 h) (by decide))
  · obtain ⟨_, h⟩ := rf_g_some h
    exact fr_trans ((fr_refl _ m)) (fr_mono (fg_X0_weigh_56 hr_rec2 h) (by decide))
theorem fg_X0_weigh_2_b {w : rf_w} {rec2 : Int32 → Int32 → rf_m → Option (rf_m)} {a1 : Int32} {a2 : Int32} {m : rf_m} (hr_rec2 : ∀ {x0 : Int32} {x1 : Int32} {m : rf_m} {r : (rf_m)}, rec2 x0 x1 m = some r → fr S_X0_weigh m r) {r : (rf_m)} (h : g_X0_weigh_2_b w rec2 a1 a2 m = some r) : fr S_X0_weigh m r := by
  unfold g_X0_weigh_2_b at h
  rcases rf_ite_some h with ⟨_, h⟩ | ⟨_, h⟩
  · obtain rfl := Option.some.inj h
    exact (fr_refl _ m)
  · obtain ⟨_, h⟩ := rf_g_some h
    rcases rf_ite_some h with ⟨_, h⟩ | ⟨_, h⟩
    · exact fr_trans ((fr_refl _ m)) (fr_mono (fg_X0_weigh_35 hr_rec2 h) (by decide))
    · obtain ⟨y1, m1, q1, h⟩ := rf_b_some h
      have e1 : fr S_X0_weigh m m1 := fr_trans ((fr_refl _ m)) (fr_mono (fg_X3_weightOf q1) (by decide))
      exact fr_trans e1 (fr_mono (fg_X0_weigh_35 hr_rec2 h) (by decide))
theorem fg_X0_weigh_2 {w : rf_w} (n : Nat) : ∀ {a1 : Int32} {a2 : Int32} {m : rf_m} {r : (rf_m)}, g_X0_weigh_2 w n a1 a2 m = some r → fr S_X0_weigh m r := by
  induction n with
  | zero => intro a1 a2 m r h; cases h
  | succ n ih =>
    intro a1 a2 m r h
    exact fg_X0_weigh_2_b ih h
theorem fg_X0_weigh {w : rf_w} {m : rf_m} {a1 : Int32} {r : (rf_m)} (h : g_X0_weigh w m a1 = some r) : fr S_X0_weigh m r := by
  unfold g_X0_weigh at h
  exact fr_trans ((fr_refl _ m)) (fr_mono (fg_X0_weigh_2 _ h) (by decide))
def S_X1_compareSize : fr_S := []
theorem fg_X1_compareSize_28_b {w : rf_w} {rec28 : Nat → Nat → Int32 → rf_m → Option (Int32 × rf_m)} {a0 : Nat} {a1 : Nat} {a2 : Int32} {m : rf_m} (hr_rec28 : ∀ {x0 : Nat} {x1 : Nat} {x2 : Int32} {m : rf_m} {r : (Int32 × rf_m)}, rec28 x0 x1 x2 m = some r → fr S_X1_compareSize m r.2) {r : (Int32 × rf_m)} (h : g_X1_compareSize_28_b w rec28 a0 a1 a2 m = some r) : fr S_X1_compareSize m r.2 := by
  unfold g_X1_compareSize_28_b at h
  obtain ⟨_, h⟩ := rf_g_some h
  obtain ⟨_, h⟩ := rf_g_some h
  obtain ⟨_, h⟩ := rf_g_some h
  obtain ⟨_, h⟩ := rf_g_some h
  obtain ⟨_, h⟩ := rf_g_some h
  obtain ⟨_, h⟩ := rf_g_some h
  rcases rf_ite_some h with ⟨_, h⟩ | ⟨_, h⟩
  · obtain rfl := Option.some.inj h
    exact (fr_refl _ m)
  · obtain ⟨_, h⟩ := rf_g_some h
    obtain ⟨_, h⟩ := rf_g_some h
    rcases rf_ite_some h with ⟨_, h⟩ | ⟨_, h⟩
    · exact fr_trans ((fr_refl _ m)) (hr_rec28 h)
    · obtain ⟨_, h⟩ := rf_g_some h
      obtain ⟨_, h⟩ := rf_g_some h
      rcases rf_ite_some h with ⟨_, h⟩ | ⟨_, h⟩
      · obtain rfl := Option.some.inj h
        exact (fr_refl _ m)
      · obtain rfl := Option.some.inj h
        exact (fr_refl _ m)
theorem fg_X1_compareSize_28 {w : rf_w} (n : Nat) : ∀ {a0 : Nat} {a1 : Nat} {a2 : Int32} {m : rf_m} {r : (Int32 × rf_m)}, g_X1_compareSize_28 w n a0 a1 a2 m = some r → fr S_X1_compareSize m r.2 := by
  induction n with
  | zero => intro a0 a1 a2 m r h; cases h
  | succ n ih =>
    intro a0 a1 a2 m r h
    exact fg_X1_compareSize_28_b ih h
theorem fg_X1_compareSize {w : rf_w} {m : rf_m} {a0 : Nat} {a1 : Nat} {r : (Int32 × rf_m)} (h : g_X1_compareSize w m a0 a1 = some r) : fr S_X1_compareSize m r.2 := by
  unfold g_X1_compareSize at h
  obtain ⟨_, h⟩ := rf_g_some h
  obtain ⟨_, h⟩ := rf_g_some h
  obtain ⟨_, h⟩ := rf_g_some h
  obtain ⟨_, h⟩ := rf_g_some h
  obtain ⟨_, h⟩ := rf_g_some h
  obtain ⟨_, h⟩ := rf_g_some h
  rcases rf_ite_some h with ⟨_, h⟩ | ⟨_, h⟩
  · exact fr_trans ((fr_refl _ m)) (fr_mono (fg_X1_compareSize_28 _ h) (by decide))
  · obtain rfl := Option.some.inj h
    exact (fr_refl _ m)
def S_minL : fr_S := []
theorem fg_minL {w : rf_w} {m : rf_m} {a0 : Int64} {a2 : Int64} {r : (Int64 × rf_m)} (h : g_minL w m a0 a2 = some r) : fr S_minL m r.2 := by
  unfold g_minL at h
  rcases rf_ite_some h with ⟨_, h⟩ | ⟨_, h⟩
  · obtain rfl := Option.some.inj h
    exact (fr_refl _ m)
  · obtain rfl := Option.some.inj h
    exact (fr_refl _ m)
def S_J6_numberOfLeadingZeros_0f7a4 : fr_S := []
theorem fg_J6_numberOfLeadingZeros_0f7a4_61 {w : rf_w} {a0 : Int32} {a1 : Int32} {m : rf_m} {r : (Int32 × rf_m)} (h : g_J6_numberOfLeadingZeros_0f7a4_61 w a0 a1 m = some r) : fr S_J6_numberOfLeadingZeros_0f7a4 m r.2 := by
  unfold g_J6_numberOfLeadingZeros_0f7a4_61 at h
  rcases rf_ite_some h with ⟨_, h⟩ | ⟨_, h⟩
  · obtain rfl := Option.some.inj h
    exact (fr_refl _ m)
  · have h := fr_vi h
    obtain rfl := Option.some.inj h
    exact (fr_refl _ m)
theorem fg_J6_numberOfLeadingZeros_0f7a4_48 {w : rf_w} {a0 : Int32} {a1 : Int32} {m : rf_m} {r : (Int32 × rf_m)} (h : g_J6_numberOfLeadingZeros_0f7a4_48 w a0 a1 m = some r) : fr S_J6_numberOfLeadingZeros_0f7a4 m r.2 := by
  unfold g_J6_numberOfLeadingZeros_0f7a4_48 at h
  rcases rf_ite_some h with ⟨_, h⟩ | ⟨_, h⟩
  · exact fr_trans ((fr_refl _ m)) (fr_mono (fg_J6_numberOfLeadingZeros_0f7a4_61 h) (by decide))
  · have h := fr_vi h
    exact fr_trans ((fr_refl _ m)) (fr_mono (fg_J6_numberOfLeadingZeros_0f7a4_61 h) (by decide))
theorem fg_J6_numberOfLeadingZeros_0f7a4_33 {w : rf_w} {a0 : Int32} {a1 : Int32} {m : rf_m} {r : (Int32 × rf_m)} (h : g_J6_numberOfLeadingZeros_0f7a4_33 w a0 a1 m = some r) : fr S_J6_numberOfLeadingZeros_0f7a4 m r.2 := by
  unfold g_J6_numberOfLeadingZeros_0f7a4_33 at h
  rcases rf_ite_some h with ⟨_, h⟩ | ⟨_, h⟩
  · exact fr_trans ((fr_refl _ m)) (fr_mono (fg_J6_numberOfLeadingZeros_0f7a4_48 h) (by decide))
  · have h := fr_vi h
    exact fr_trans ((fr_refl _ m)) (fr_mono (fg_J6_numberOfLeadingZeros_0f7a4_48 h) (by decide))
theorem fg_J6_numberOfLeadingZeros_0f7a4 {w : rf_w} {m : rf_m} {a0 : Int32} {r : (Int32 × rf_m)} (h : g_J6_numberOfLeadingZeros_0f7a4 w m a0 = some r) : fr S_J6_numberOfLeadingZeros_0f7a4 m r.2 := by
  unfold g_J6_numberOfLeadingZeros_0f7a4 at h
  rcases rf_ite_some h with ⟨_, h⟩ | ⟨_, h⟩
  · rcases rf_ite_some h with ⟨_, h⟩ | ⟨_, h⟩
    · exact fr_trans ((fr_refl _ m)) (fr_mono (fg_J6_numberOfLeadingZeros_0f7a4_33 h) (by decide))
    · have h := fr_vi h
      exact fr_trans ((fr_refl _ m)) (fr_mono (fg_J6_numberOfLeadingZeros_0f7a4_33 h) (by decide))
  · rcases rf_ite_some h with ⟨_, h⟩ | ⟨_, h⟩
    · obtain rfl := Option.some.inj h
      exact (fr_refl _ m)
    · obtain rfl := Option.some.inj h
      exact (fr_refl _ m)
def S_J13_numberOfLeadingZeros_95d88 : fr_S := []
theorem fg_J13_numberOfLeadingZeros_95d88 {w : rf_w} {m : rf_m} {a0 : Int64} {r : (Int32 × rf_m)} (h : g_J13_numberOfLeadingZeros_95d88 w m a0 = some r) : fr S_J13_numberOfLeadingZeros_95d88 m r.2 := by
  unfold g_J13_numberOfLeadingZeros_95d88 at h
  have h := fr_vi h
  rcases rf_ite_some h with ⟨_, h⟩ | ⟨_, h⟩
  · obtain ⟨y2, m2, q1, h⟩ := rf_b_some h
    have e1 : fr S_J13_numberOfLeadingZeros_95d88 m m2 := fr_trans ((fr_refl _ m)) (fr_mono (fg_J6_numberOfLeadingZeros_0f7a4 q1) (by decide))
    obtain rfl := Option.some.inj h
    exact e1
  · obtain ⟨y1, m1, q2, h⟩ := rf_b_some h
    have e2 : fr S_J13_numberOfLeadingZeros_95d88 m m1 := fr_trans ((fr_refl _ m)) (fr_mono (fg_J6_numberOfLeadingZeros_0f7a4 q2) (by decide))
    obtain rfl := Option.some.inj h
    exact e2
def S_absL : fr_S := []
theorem fg_absL {w : rf_w} {m : rf_m} {a0 : Int64} {r : (Int64 × rf_m)} (h : g_absL w m a0 = some r) : fr S_absL m r.2 := by
  unfold g_absL at h
  rcases rf_ite_some h with ⟨_, h⟩ | ⟨_, h⟩
  · obtain rfl := Option.some.inj h
    exact (fr_refl _ m)
  · obtain rfl := Option.some.inj h
    exact (fr_refl _ m)
def S_X1_isLong : fr_S := []
theorem fg_X1_isLong {w : rf_w} {m : rf_m} {a0 : Nat} {r : (Int32 × rf_m)} (h : g_X1_isLong w m a0 = some r) : fr S_X1_isLong m r.2 := by
  unfold g_X1_isLong at h
  obtain ⟨_, h⟩ := rf_g_some h
  obtain ⟨_, h⟩ := rf_g_some h
  obtain ⟨_, h⟩ := rf_g_some h
  rcases rf_ite_some h with ⟨_, h⟩ | ⟨_, h⟩
  · obtain rfl := Option.some.inj h
    exact (fr_refl _ m)
  · rcases rf_ite_some h with ⟨_, h⟩ | ⟨_, h⟩
    · rcases rf_ite_some h with ⟨_, h⟩ | ⟨_, h⟩
      · obtain rfl := Option.some.inj h
        exact (fr_refl _ m)
      · obtain rfl := Option.some.inj h
        exact (fr_refl _ m)
    · obtain rfl := Option.some.inj h
      exact (fr_refl _ m)
def S_X1_toLong : fr_S := []
theorem fg_X1_toLong_9_b {w : rf_w} {rec9 : Nat → Int64 → Int32 → rf_m → Option (Int64 × rf_m)} {a0 : Nat} {a1 : Int64} {a3 : Int32} {m : rf_m} (hr_rec9 : ∀ {x0 : Nat} {x1 : Int64} {x2 : Int32} {m : rf_m} {r : (Int64 × rf_m)}, rec9 x0 x1 x2 m = some r → fr S_X1_toLong m r.2) {r : (Int64 × rf_m)} (h : g_X1_toLong_9_b w rec9 a0 a1 a3 m = some r) : fr S_X1_toLong m r.2 := by
  unfold g_X1_toLong_9_b at h
  obtain ⟨_, h⟩ := rf_g_some h
  obtain ⟨_, h⟩ := rf_g_some h
  obtain ⟨_, h⟩ := rf_g_some h
  rcases rf_ite_some h with ⟨_, h⟩ | ⟨_, h⟩
  · rcases rf_ite_some h with ⟨_, h⟩ | ⟨_, h⟩
    · obtain rfl := Option.some.inj h
      exact (fr_refl _ m)
    · obtain rfl := Option.some.inj h
      exact (fr_refl _ m)
  · obtain ⟨_, h⟩ := rf_g_some h
    have h := fr_vl h
    exact fr_trans ((fr_refl _ m)) (hr_rec9 h)
theorem fg_X1_toLong_9 {w : rf_w} (n : Nat) : ∀ {a0 : Nat} {a1 : Int64} {a3 : Int32} {m : rf_m} {r : (Int64 × rf_m)}, g_X1_toLong_9 w n a0 a1 a3 m = some r → fr S_X1_toLong m r.2 := by
  induction n with
  | zero => intro a0 a1 a3 m r h; cases h
  | succ n ih =>
    intro a0 a1 a3 m r h
    exact fg_X1_toLong_9_b ih h
theorem fg_X1_toLong {w : rf_w} {m : rf_m} {a0 : Nat} {r : (Int64 × rf_m)} (h : g_X1_toLong w m a0 = some r) : fr S_X1_toLong m r.2 := by
  unfold g_X1_toLong at h
  obtain ⟨_, h⟩ := rf_g_some h
  obtain ⟨_, h⟩ := rf_g_some h
  obtain ⟨_, h⟩ := rf_g_some h
  exact fr_trans ((fr_refl _ m)) (fr_mono (fg_X1_toLong_9 _ h) (by decide))
def S_X0_isShort : fr_S := []
theorem fg_X0_isShort {w : rf_w} {m : rf_m} {a0 : Nat} {r : (Int32 × rf_m)} (h : g_X0_isShort w m a0 = some r) : fr S_X0_isShort m r.2 := by
  unfold g_X0_isShort at h
  obtain ⟨_, h⟩ := rf_g_some h
  obtain ⟨_, h⟩ := rf_g_some h
  obtain ⟨_, h⟩ := rf_g_some h
  obtain ⟨y3, m3, q1, h⟩ := rf_b_some h
  have e1 : fr S_X0_isShort m m3 := fr_trans ((fr_refl _ m)) (fr_mono (fg_X1_isLong q1) (by decide))
  rcases rf_ite_some h with ⟨_, h⟩ | ⟨_, h⟩
  · obtain rfl := Option.some.inj h
    exact e1
  · obtain ⟨y4, m4, q2, h⟩ := rf_b_some h
    have e2 : fr S_X0_isShort m m4 := fr_trans e1 (fr_mono (fg_X1_toLong q2) (by decide))
    obtain ⟨y5, m5, q3, h⟩ := rf_b_some h
    have e3 : fr S_X0_isShort m m5 := fr_trans e2 (fr_mono (fg_absL q3) (by decide))
    rcases rf_ite_some h with ⟨_, h⟩ | ⟨_, h⟩
    · obtain rfl := Option.some.inj h
      exact e3
    · obtain rfl := Option.some.inj h
      exact e3
def S_X2_isSuspect : fr_S := []
theorem fg_X2_isSuspect_2_b {w : rf_w} {rec2 : Int32 → Int32 → rf_m → Option (Int32 × rf_m)} {a1 : Int32} {a2 : Int32} {m : rf_m} (hr_rec2 : ∀ {x0 : Int32} {x1 : Int32} {m : rf_m} {r : (Int32 × rf_m)}, rec2 x0 x1 m = some r → fr S_X2_isSuspect m r.2) {r : (Int32 × rf_m)} (h : g_X2_isSuspect_2_b w rec2 a1 a2 m = some r) : fr S_X2_isSuspect m r.2 := by
  unfold g_X2_isSuspect_2_b at h
  rcases rf_ite_some h with ⟨_, h⟩ | ⟨_, h⟩
  · obtain rfl := Option.some.inj h
    exact (fr_refl _ m)
  · obtain ⟨_, h⟩ := rf_g_some h
    rcases rf_ite_some h with ⟨_, h⟩ | ⟨_, h⟩
    · obtain rfl := Option.some.inj h
      exact (fr_refl _ m)
    · exact fr_trans ((fr_refl _ m)) (hr_rec2 h)
theorem fg_X2_isSuspect_2 {w : rf_w} (n : Nat) : ∀ {a1 : Int32} {a2 : Int32} {m : rf_m} {r : (Int32 × rf_m)}, g_X2_isSuspect_2 w n a1 a2 m = some r → fr S_X2_isSuspect m r.2 := by
  induction n with
  | zero => intro a1 a2 m r h; cases h
  | succ n ih =>
    intro a1 a2 m r h
    exact fg_X2_isSuspect_2_b ih h
theorem fg_X2_isSuspect {w : rf_w} {m : rf_m} {a1 : Int32} {r : (Int32 × rf_m)} (h : g_X2_isSuspect w m a1 = some r) : fr S_X2_isSuspect m r.2 := by
  unfold g_X2_isSuspect at h
  exact fr_trans ((fr_refl _ m)) (fr_mono (fg_X2_isSuspect_2 _ h) (by decide))
def S_X2_addSuspect : fr_S := [(184, 184, some 1), (186, 186, none)]
theorem fg_X2_addSuspect {w : rf_w} {m : rf_m} {a1 : Int32} {r : (Int32 × rf_m)} (h : g_X2_addSuspect w m a1 = some r) : fr S_X2_addSuspect m r.2 := by
  unfold g_X2_addSuspect at h
  obtain ⟨_, h⟩ := rf_g_some h
  obtain rfl := Option.some.inj h
  exact fr_i (fr_i ((fr_refl _ m)) (fr_c_in (by decide) _)) (by decide)
def S_X2_pickNext : fr_S := [(188, 188, none)]
theorem fg_X2_pickNext_39_b {w : rf_w} {rec39 : Int32 → Int32 → rf_m → Option (Int32 × rf_m)} {a1 : Int32} {a3 : Int32} {m : rf_m} (hr_rec39 : ∀ {x0 : Int32} {x1 : Int32} {m : rf_m} {r : (Int32 × rf_m)}, rec39 x0 x1 m = some r → fr S_X2_pickNext m r.2) {r : (Int32 × rf_m)} (h : g_X2_pickNext_39_b w rec39 a1 a3 m = some r) : fr S_X2_pickNext m r.2 := by
  unfold g_X2_pickNext_39_b at h
  rcases rf_ite_some h with ⟨_, h⟩ | ⟨_, h⟩
  · obtain rfl := Option.some.inj h
    exact (fr_refl _ m)
  · obtain ⟨_, h⟩ := rf_g_some h
    obtain ⟨_, h⟩ := rf_g_some h
    exact fr_trans (fr_i ((fr_refl _ m)) (fr_c_in (by decide) _)) (hr_rec39 h)
theorem fg_X2_pickNext_39 {w : rf_w} (n : Nat) : ∀ {a1 : Int32} {a3 : Int32} {m : rf_m} {r : (Int32 × rf_m)}, g_X2_pickNext_39 w n a1 a3 m = some r → fr S_X2_pickNext m r.2 := by
  induction n with
  | zero => intro a1 a3 m r h; cases h
  | succ n ih =>
    intro a1 a3 m r h
    exact fg_X2_pickNext_39_b ih h
theorem fg_X2_pickNext_4_b {w : rf_w} {rec4 : Int32 → Int32 → rf_m → Option (Int32 × rf_m)} {a1 : Int32} {a2 : Int32} {m : rf_m} (hr_rec4 : ∀ {x0 : Int32} {x1 : Int32} {m : rf_m} {r : (Int32 × rf_m)}, rec4 x0 x1 m = some r → fr S_X2_pickNext m r.2) {r : (Int32 × rf_m)} (h : g_X2_pickNext_4_b w rec4 a1 a2 m = some r) : fr S_X2_pickNext m r.2 := by
  unfold g_X2_pickNext_4_b at h
  rcases rf_ite_some h with ⟨_, h⟩ | ⟨_, h⟩
  · obtain rfl := Option.some.inj h
    exact (fr_refl _ m)
  · obtain ⟨_, h⟩ := rf_g_some h
    rcases rf_ite_some h with ⟨_, h⟩ | ⟨_, h⟩
    · exact fr_trans ((fr_refl _ m)) (hr_rec4 h)
    · obtain ⟨_, h⟩ := rf_g_some h
      obtain ⟨_, h⟩ := rf_g_some h
      exact fr_trans (fr_i ((fr_refl _ m)) (fr_c_in (by decide) _)) (fr_mono (fg_X2_pickNext_39 _ h) (by decide))
theorem fg_X2_pickNext_4 {w : rf_w} (n : Nat) : ∀ {a1 : Int32} {a2 : Int32} {m : rf_m} {r : (Int32 × rf_m)}, g_X2_pickNext_4 w n a1 a2 m = some r → fr S_X2_pickNext m r.2 := by
  induction n with
  | zero => intro a1 a2 m r h; cases h
  | succ n ih =>
    intro a1 a2 m r h
    exact fg_X2_pickNext_4_b ih h
theorem fg_X2_pickNext {w : rf_w} {m : rf_m} {a1 : Int32} {r : (Int32 × rf_m)} (h : g_X2_pickNext w m a1 = some r) : fr S_X2_pickNext m r.2 := by
  unfold g_X2_pickNext at h
  exact fr_trans ((fr_refl _ m)) (fr_mono (fg_X2_pickNext_4 _ h) (by decide))
def S_X3_factOf : fr_S := []
theorem fg_X3_factOf {w : rf_w} {m : rf_m} {a1 : Int32} {a2 : Int32} {r : (Int32 × rf_m)} (h : g_X3_factOf w m a1 a2 = some r) : fr S_X3_factOf m r.2 := by
  unfold g_X3_factOf at h
  obtain ⟨_, h⟩ := rf_g_some h
  obtain rfl := Option.some.inj h
  exact (fr_refl _ m)
def S_X3_tallyOf : fr_S := []
theorem fg_X3_tallyOf {w : rf_w} {m : rf_m} {a1 : Int32} {a2 : Int32} {r : (Int32 × rf_m)} (h : g_X3_tallyOf w m a1 a2 = some r) : fr S_X3_tallyOf m r.2 := by
  unfold g_X3_tallyOf at h
  rcases rf_ite_some h with ⟨_, h⟩ | ⟨_, h⟩
  · obtain ⟨_, h⟩ := rf_g_some h
    obtain rfl := Option.some.inj h
    exact (fr_refl _ m)
  · obtain ⟨_, h⟩ := rf_g_some h
    obtain rfl := Option.some.inj h
    exact (fr_refl _ m)
def S_X2_strikesOut : fr_S := [(190, 190, none), (191, 191, none), (192, 192, none)]
theorem fg_X2_strikesOut_135_b {w : rf_w} {rec135 : Int32 → rf_m → Option (Int32 × rf_m)} {a2 : Int32} {m : rf_m} (hr_rec135 : ∀ {x0 : Int32} {m : rf_m} {r : (Int32 × rf_m)}, rec135 x0 m = some r → fr S_X2_strikesOut m r.2) {r : (Int32 × rf_m)} (h : g_X2_strikesOut_135_b w rec135 a2 m = some r) : fr S_X2_strikesOut m r.2 := by
  unfold g_X2_strikesOut_135_b at h
  rcases rf_ite_some h with ⟨_, h⟩ | ⟨_, h⟩
  · obtain rfl := Option.some.inj h
    exact (fr_refl _ m)
  · obtain ⟨_, h⟩ := rf_g_some h
    obtain ⟨y1, m1, q1, h⟩ := rf_b_some h
    have e1 : fr S_X2_strikesOut m m1 := fr_trans ((fr_refl _ m)) (fr_mono (fg_X3_factOf q1) (by decide))
    obtain ⟨_, h⟩ := rf_g_some h
    rcases rf_ite_some h with ⟨_, h⟩ | ⟨_, h⟩
    · obtain ⟨_, h⟩ := rf_g_some h
      obtain ⟨_, h⟩ := rf_g_some h
      obtain ⟨_, h⟩ := rf_g_some h
      obtain ⟨_, h⟩ := rf_g_some h
      exact fr_trans (fr_i e1 (fr_c_in (by decide) _)) (hr_rec135 h)
    · obtain rfl := Option.some.inj h
      exact e1
theorem fg_X2_strikesOut_135 {w : rf_w} (n : Nat) : ∀ {a2 : Int32} {m : rf_m} {r : (Int32 × rf_m)}, g_X2_strikesOut_135 w n a2 m = some r → fr S_X2_strikesOut m r.2 := by
  induction n with
  | zero => intro a2 m r h; cases h
  | succ n ih =>
    intro a2 m r h
    exact fg_X2_strikesOut_135_b ih h
theorem fg_X2_strikesOut_64_b {w : rf_w} {rec64 : Int32 → Int32 → rf_m → Option (Int32 × rf_m)} {a1 : Int32} {a2 : Int32} {m : rf_m} (hr_rec64 : ∀ {x0 : Int32} {x1 : Int32} {m : rf_m} {r : (Int32 × rf_m)}, rec64 x0 x1 m = some r → fr S_X2_strikesOut m r.2) {r : (Int32 × rf_m)} (h : g_X2_strikesOut_64_b w rec64 a1 a2 m = some r) : fr S_X2_strikesOut m r.2 := by
  unfold g_X2_strikesOut_64_b at h
  rcases rf_ite_some h with ⟨_, h⟩ | ⟨_, h⟩
  · exact fr_trans ((fr_refl _ m)) (fr_mono (fg_X2_strikesOut_135 _ h) (by decide))
  · obtain ⟨_, h⟩ := rf_g_some h
    obtain ⟨_, h⟩ := rf_g_some h
    obtain ⟨y2, m2, q1, h⟩ := rf_b_some h
    have e1 : fr S_X2_strikesOut m m2 := fr_trans ((fr_refl _ m)) (fr_mono (fg_X3_factOf q1) (by decide))
    obtain ⟨_, h⟩ := rf_g_some h
    obtain ⟨_, h⟩ := rf_g_some h
    obtain ⟨_, h⟩ := rf_g_some h
    obtain ⟨y6, m6, q2, h⟩ := rf_b_some h
    have e2 : fr S_X2_strikesOut m m6 := fr_trans e1 (fr_mono (fg_X3_factOf q2) (by decide))
    obtain ⟨_, h⟩ := rf_g_some h
    obtain ⟨_, h⟩ := rf_g_some h
    obtain ⟨_, h⟩ := rf_g_some h
    exact fr_trans (fr_i (fr_i e2 (fr_c_in (by decide) _)) (fr_c_in (by decide) _)) (hr_rec64 h)
theorem fg_X2_strikesOut_64 {w : rf_w} (n : Nat) : ∀ {a1 : Int32} {a2 : Int32} {m : rf_m} {r : (Int32 × rf_m)}, g_X2_strikesOut_64 w n a1 a2 m = some r → fr S_X2_strikesOut m r.2 := by
  induction n with
  | zero => intro a1 a2 m r h; cases h
  | succ n ih =>
    intro a1 a2 m r h
    exact fg_X2_strikesOut_64_b ih h
theorem fg_X2_strikesOut_2_b {w : rf_w} {rec2 : Int32 → Int32 → rf_m → Option (Int32 × rf_m)} {a1 : Int32} {a2 : Int32} {m : rf_m} (hr_rec2 : ∀ {x0 : Int32} {x1 : Int32} {m : rf_m} {r : (Int32 × rf_m)}, rec2 x0 x1 m = some r → fr S_X2_strikesOut m r.2) {r : (Int32 × rf_m)} (h : g_X2_strikesOut_2_b w rec2 a1 a2 m = some r) : fr S_X2_strikesOut m r.2 := by
  unfold g_X2_strikesOut_2_b at h
  rcases rf_ite_some h with ⟨_, h⟩ | ⟨_, h⟩
  · exact fr_trans ((fr_refl _ m)) (fr_mono (fg_X2_strikesOut_64 _ h) (by decide))
  · obtain ⟨_, h⟩ := rf_g_some h
    obtain ⟨y1, m1, q1, h⟩ := rf_b_some h
    have e1 : fr S_X2_strikesOut m m1 := fr_trans ((fr_refl _ m)) (fr_mono (fg_X3_factOf q1) (by decide))
    obtain ⟨y2, m2, q2, h⟩ := rf_b_some h
    have e2 : fr S_X2_strikesOut m m2 := fr_trans e1 (fr_mono (fg_X3_tallyOf q2) (by decide))
    obtain ⟨_, h⟩ := rf_g_some h
    obtain ⟨y4, m4, q3, h⟩ := rf_b_some h
    have e3 : fr S_X2_strikesOut m m4 := fr_trans (fr_i e2 (fr_c_in (by decide) _)) (fr_mono (fg_X3_tallyOf q3) (by decide))
    obtain ⟨_, h⟩ := rf_g_some h
    exact fr_trans (fr_i e3 (fr_c_in (by decide) _)) (hr_rec2 h)
theorem fg_X2_strikesOut_2 {w : rf_w} (n : Nat) : ∀ {a1 : Int32} {a2 : Int32} {m : rf_m} {r : (Int32 × rf_m)}, g_X2_strikesOut_2 w n a1 a2 m = some r → fr S_X2_strikesOut m r.2 := by
  induction n with
  | zero => intro a1 a2 m r h; cases h
  | succ n ih =>
    intro a1 a2 m r h
    exact fg_X2_strikesOut_2_b ih h
theorem fg_X2_strikesOut {w : rf_w} {m : rf_m} {a1 : Int32} {r : (Int32 × rf_m)} (h : g_X2_strikesOut w m a1 = some r) : fr S_X2_strikesOut m r.2 := by
  unfold g_X2_strikesOut at h
  exact fr_trans ((fr_refl _ m)) (fr_mono (fg_X2_strikesOut_2 _ h) (by decide))
def S_X7_sumLess__53_192 : fr_S := []
theorem fg_X7_sumLess__53_192_6_b {w : rf_w} {rec6 : Int32 → Int32 → Int32 → Int32 → Int32 → rf_m → Option (Int32 × rf_m)} {a1 : Int32} {a2 : Int32} {a4 : Int32} {a5 : Int32} {a6 : Int32} {m : rf_m} (hr_rec6 : ∀ {x0 : Int32} {x1 : Int32} {x2 : Int32} {x3 : Int32} {x4 : Int32} {m : rf_m} {r : (Int32 × rf_m)}, rec6 x0 x1 x2 x3 x4 m = some r → fr S_X7_sumLess__53_192 m r.2) {r : (Int32 × rf_m)} (h : g_X7_sumLess__53_192_6_b w rec6 a1 a2 a4 a5 a6 m = some r) : fr S_X7_sumLess__53_192 m r.2 := by
  unfold g_X7_sumLess__53_192_6_b at h
  rcases rf_ite_some h with ⟨_, h⟩ | ⟨_, h⟩
  · obtain rfl := Option.some.inj h
    exact (fr_refl _ m)
  · obtain ⟨_, h⟩ := rf_g_some h
    obtain ⟨_, h⟩ := rf_g_some h
    rcases rf_ite_some h with ⟨_, h⟩ | ⟨_, h⟩
    · obtain ⟨_, h⟩ := rf_g_some h
      obtain ⟨_, h⟩ := rf_g_some h
      have h := fr_vi h
      exact fr_trans ((fr_refl _ m)) (hr_rec6 h)
    · obtain rfl := Option.some.inj h
      exact (fr_refl _ m)
theorem fg_X7_sumLess__53_192_6 {w : rf_w} (n : Nat) : ∀ {a1 : Int32} {a2 : Int32} {a4 : Int32} {a5 : Int32} {a6 : Int32} {m : rf_m} {r : (Int32 × rf_m)}, g_X7_sumLess__53_192_6 w n a1 a2 a4 a5 a6 m = some r → fr S_X7_sumLess__53_192 m r.2 := by
  induction n with
  | zero => intro a1 a2 a4 a5 a6 m r h; cases h
  | succ n ih =>
    intro a1 a2 a4 a5 a6 m r h
    exact fg_X7_sumLess__53_192_6_b ih h
theorem fg_X7_sumLess__53_192 {w : rf_w} {m : rf_m} {a1 : Int32} {a2 : Int32} {a4 : Int32} {r : (Int32 × rf_m)} (h : g_X7_sumLess__53_192 w m a1 a2 a4 = some r) : fr S_X7_sumLess__53_192 m r.2 := by
  unfold g_X7_sumLess__53_192 at h
  exact fr_trans ((fr_refl _ m)) (fr_mono (fg_X7_sumLess__53_192_6 _ h) (by decide))
def S_X7_roundMiss__192 : fr_S := []
theorem fg_X7_roundMiss__192 {w : rf_w} {m : rf_m} {a1 : Int32} {r : (Int32 × rf_m)} (h : g_X7_roundMiss__192 w m a1 = some r) : fr S_X7_roundMiss__192 m r.2 := by
  unfold g_X7_roundMiss__192 at h
  obtain ⟨_, h⟩ := rf_g_some h
  obtain ⟨y1, m1, q1, h⟩ := rf_b_some h
  have e1 : fr S_X7_roundMiss__192 m m1 := fr_trans ((fr_refl _ m)) (fr_mono (fg_X7_sumLess__53_192 q1) (by decide))
  obtain rfl := Option.some.inj h
  exact e1
def S_X7_sumLess__51_192 : fr_S := []
theorem fg_X7_sumLess__51_192_6_b {w : rf_w} {rec6 : Int32 → Int32 → Int32 → Int32 → Int32 → rf_m → Option (Int32 × rf_m)} {a1 : Int32} {a2 : Int32} {a4 : Int32} {a5 : Int32} {a6 : Int32} {m : rf_m} (hr_rec6 : ∀ {x0 : Int32} {x1 : Int32} {x2 : Int32} {x3 : Int32} {x4 : Int32} {m : rf_m} {r : (Int32 × rf_m)}, rec6 x0 x1 x2 x3 x4 m = some r → fr S_X7_sumLess__51_192 m r.2) {r : (Int32 × rf_m)} (h : g_X7_sumLess__51_192_6_b w rec6 a1 a2 a4 a5 a6 m = some r) : fr S_X7_sumLess__51_192 m r.2 := by
  unfold g_X7_sumLess__51_192_6_b at h
  rcases rf_ite_some h with ⟨_, h⟩ | ⟨_, h⟩
  · obtain rfl := Option.some.inj h
    exact (fr_refl _ m)
  · obtain ⟨_, h⟩ := rf_g_some h
    obtain ⟨_, h⟩ := rf_g_some h
    rcases rf_ite_some h with ⟨_, h⟩ | ⟨_, h⟩
    · obtain ⟨_, h⟩ := rf_g_some h
      obtain ⟨_, h⟩ := rf_g_some h
      have h := fr_vi h
      exact fr_trans ((fr_refl _ m)) (hr_rec6 h)
    · obtain rfl := Option.some.inj h
      exact (fr_refl _ m)
theorem fg_X7_sumLess__51_192_6 {w : rf_w} (n : Nat) : ∀ {a1 : Int32} {a2 : Int32} {a4 : Int32} {a5 : Int32} {a6 : Int32} {m : rf_m} {r : (Int32 × rf_m)}, g_X7_sumLess__51_192_6 w n a1 a2 a4 a5 a6 m = some r → fr S_X7_sumLess__51_192 m r.2 := by
  induction n with
  | zero => intro a1 a2 a4 a5 a6 m r h; cases h
  | succ n ih =>
    intro a1 a2 a4 a5 a6 m r h
    exact fg_X7_sumLess__51_192_6_b ih h
theorem fg_X7_sumLess__51_192 {w : rf_w} {m : rf_m} {a1 : Int32} {a2 : Int32} {a4 : Int32} {r : (Int32 × rf_m)} (h : g_X7_sumLess__51_192 w m a1 a2 a4 = some r) : fr S_X7_sumLess__51_192 m r.2 := by
  unfold g_X7_sumLess__51_192 at h
  exact fr_trans ((fr_refl _ m)) (fr_mono (fg_X7_sumLess__51_192_6 _ h) (by decide))
def S_X7_triangleMiss__192 : fr_S := []
theorem fg_X7_triangleMiss__192 {w : rf_w} {m : rf_m} {a1 : Int32} {r : (Int32 × rf_m)} (h : g_X7_triangleMiss__192 w m a1 = some r) : fr S_X7_triangleMiss__192 m r.2 := by
  unfold g_X7_triangleMiss__192 at h
  obtain ⟨_, h⟩ := rf_g_some h
  obtain ⟨y1, m1, q1, h⟩ := rf_b_some h
  have e1 : fr S_X7_triangleMiss__192 m m1 := fr_trans ((fr_refl _ m)) (fr_mono (fg_X7_sumLess__51_192 q1) (by decide))
  obtain rfl := Option.some.inj h
  exact e1
def S_X7_missOf__192 : fr_S := []
theorem fg_X7_missOf__192 {w : rf_w} {m : rf_m} {a1 : Int32} {r : (Int32 × rf_m)} (h : g_X7_missOf__192 w m a1 = some r) : fr S_X7_missOf__192 m r.2 := by
  unfold g_X7_missOf__192 at h
  rcases rf_ite_some h with ⟨_, h⟩ | ⟨_, h⟩
  · obtain ⟨y0, m0, q1, h⟩ := rf_b_some h
    have e1 : fr S_X7_missOf__192 m m0 := fr_trans ((fr_refl _ m)) (fr_mono (fg_X7_roundMiss__192 q1) (by decide))
    obtain rfl := Option.some.inj h
    exact e1
  · obtain ⟨y1, m1, q2, h⟩ := rf_b_some h
    have e2 : fr S_X7_missOf__192 m m1 := fr_trans ((fr_refl _ m)) (fr_mono (fg_X7_triangleMiss__192 q2) (by decide))
    obtain rfl := Option.some.inj h
    exact e2
def S_abs : fr_S := []
theorem fg_abs {w : rf_w} {m : rf_m} {a0 : Int32} {r : (Int32 × rf_m)} (h : g_abs w m a0 = some r) : fr S_abs m r.2 := by
  unfold g_abs at h
  rcases rf_ite_some h with ⟨_, h⟩ | ⟨_, h⟩
  · obtain rfl := Option.some.inj h
    exact (fr_refl _ m)
  · obtain rfl := Option.some.inj h
    exact (fr_refl _ m)
def S_X7_isBeyond : fr_S := []
theorem fg_X7_isBeyond {w : rf_w} {m : rf_m} {a0 : Int32} {a1 : Int32} {r : (Int32 × rf_m)} (h : g_X7_isBeyond w m a0 a1 = some r) : fr S_X7_isBeyond m r.2 := by
  unfold g_X7_isBeyond at h
  rcases rf_ite_some h with ⟨_, h⟩ | ⟨_, h⟩
  · obtain rfl := Option.some.inj h
    exact (fr_refl _ m)
  · obtain ⟨y0, m0, q1, h⟩ := rf_b_some h
    have e1 : fr S_X7_isBeyond m m0 := fr_trans ((fr_refl _ m)) (fr_mono (fg_abs q1) (by decide))
    rcases rf_ite_some h with ⟨_, h⟩ | ⟨_, h⟩
    · obtain rfl := Option.some.inj h
      exact e1
    · obtain rfl := Option.some.inj h
      exact e1
def S_X7_isAllWithin__192 : fr_S := [(50, 50, some 7)]
theorem fg_X7_isAllWithin__192_75 {w : rf_w} {rec31 : Int32 → Int32 → Int32 → Int32 → rf_m → Option (Int32 × rf_m)} {a2 : Int32} {a3 : Int32} {a5 : Int32} {s0 : Int32} {m : rf_m} (hr_rec31 : ∀ {x0 : Int32} {x1 : Int32} {x2 : Int32} {x3 : Int32} {m : rf_m} {r : (Int32 × rf_m)}, rec31 x0 x1 x2 x3 m = some r → fr S_X7_isAllWithin__192 m r.2) {r : (Int32 × rf_m)} (h : g_X7_isAllWithin__192_75 w rec31 a2 a3 a5 s0 m = some r) : fr S_X7_isAllWithin__192 m r.2 := by
  unfold g_X7_isAllWithin__192_75 at h
  exact fr_trans ((fr_refl _ m)) (hr_rec31 h)
theorem fg_X7_isAllWithin__192_31_b {w : rf_w} {rec31 : Int32 → Int32 → Int32 → Int32 → rf_m → Option (Int32 × rf_m)} {a2 : Int32} {a3 : Int32} {a4 : Int32} {a5 : Int32} {m : rf_m} (hr_rec31 : ∀ {x0 : Int32} {x1 : Int32} {x2 : Int32} {x3 : Int32} {m : rf_m} {r : (Int32 × rf_m)}, rec31 x0 x1 x2 x3 m = some r → fr S_X7_isAllWithin__192 m r.2) {r : (Int32 × rf_m)} (h : g_X7_isAllWithin__192_31_b w rec31 a2 a3 a4 a5 m = some r) : fr S_X7_isAllWithin__192 m r.2 := by
  unfold g_X7_isAllWithin__192_31_b at h
  rcases rf_ite_some h with ⟨_, h⟩ | ⟨_, h⟩
  · obtain rfl := Option.some.inj h
    exact (fr_refl _ m)
  · obtain ⟨y0, m0, q1, h⟩ := rf_b_some h
    have e1 : fr S_X7_isAllWithin__192 m m0 := fr_trans ((fr_refl _ m)) (fr_mono (fg_X7_missOf__192 q1) (by decide))
    obtain ⟨y1, m1, q2, h⟩ := rf_b_some h
    have e2 : fr S_X7_isAllWithin__192 m m1 := fr_trans e1 (fr_mono (fg_X7_isBeyond q2) (by decide))
    rcases rf_ite_some h with ⟨_, h⟩ | ⟨_, h⟩
    · rcases rf_ite_some h with ⟨_, h⟩ | ⟨_, h⟩
      · exact fr_trans e2 (fr_mono (fg_X7_isAllWithin__192_75 hr_rec31 h) (by decide))
      · exact fr_trans e2 (fr_mono (fg_X7_isAllWithin__192_75 hr_rec31 h) (by decide))
    · obtain rfl := Option.some.inj h
      exact fr_i e2 (by decide)
theorem fg_X7_isAllWithin__192_31 {w : rf_w} (n : Nat) : ∀ {a2 : Int32} {a3 : Int32} {a4 : Int32} {a5 : Int32} {m : rf_m} {r : (Int32 × rf_m)}, g_X7_isAllWithin__192_31 w n a2 a3 a4 a5 m = some r → fr S_X7_isAllWithin__192 m r.2 := by
  induction n with
  | zero => intro a2 a3 a4 a5 m r h; cases h
  | succ n ih =>
    intro a2 a3 a4 a5 m r h
    exact fg_X7_isAllWithin__192_31_b ih h
theorem fg_X7_isAllWithin__192_26 {w : rf_w} {a2 : Int32} {a3 : Int32} {s0 : Int32} {m : rf_m} {r : (Int32 × rf_m)} (h : g_X7_isAllWithin__192_26 w a2 a3 s0 m = some r) : fr S_X7_isAllWithin__192 m r.2 := by
  unfold g_X7_isAllWithin__192_26 at h
  exact fr_trans ((fr_refl _ m)) (fr_mono (fg_X7_isAllWithin__192_31 _ h) (by decide))
theorem fg_X7_isAllWithin__192 {w : rf_w} {m : rf_m} {a2 : Int32} {r : (Int32 × rf_m)} (h : g_X7_isAllWithin__192 w m a2 = some r) : fr S_X7_isAllWithin__192 m r.2 := by
  unfold g_X7_isAllWithin__192 at h
  rcases rf_ite_some h with ⟨_, h⟩ | ⟨_, h⟩
  · exact fr_trans ((fr_refl _ m)) (fr_mono (fg_X7_isAllWithin__192_26 h) (by decide))
  · exact fr_trans ((fr_refl _ m)) (fr_mono (fg_X7_isAllWithin__192_26 h) (by decide))
def S_X2_keepFirst : fr_S := [(189, 189, none)]
theorem fg_X2_keepFirst_2_b {w : rf_w} {rec2 : Int32 → Int32 → rf_m → Option (rf_m)} {a1 : Int32} {a2 : Int32} {m : rf_m} (hr_rec2 : ∀ {x0 : Int32} {x1 : Int32} {m : rf_m} {r : (rf_m)}, rec2 x0 x1 m = some r → fr S_X2_keepFirst m r) {r : (rf_m)} (h : g_X2_keepFirst_2_b w rec2 a1 a2 m = some r) : fr S_X2_keepFirst m r := by
  unfold g_X2_keepFirst_2_b at h
  rcases rf_ite_some h with ⟨_, h⟩ | ⟨_, h⟩
  · obtain rfl := Option.some.inj h
    exact (fr_refl _ m)
  · obtain ⟨_, h⟩ := rf_g_some h
    obtain ⟨_, h⟩ := rf_g_some h
    obtain ⟨_, h⟩ := rf_g_some h
    exact fr_trans (fr_i ((fr_refl _ m)) (fr_c_in (by decide) _)) (hr_rec2 h)
theorem fg_X2_keepFirst_2 {w : rf_w} (n : Nat) : ∀ {a1 : Int32} {a2 : Int32} {m : rf_m} {r : (rf_m)}, g_X2_keepFirst_2 w n a1 a2 m = some r → fr S_X2_keepFirst m r := by
  induction n with
  | zero => intro a1 a2 m r h; cases h
  | succ n ih =>
    intro a1 a2 m r h
    exact fg_X2_keepFirst_2_b ih h
theorem fg_X2_keepFirst {w : rf_w} {m : rf_m} {a1 : Int32} {r : (rf_m)} (h : g_X2_keepFirst w m a1 = some r) : fr S_X2_keepFirst m r := by
  unfold g_X2_keepFirst at h
  exact fr_trans ((fr_refl _ m)) (fr_mono (fg_X2_keepFirst_2 _ h) (by decide))
def S_X2_countSets : fr_S := [(50, 50, some 7), (188, 188, none), (189, 189, none), (190, 190, none), (191, 191, none), (192, 192, none)]
theorem fg_X2_countSets_76 {w : rf_w} {rec28 : Int32 → Int32 → Int32 → Int32 → Int32 → rf_m → Option (Int32 × rf_m)} {a1 : Int32} {a2 : Int32} {a3 : Int32} {a5 : Int32} {m : rf_m} (hr_rec28 : ∀ {x0 : Int32} {x1 : Int32} {x2 : Int32} {x3 : Int32} {x4 : Int32} {m : rf_m} {r : (Int32 × rf_m)}, rec28 x0 x1 x2 x3 x4 m = some r → fr S_X2_countSets m r.2) {r : (Int32 × rf_m)} (h : g_X2_countSets_76 w rec28 a1 a2 a3 a5 m = some r) : fr S_X2_countSets m r.2 := by
  unfold g_X2_countSets_76 at h
  obtain ⟨y0, m0, q1, h⟩ := rf_b_some h
  have e1 : fr S_X2_countSets m m0 := fr_trans ((fr_refl _ m)) (fr_mono (fg_X2_pickNext q1) (by decide))
  exact fr_trans e1 (hr_rec28 h)
theorem fg_X2_countSets_73 {w : rf_w} {rec28 : Int32 → Int32 → Int32 → Int32 → Int32 → rf_m → Option (Int32 × rf_m)} {a1 : Int32} {a2 : Int32} {a3 : Int32} {a5 : Int32} {m : rf_m} (hr_rec28 : ∀ {x0 : Int32} {x1 : Int32} {x2 : Int32} {x3 : Int32} {x4 : Int32} {m : rf_m} {r : (Int32 × rf_m)}, rec28 x0 x1 x2 x3 x4 m = some r → fr S_X2_countSets m r.2) {r : (Int32 × rf_m)} (h : g_X2_countSets_73 w rec28 a1 a2 a3 a5 m = some r) : fr S_X2_countSets m r.2 := by
  unfold g_X2_countSets_73 at h
  exact fr_trans ((fr_refl _ m)) (fr_mono (fg_X2_countSets_76 hr_rec28 h) (by decide))
theorem fg_X2_countSets_28_b {w : rf_w} {rec28 : Int32 → Int32 → Int32 → Int32 → Int32 → rf_m → Option (Int32 × rf_m)} {a1 : Int32} {a2 : Int32} {a3 : Int32} {a4 : Int32} {a5 : Int32} {m : rf_m} (hr_rec28 : ∀ {x0 : Int32} {x1 : Int32} {x2 : Int32} {x3 : Int32} {x4 : Int32} {m : rf_m} {r : (Int32 × rf_m)}, rec28 x0 x1 x2 x3 x4 m = some r → fr S_X2_countSets m r.2) {r : (Int32 × rf_m)} (h : g_X2_countSets_28_b w rec28 a1 a2 a3 a4 a5 m = some r) : fr S_X2_countSets m r.2 := by
  unfold g_X2_countSets_28_b at h
  rcases rf_ite_some h with ⟨_, h⟩ | ⟨_, h⟩
  · obtain rfl := Option.some.inj h
    exact (fr_refl _ m)
  · rcases rf_ite_some h with ⟨_, h⟩ | ⟨_, h⟩
    · obtain rfl := Option.some.inj h
      exact (fr_refl _ m)
    · obtain ⟨y0, m0, q1, h⟩ := rf_b_some h
      have e1 : fr S_X2_countSets m m0 := fr_trans ((fr_refl _ m)) (fr_mono (fg_X2_strikesOut q1) (by decide))
      rcases rf_ite_some h with ⟨_, h⟩ | ⟨_, h⟩
      · exact fr_trans e1 (fr_mono (fg_X2_countSets_76 hr_rec28 h) (by decide))
      · obtain ⟨y1, m1, q2, h⟩ := rf_b_some h
        have e2 : fr S_X2_countSets m m1 := fr_trans e1 (fr_mono (fg_X7_isAllWithin__192 q2) (by decide))
        rcases rf_ite_some h with ⟨_, h⟩ | ⟨_, h⟩
        · exact fr_trans e2 (fr_mono (fg_X2_countSets_76 hr_rec28 h) (by decide))
        · rcases rf_ite_some h with ⟨_, h⟩ | ⟨_, h⟩
          · obtain ⟨m2, q3, h⟩ := rf_bv_some h
            have e3 : fr S_X2_countSets m m2 := fr_trans e2 (fr_mono (fg_X2_keepFirst q3) (by decide))
            exact fr_trans e3 (fr_mono (fg_X2_countSets_73 hr_rec28 h) (by decide))
          · exact fr_trans e2 (fr_mono (fg_X2_countSets_73 hr_rec28 h) (by decide))
theorem fg_X2_countSets_28 {w : rf_w} (n : Nat) : ∀ {a1 : Int32} {a2 : Int32} {a3 : Int32} {a4 : Int32} {a5 : Int32} {m : rf_m} {r : (Int32 × rf_m)}, g_X2_countSets_28 w n a1 a2 a3 a4 a5 m = some r → fr S_X2_countSets m r.2 := by
  induction n with
  | zero => intro a1 a2 a3 a4 a5 m r h; cases h
  | succ n ih =>
    intro a1 a2 a3 a4 a5 m r h
    exact fg_X2_countSets_28_b ih h
theorem fg_X2_countSets_2_b {w : rf_w} {rec2 : Int32 → Int32 → Int32 → rf_m → Option (Int32 × rf_m)} {a1 : Int32} {a2 : Int32} {a3 : Int32} {m : rf_m} (hr_rec2 : ∀ {x0 : Int32} {x1 : Int32} {x2 : Int32} {m : rf_m} {r : (Int32 × rf_m)}, rec2 x0 x1 x2 m = some r → fr S_X2_countSets m r.2) {r : (Int32 × rf_m)} (h : g_X2_countSets_2_b w rec2 a1 a2 a3 m = some r) : fr S_X2_countSets m r.2 := by
  unfold g_X2_countSets_2_b at h
  rcases rf_ite_some h with ⟨_, h⟩ | ⟨_, h⟩
  · exact fr_trans ((fr_refl _ m)) (fr_mono (fg_X2_countSets_28 _ h) (by decide))
  · obtain ⟨_, h⟩ := rf_g_some h
    exact fr_trans (fr_i ((fr_refl _ m)) (fr_c_in (by decide) _)) (hr_rec2 h)
theorem fg_X2_countSets_2 {w : rf_w} (n : Nat) : ∀ {a1 : Int32} {a2 : Int32} {a3 : Int32} {m : rf_m} {r : (Int32 × rf_m)}, g_X2_countSets_2 w n a1 a2 a3 m = some r → fr S_X2_countSets m r.2 := by
  induction n with
  | zero => intro a1 a2 a3 m r h; cases h
  | succ n ih =>
    intro a1 a2 a3 m r h
    exact fg_X2_countSets_2_b ih h
theorem fg_X2_countSets {w : rf_w} {m : rf_m} {a1 : Int32} {a2 : Int32} {r : (Int32 × rf_m)} (h : g_X2_countSets w m a1 a2 = some r) : fr S_X2_countSets m r.2 := by
  unfold g_X2_countSets at h
  exact fr_trans ((fr_refl _ m)) (fr_mono (fg_X2_countSets_2 _ h) (by decide))
def S_X3_isKept : fr_S := []
theorem fg_X3_isKept {w : rf_w} {m : rf_m} {a1 : Int32} {r : (Int32 × rf_m)} (h : g_X3_isKept w m a1 = some r) : fr S_X3_isKept m r.2 := by
  unfold g_X3_isKept at h
  obtain ⟨y0, m0, q1, h⟩ := rf_b_some h
  have e1 : fr S_X3_isKept m m0 := fr_trans ((fr_refl _ m)) (fr_mono (fg_X3_factOf q1) (by decide))
  rcases rf_ite_some h with ⟨_, h⟩ | ⟨_, h⟩
  · obtain rfl := Option.some.inj h
    exact e1
  · obtain rfl := Option.some.inj h
    exact e1
def S_X2_gatherLive : fr_S := [(184, 184, some 8), (187, 187, none)]
theorem fg_X2_gatherLive_99 {w : rf_w} {rec7 : Int32 → rf_m → Option (rf_m)} {a1 : Int32} {m : rf_m} (hr_rec7 : ∀ {x0 : Int32} {m : rf_m} {r : (rf_m)}, rec7 x0 m = some r → fr S_X2_gatherLive m r) {r : (rf_m)} (h : g_X2_gatherLive_99 w rec7 a1 m = some r) : fr S_X2_gatherLive m r := by
  unfold g_X2_gatherLive_99 at h
  exact fr_trans ((fr_refl _ m)) (hr_rec7 h)
theorem fg_X2_gatherLive_77 {w : rf_w} {rec7 : Int32 → rf_m → Option (rf_m)} {a1 : Int32} {a2 : Int32} {m : rf_m} (hr_rec7 : ∀ {x0 : Int32} {m : rf_m} {r : (rf_m)}, rec7 x0 m = some r → fr S_X2_gatherLive m r) {r : (rf_m)} (h : g_X2_gatherLive_77 w rec7 a1 a2 m = some r) : fr S_X2_gatherLive m r := by
  unfold g_X2_gatherLive_77 at h
  obtain ⟨_, h⟩ := rf_g_some h
  obtain ⟨_, h⟩ := rf_g_some h
  exact fr_trans (fr_i (fr_i ((fr_refl _ m)) (fr_c_in (by decide) _)) (by decide)) (fr_mono (fg_X2_gatherLive_99 hr_rec7 h) (by decide))
theorem fg_X2_gatherLive_36_b {w : rf_w} {rec7 : Int32 → rf_m → Option (rf_m)} {rec36 : Int32 → Int32 → rf_m → Option (rf_m)} {a1 : Int32} {a2 : Int32} {m : rf_m} (hr_rec7 : ∀ {x0 : Int32} {m : rf_m} {r : (rf_m)}, rec7 x0 m = some r → fr S_X2_gatherLive m r) (hr_rec36 : ∀ {x0 : Int32} {x1 : Int32} {m : rf_m} {r : (rf_m)}, rec36 x0 x1 m = some r → fr S_X2_gatherLive m r) {r : (rf_m)} (h : g_X2_gatherLive_36_b w rec7 rec36 a1 a2 m = some r) : fr S_X2_gatherLive m r := by
  unfold g_X2_gatherLive_36_b at h
  rcases rf_ite_some h with ⟨_, h⟩ | ⟨_, h⟩
  · exact fr_trans ((fr_refl _ m)) (fr_mono (fg_X2_gatherLive_77 hr_rec7 h) (by decide))
  · obtain ⟨_, h⟩ := rf_g_some h
    obtain ⟨_, h⟩ := rf_g_some h
    rcases rf_ite_some h with ⟨_, h⟩ | ⟨_, h⟩
    · exact fr_trans ((fr_refl _ m)) (fr_mono (fg_X2_gatherLive_77 hr_rec7 h) (by decide))
    · obtain ⟨_, h⟩ := rf_g_some h
      obtain ⟨_, h⟩ := rf_g_some h
      exact fr_trans (fr_i ((fr_refl _ m)) (fr_c_in (by decide) _)) (hr_rec36 h)
theorem fg_X2_gatherLive_36 {w : rf_w} {rec7 : Int32 → rf_m → Option (rf_m)} (hr_rec7 : ∀ {x0 : Int32} {m : rf_m} {r : (rf_m)}, rec7 x0 m = some r → fr S_X2_gatherLive m r) (n : Nat) : ∀ {a1 : Int32} {a2 : Int32} {m : rf_m} {r : (rf_m)}, g_X2_gatherLive_36 w rec7 n a1 a2 m = some r → fr S_X2_gatherLive m r := by
  induction n with
  | zero => intro a1 a2 m r h; cases h
  | succ n ih =>
    intro a1 a2 m r h
    exact fg_X2_gatherLive_36_b hr_rec7 ih h
theorem fg_X2_gatherLive_7_b {w : rf_w} {rec7 : Int32 → rf_m → Option (rf_m)} {a1 : Int32} {m : rf_m} (hr_rec7 : ∀ {x0 : Int32} {m : rf_m} {r : (rf_m)}, rec7 x0 m = some r → fr S_X2_gatherLive m r) {r : (rf_m)} (h : g_X2_gatherLive_7_b w rec7 a1 m = some r) : fr S_X2_gatherLive m r := by
  unfold g_X2_gatherLive_7_b at h
  rcases rf_ite_some h with ⟨_, h⟩ | ⟨_, h⟩
  · obtain rfl := Option.some.inj h
    exact (fr_refl _ m)
  · obtain ⟨_, h⟩ := rf_g_some h
    obtain ⟨y1, m1, q1, h⟩ := rf_b_some h
    have e1 : fr S_X2_gatherLive m m1 := fr_trans ((fr_refl _ m)) (fr_mono (fg_X3_isKept q1) (by decide))
    rcases rf_ite_some h with ⟨_, h⟩ | ⟨_, h⟩
    · exact fr_trans e1 (fr_mono (fg_X2_gatherLive_99 hr_rec7 h) (by decide))
    · exact fr_trans e1 (fr_mono (fg_X2_gatherLive_36 hr_rec7 _ h) (by decide))
theorem fg_X2_gatherLive_7 {w : rf_w} (n : Nat) : ∀ {a1 : Int32} {m : rf_m} {r : (rf_m)}, g_X2_gatherLive_7 w n a1 m = some r → fr S_X2_gatherLive m r := by
  induction n with
  | zero => intro a1 m r h; cases h
  | succ n ih =>
    intro a1 m r h
    exact fg_X2_gatherLive_7_b ih h
theorem fg_X2_gatherLive {w : rf_w} {m : rf_m} {r : (rf_m)} (h : g_X2_gatherLive w m = some r) : fr S_X2_gatherLive m r := by
  unfold g_X2_gatherLive at h
  exact fr_trans (fr_i ((fr_refl _ m)) (by decide)) (fr_mono (fg_X2_gatherLive_7 _ h) (by decide))
def S_X2_fewest : fr_S := [(50, 50, some 7), (184, 184, some 2), (184, 184, some 3), (184, 184, some 8), (185, 185, none), (187, 187, none), (188, 188, none), (189, 189, none), (190, 190, none), (191, 191, none), (192, 192, none)]
theorem fg_X2_fewest_24_b {w : rf_w} {rec24 : Int32 → Int32 → rf_m → Option (Int32 × rf_m)} {a1 : Int32} {a2 : Int32} {m : rf_m} (hr_rec24 : ∀ {x0 : Int32} {x1 : Int32} {m : rf_m} {r : (Int32 × rf_m)}, rec24 x0 x1 m = some r → fr S_X2_fewest m r.2) {r : (Int32 × rf_m)} (h : g_X2_fewest_24_b w rec24 a1 a2 m = some r) : fr S_X2_fewest m r.2 := by
  unfold g_X2_fewest_24_b at h
  rcases rf_ite_some h with ⟨_, h⟩ | ⟨_, h⟩
  · obtain rfl := Option.some.inj h
    exact (fr_refl _ m)
  · obtain ⟨y0, m0, q1, h⟩ := rf_b_some h
    have e1 : fr S_X2_fewest m m0 := fr_trans ((fr_refl _ m)) (fr_mono (fg_X2_countSets q1) (by decide))
    rcases rf_ite_some h with ⟨_, h⟩ | ⟨_, h⟩
    · exact fr_trans e1 (hr_rec24 h)
    · obtain ⟨_, h⟩ := rf_g_some h
      obtain rfl := Option.some.inj h
      exact fr_i (fr_i (fr_ci e1 (by decide)) (by decide)) (by decide)
theorem fg_X2_fewest_24 {w : rf_w} (n : Nat) : ∀ {a1 : Int32} {a2 : Int32} {m : rf_m} {r : (Int32 × rf_m)}, g_X2_fewest_24 w n a1 a2 m = some r → fr S_X2_fewest m r.2 := by
  induction n with
  | zero => intro a1 a2 m r h; cases h
  | succ n ih =>
    intro a1 a2 m r h
    exact fg_X2_fewest_24_b ih h
theorem fg_X2_fewest {w : rf_w} {m : rf_m} {a1 : Int32} {r : (Int32 × rf_m)} (h : g_X2_fewest w m a1 = some r) : fr S_X2_fewest m r.2 := by
  unfold g_X2_fewest at h
  obtain ⟨m0, q1, h⟩ := rf_bv_some h
  have e1 : fr S_X2_fewest m m0 := fr_trans ((fr_refl _ m)) (fr_mono (fg_X2_gatherLive q1) (by decide))
  obtain ⟨_, h⟩ := rf_g_some h
  exact fr_trans (fr_ci e1 (by decide)) (fr_mono (fg_X2_fewest_24 _ h) (by decide))
def S_X3_isParty : fr_S := []
theorem fg_X3_isParty {w : rf_w} {m : rf_m} {a1 : Int32} {r : (Int32 × rf_m)} (h : g_X3_isParty w m a1 = some r) : fr S_X3_isParty m r.2 := by
  unfold g_X3_isParty at h
  rcases rf_ite_some h with ⟨_, h⟩ | ⟨_, h⟩
  · obtain rfl := Option.some.inj h
    exact (fr_refl _ m)
  · rcases rf_ite_some h with ⟨_, h⟩ | ⟨_, h⟩
    · obtain rfl := Option.some.inj h
      exact (fr_refl _ m)
    · obtain rfl := Option.some.inj h
      exact (fr_refl _ m)
def S_X3_isAngle : fr_S := []
theorem fg_X3_isAngle {w : rf_w} {m : rf_m} {a1 : Int32} {r : (Int32 × rf_m)} (h : g_X3_isAngle w m a1 = some r) : fr S_X3_isAngle m r.2 := by
  unfold g_X3_isAngle at h
  rcases rf_ite_some h with ⟨_, h⟩ | ⟨_, h⟩
  · obtain rfl := Option.some.inj h
    exact (fr_refl _ m)
  · rcases rf_ite_some h with ⟨_, h⟩ | ⟨_, h⟩
    · obtain rfl := Option.some.inj h
      exact (fr_refl _ m)
    · obtain rfl := Option.some.inj h
      exact (fr_refl _ m)
def S_X3_isReading : fr_S := []
theorem fg_X3_isReading {w : rf_w} {m : rf_m} {a1 : Int32} {r : (Int32 × rf_m)} (h : g_X3_isReading w m a1 = some r) : fr S_X3_isReading m r.2 := by
  unfold g_X3_isReading at h
  rcases rf_ite_some h with ⟨_, h⟩ | ⟨_, h⟩
  · obtain rfl := Option.some.inj h
    exact (fr_refl _ m)
  · rcases rf_ite_some h with ⟨_, h⟩ | ⟨_, h⟩
    · obtain rfl := Option.some.inj h
      exact (fr_refl _ m)
    · obtain rfl := Option.some.inj h
      exact (fr_refl _ m)
def S_X3_addParty : fr_S := [(26, 26, some 5), (27, 27, none)]
theorem fg_X3_addParty {w : rf_w} {m : rf_m} {a1 : Int32} {r : (Int32 × rf_m)} (h : g_X3_addParty w m a1 = some r) : fr S_X3_addParty m r.2 := by
  unfold g_X3_addParty at h
  obtain ⟨_, h⟩ := rf_g_some h
  obtain rfl := Option.some.inj h
  exact fr_i (fr_i ((fr_refl _ m)) (fr_c_in (by decide) _)) (by decide)
def S_X3_forget : fr_S := [(26, 26, some 19), (40, 40, none)]
theorem fg_X3_forget {w : rf_w} {m : rf_m} {a1 : Int32} {r : (rf_m)} (h : g_X3_forget w m a1 = some r) : fr S_X3_forget m r := by
  unfold g_X3_forget at h
  obtain ⟨_, h⟩ := rf_g_some h
  obtain rfl := Option.some.inj h
  exact fr_i (fr_i ((fr_refl _ m)) (fr_c_in (by decide) _)) (by decide)
def S_X3_addAngle : fr_S := [(26, 26, some 6), (26, 26, some 19), (28, 28, none), (29, 29, none), (30, 30, none), (40, 40, none)]
theorem fg_X3_addAngle {w : rf_w} {m : rf_m} {a1 : Int32} {a2 : Int32} {a3 : Int32} {r : (Int32 × rf_m)} (h : g_X3_addAngle w m a1 a2 a3 = some r) : fr S_X3_addAngle m r.2 := by
  unfold g_X3_addAngle at h
  obtain ⟨_, h⟩ := rf_g_some h
  obtain ⟨_, h⟩ := rf_g_some h
  obtain ⟨_, h⟩ := rf_g_some h
  obtain ⟨m3, q1, h⟩ := rf_bv_some h
  have e1 : fr S_X3_addAngle m m3 := fr_trans (fr_i (fr_i (fr_i ((fr_refl _ m)) (fr_c_in (by decide) _)) (fr_c_in (by decide) _)) (fr_c_in (by decide) _)) (fr_mono (fg_X3_forget q1) (by decide))
  obtain rfl := Option.some.inj h
  exact fr_i e1 (by decide)
def S_X3_hasRoomFor : fr_S := []
theorem fg_X3_hasRoomFor {w : rf_w} {m : rf_m} {a1 : Int32} {r : (Int32 × rf_m)} (h : g_X3_hasRoomFor w m a1 = some r) : fr S_X3_hasRoomFor m r.2 := by
  unfold g_X3_hasRoomFor at h
  rcases rf_ite_some h with ⟨_, h⟩ | ⟨_, h⟩
  · obtain rfl := Option.some.inj h
    exact (fr_refl _ m)
  · obtain ⟨_, h⟩ := rf_g_some h
    rcases rf_ite_some h with ⟨_, h⟩ | ⟨_, h⟩
    · obtain rfl := Option.some.inj h
      exact (fr_refl _ m)
    · obtain rfl := Option.some.inj h
      exact (fr_refl _ m)
def S_X3_addReading : fr_S := [(26, 26, some 7), (26, 26, some 19), (32, 32, none), (33, 33, none), (34, 34, none), (36, 36, none), (40, 40, none)]
theorem fg_X3_addReading {w : rf_w} {m : rf_m} {a1 : Int32} {a2 : Int32} {r : (Int32 × rf_m)} (h : g_X3_addReading w m a1 a2 = some r) : fr S_X3_addReading m r.2 := by
  unfold g_X3_addReading at h
  obtain ⟨_, h⟩ := rf_g_some h
  obtain ⟨_, h⟩ := rf_g_some h
  obtain ⟨_, h⟩ := rf_g_some h
  obtain ⟨_, h⟩ := rf_g_some h
  have h := fr_vi h
  obtain ⟨_, h⟩ := rf_g_some h
  obtain ⟨_, h⟩ := rf_g_some h
  obtain ⟨m7, q1, h⟩ := rf_bv_some h
  have e1 : fr S_X3_addReading m m7 := fr_trans (fr_i (fr_i (fr_i (fr_i (fr_i (fr_i ((fr_refl _ m)) (fr_c_in (by decide) _)) (fr_c_in (by decide) _)) (fr_c_in (by decide) _)) (fr_c_in (by decide) _)) (fr_c_in (by decide) _)) (by decide)) (fr_mono (fg_X3_forget q1) (by decide))
  obtain rfl := Option.some.inj h
  exact e1
def S_X3_sign : fr_S := [(32, 32, none)]
theorem fg_X3_sign {w : rf_w} {m : rf_m} {a1 : Int32} {a2 : Int32} {a3 : Int32} {a4 : Int32} {r : (rf_m)} (h : g_X3_sign w m a1 a2 a3 a4 = some r) : fr S_X3_sign m r := by
  unfold g_X3_sign at h
  obtain ⟨_, h⟩ := rf_g_some h
  obtain ⟨_, h⟩ := rf_g_some h
  obtain ⟨_, h⟩ := rf_g_some h
  obtain rfl := Option.some.inj h
  exact fr_i (fr_i (fr_i ((fr_refl _ m)) (fr_c_in (by decide) _)) (fr_c_in (by decide) _)) (fr_c_in (by decide) _)
def S_X3_isSeen : fr_S := []
theorem fg_X3_isSeen {w : rf_w} {m : rf_m} {a1 : Int32} {r : (Int32 × rf_m)} (h : g_X3_isSeen w m a1 = some r) : fr S_X3_isSeen m r.2 := by
  unfold g_X3_isSeen at h
  obtain ⟨y0, m0, q1, h⟩ := rf_b_some h
  have e1 : fr S_X3_isSeen m m0 := fr_trans ((fr_refl _ m)) (fr_mono (fg_X3_factOf q1) (by decide))
  rcases rf_ite_some h with ⟨_, h⟩ | ⟨_, h⟩
  · obtain rfl := Option.some.inj h
    exact e1
  · obtain rfl := Option.some.inj h
    exact e1
def S_X3_isStruck : fr_S := []
theorem fg_X3_isStruck_10_b {w : rf_w} {rec10 : Int32 → Int32 → Int32 → rf_m → Option (Int32 × rf_m)} {a2 : Int32} {a3 : Int32} {a4 : Int32} {m : rf_m} (hr_rec10 : ∀ {x0 : Int32} {x1 : Int32} {x2 : Int32} {m : rf_m} {r : (Int32 × rf_m)}, rec10 x0 x1 x2 m = some r → fr S_X3_isStruck m r.2) {r : (Int32 × rf_m)} (h : g_X3_isStruck_10_b w rec10 a2 a3 a4 m = some r) : fr S_X3_isStruck m r.2 := by
  unfold g_X3_isStruck_10_b at h
  rcases rf_ite_some h with ⟨_, h⟩ | ⟨_, h⟩
  · obtain rfl := Option.some.inj h
    exact (fr_refl _ m)
  · rcases rf_ite_some h with ⟨_, h⟩ | ⟨_, h⟩
    · obtain rfl := Option.some.inj h
      exact (fr_refl _ m)
    · obtain ⟨_, h⟩ := rf_g_some h
      rcases rf_ite_some h with ⟨_, h⟩ | ⟨_, h⟩
      · obtain ⟨_, h⟩ := rf_g_some h
        have h := fr_vi h
        exact fr_trans ((fr_refl _ m)) (hr_rec10 h)
      · obtain ⟨_, h⟩ := rf_g_some h
        obtain ⟨_, h⟩ := rf_g_some h
        obtain rfl := Option.some.inj h
        exact (fr_refl _ m)
theorem fg_X3_isStruck_10 {w : rf_w} (n : Nat) : ∀ {a2 : Int32} {a3 : Int32} {a4 : Int32} {m : rf_m} {r : (Int32 × rf_m)}, g_X3_isStruck_10 w n a2 a3 a4 m = some r → fr S_X3_isStruck m r.2 := by
  induction n with
  | zero => intro a2 a3 a4 m r h; cases h
  | succ n ih =>
    intro a2 a3 a4 m r h
    exact fg_X3_isStruck_10_b ih h
theorem fg_X3_isStruck {w : rf_w} {m : rf_m} {a1 : Int32} {a2 : Int32} {r : (Int32 × rf_m)} (h : g_X3_isStruck w m a1 a2 = some r) : fr S_X3_isStruck m r.2 := by
  unfold g_X3_isStruck at h
  obtain ⟨_, h⟩ := rf_g_some h
  have h := fr_vi h
  exact fr_trans ((fr_refl _ m)) (fr_mono (fg_X3_isStruck_10 _ h) (by decide))
def S_X3_addStrike : fr_S := [(26, 26, some 17), (26, 26, some 19), (36, 36, none), (37, 37, none), (38, 38, none), (39, 39, none), (40, 40, none)]
theorem fg_X3_addStrike {w : rf_w} {m : rf_m} {a1 : Int32} {a2 : Int32} {a3 : Int32} {r : (Int32 × rf_m)} (h : g_X3_addStrike w m a1 a2 a3 = some r) : fr S_X3_addStrike m r.2 := by
  unfold g_X3_addStrike at h
  rcases rf_ite_some h with ⟨_, h⟩ | ⟨_, h⟩
  · obtain ⟨_, h⟩ := rf_g_some h
    obtain ⟨_, h⟩ := rf_g_some h
    obtain ⟨_, h⟩ := rf_g_some h
    obtain ⟨_, h⟩ := rf_g_some h
    obtain ⟨_, h⟩ := rf_g_some h
    obtain ⟨y5, m5, q1, h⟩ := rf_b_some h
    have e1 : fr S_X3_addStrike m m5 := fr_trans (fr_i (fr_i (fr_i (fr_i (fr_i ((fr_refl _ m)) (fr_c_in (by decide) _)) (fr_c_in (by decide) _)) (fr_c_in (by decide) _)) (fr_c_in (by decide) _)) (by decide)) (fr_mono (fg_X3_factOf q1) (by decide))
    obtain ⟨m6, q2, h⟩ := rf_bv_some h
    have e2 : fr S_X3_addStrike m m6 := fr_trans e1 (fr_mono (fg_X3_forget q2) (by decide))
    obtain rfl := Option.some.inj h
    exact e2
  · obtain rfl := Option.some.inj h
    exact (fr_refl _ m)
def S_X3_forgetAll : fr_S := [(26, 26, some 19), (40, 40, none)]
theorem fg_X3_forgetAll_2_b {w : rf_w} {rec2 : Int32 → rf_m → Option (rf_m)} {a1 : Int32} {m : rf_m} (hr_rec2 : ∀ {x0 : Int32} {m : rf_m} {r : (rf_m)}, rec2 x0 m = some r → fr S_X3_forgetAll m r) {r : (rf_m)} (h : g_X3_forgetAll_2_b w rec2 a1 m = some r) : fr S_X3_forgetAll m r := by
  unfold g_X3_forgetAll_2_b at h
  rcases rf_ite_some h with ⟨_, h⟩ | ⟨_, h⟩
  · obtain rfl := Option.some.inj h
    exact (fr_refl _ m)
  · obtain ⟨m0, q1, h⟩ := rf_bv_some h
    have e1 : fr S_X3_forgetAll m m0 := fr_trans ((fr_refl _ m)) (fr_mono (fg_X3_forget q1) (by decide))
    exact fr_trans e1 (hr_rec2 h)
theorem fg_X3_forgetAll_2 {w : rf_w} (n : Nat) : ∀ {a1 : Int32} {m : rf_m} {r : (rf_m)}, g_X3_forgetAll_2 w n a1 m = some r → fr S_X3_forgetAll m r := by
  induction n with
  | zero => intro a1 m r h; cases h
  | succ n ih =>
    intro a1 m r h
    exact fg_X3_forgetAll_2_b ih h
theorem fg_X3_forgetAll {w : rf_w} {m : rf_m} {r : (rf_m)} (h : g_X3_forgetAll w m = some r) : fr S_X3_forgetAll m r := by
  unfold g_X3_forgetAll at h
  exact fr_trans ((fr_refl _ m)) (fr_mono (fg_X3_forgetAll_2 _ h) (by decide))
def S_X9_striker : fr_S := [(25, 25, none)]
theorem fg_X9_striker_30 {w : rf_w} {rec2 : Int32 → Int32 → rf_m → Option (Int32 × rf_m)} {a1 : Int32} {a2 : Int32} {m : rf_m} (hr_rec2 : ∀ {x0 : Int32} {x1 : Int32} {m : rf_m} {r : (Int32 × rf_m)}, rec2 x0 x1 m = some r → fr S_X9_striker m r.2) {r : (Int32 × rf_m)} (h : g_X9_striker_30 w rec2 a1 a2 m = some r) : fr S_X9_striker m r.2 := by
  unfold g_X9_striker_30 at h
  exact fr_trans ((fr_refl _ m)) (hr_rec2 h)
theorem fg_X9_striker_2_b {w : rf_w} {rec2 : Int32 → Int32 → rf_m → Option (Int32 × rf_m)} {a1 : Int32} {a2 : Int32} {m : rf_m} (hr_rec2 : ∀ {x0 : Int32} {x1 : Int32} {m : rf_m} {r : (Int32 × rf_m)}, rec2 x0 x1 m = some r → fr S_X9_striker m r.2) {r : (Int32 × rf_m)} (h : g_X9_striker_2_b w rec2 a1 a2 m = some r) : fr S_X9_striker m r.2 := by
  unfold g_X9_striker_2_b at h
  rcases rf_ite_some h with ⟨_, h⟩ | ⟨_, h⟩
  · obtain rfl := Option.some.inj h
    exact (fr_refl _ m)
  · obtain ⟨y0, m0, q1, h⟩ := rf_b_some h
    have e1 : fr S_X9_striker m m0 := fr_trans ((fr_refl _ m)) (fr_mono (fg_X9_isDue q1) (by decide))
    rcases rf_ite_some h with ⟨_, h⟩ | ⟨_, h⟩
    · exact fr_trans e1 (fr_mono (fg_X9_striker_30 hr_rec2 h) (by decide))
    · obtain ⟨y1, m1, q2, h⟩ := rf_b_some h
      have e2 : fr S_X9_striker m m1 := fr_trans e1 (fr_mono (fg_X9_holds q2) (by decide))
      rcases rf_ite_some h with ⟨_, h⟩ | ⟨_, h⟩
      · exact fr_trans e2 (fr_mono (fg_X9_striker_30 hr_rec2 h) (by decide))
      · obtain rfl := Option.some.inj h
        exact e2
theorem fg_X9_striker_2 {w : rf_w} (n : Nat) : ∀ {a1 : Int32} {a2 : Int32} {m : rf_m} {r : (Int32 × rf_m)}, g_X9_striker_2 w n a1 a2 m = some r → fr S_X9_striker m r.2 := by
  induction n with
  | zero => intro a1 a2 m r h; cases h
  | succ n ih =>
    intro a1 a2 m r h
    exact fg_X9_striker_2_b ih h
theorem fg_X9_striker {w : rf_w} {m : rf_m} {a1 : Int32} {r : (Int32 × rf_m)} (h : g_X9_striker w m a1 = some r) : fr S_X9_striker m r.2 := by
  unfold g_X9_striker at h
  exact fr_trans ((fr_refl _ m)) (fr_mono (fg_X9_striker_2 _ h) (by decide))
def S_X3_judge : fr_S := [(18, 18, none), (25, 25, none), (32, 32, none)]
theorem fg_X3_judge_184 {w : rf_w} {a4 : Int32} {a7 : Int32} {a8 : Int32} {a9 : Int32} {s1 : Int32} {s2 : Int32} {m : rf_m} {r : (Int32 × rf_m)} (h : g_X3_judge_184 w a4 a7 a8 a9 s1 s2 m = some r) : fr S_X3_judge m r.2 := by
  unfold g_X3_judge_184 at h
  obtain ⟨_, h⟩ := rf_g_some h
  obtain ⟨_, h⟩ := rf_g_some h
  rcases rf_ite_some h with ⟨_, h⟩ | ⟨_, h⟩
  · obtain ⟨_, h⟩ := rf_g_some h
    obtain ⟨_, h⟩ := rf_g_some h
    obtain ⟨_, h⟩ := rf_g_some h
    obtain rfl := Option.some.inj h
    exact fr_i (fr_i (fr_i (fr_i ((fr_refl _ m)) (fr_c_in (by decide) _)) (fr_c_in (by decide) _)) (fr_c_in (by decide) _)) (fr_c_in (by decide) _)
  · obtain ⟨_, h⟩ := rf_g_some h
    obtain ⟨_, h⟩ := rf_g_some h
    obtain ⟨_, h⟩ := rf_g_some h
    obtain rfl := Option.some.inj h
    exact fr_i (fr_i (fr_i (fr_i ((fr_refl _ m)) (fr_c_in (by decide) _)) (fr_c_in (by decide) _)) (fr_c_in (by decide) _)) (fr_c_in (by decide) _)
theorem fg_X3_judge_164 {w : rf_w} {a4 : Int32} {a6 : Int32} {a7 : Int32} {a8 : Int32} {s0 : Int32} {m : rf_m} {r : (Int32 × rf_m)} (h : g_X3_judge_164 w a4 a6 a7 a8 s0 m = some r) : fr S_X3_judge m r.2 := by
  unfold g_X3_judge_164 at h
  rcases rf_ite_some h with ⟨_, h⟩ | ⟨_, h⟩
  · exact fr_trans ((fr_refl _ m)) (fr_mono (fg_X3_judge_184 h) (by decide))
  · exact fr_trans ((fr_refl _ m)) (fr_mono (fg_X3_judge_184 h) (by decide))
theorem fg_X3_judge_163 {w : rf_w} {a4 : Int32} {a6 : Int32} {a7 : Int32} {a8 : Int32} {m : rf_m} {r : (Int32 × rf_m)} (h : g_X3_judge_163 w a4 a6 a7 a8 m = some r) : fr S_X3_judge m r.2 := by
  unfold g_X3_judge_163 at h
  exact fr_trans ((fr_refl _ m)) (fr_mono (fg_X3_judge_164 h) (by decide))
theorem fg_X3_judge_142 {w : rf_w} {a4 : Int32} {a5 : Int32} {a6 : Int32} {a7 : Int32} {a8 : Int32} {m : rf_m} {r : (Int32 × rf_m)} (h : g_X3_judge_142 w a4 a5 a6 a7 a8 m = some r) : fr S_X3_judge m r.2 := by
  unfold g_X3_judge_142 at h
  rcases rf_ite_some h with ⟨_, h⟩ | ⟨_, h⟩
  · exact fr_trans ((fr_refl _ m)) (fr_mono (fg_X3_judge_163 h) (by decide))
  · rcases rf_ite_some h with ⟨_, h⟩ | ⟨_, h⟩
    · rcases rf_ite_some h with ⟨_, h⟩ | ⟨_, h⟩
      · exact fr_trans ((fr_refl _ m)) (fr_mono (fg_X3_judge_164 h) (by decide))
      · exact fr_trans ((fr_refl _ m)) (fr_mono (fg_X3_judge_163 h) (by decide))
    · exact fr_trans ((fr_refl _ m)) (fr_mono (fg_X3_judge_163 h) (by decide))
theorem fg_X3_judge_66 {w : rf_w} {a4 : Int32} {a5 : Int32} {a6 : Int32} {s0 : Int32} {m : rf_m} {r : (Int32 × rf_m)} (h : g_X3_judge_66 w a4 a5 a6 s0 m = some r) : fr S_X3_judge m r.2 := by
  unfold g_X3_judge_66 at h
  rcases rf_ite_some h with ⟨_, h⟩ | ⟨_, h⟩
  · exact fr_trans ((fr_refl _ m)) (fr_mono (fg_X3_judge_142 h) (by decide))
  · obtain ⟨_, h⟩ := rf_g_some h
    obtain ⟨_, h⟩ := rf_g_some h
    obtain ⟨_, h⟩ := rf_g_some h
    obtain ⟨y3, m3, q1, h⟩ := rf_b_some h
    have e1 : fr S_X3_judge m m3 := fr_trans (fr_i (fr_i (fr_i ((fr_refl _ m)) (fr_c_in (by decide) _)) (fr_c_in (by decide) _)) (fr_c_in (by decide) _)) (fr_mono (fg_X9_striker q1) (by decide))
    exact fr_trans e1 (fr_mono (fg_X3_judge_142 h) (by decide))
theorem fg_X3_judge_32 {w : rf_w} {a1 : Int32} {a2 : Int32} {a3 : Int32} {a4 : Int32} {s0 : Int32} {m : rf_m} {r : (Int32 × rf_m)} (h : g_X3_judge_32 w a1 a2 a3 a4 s0 m = some r) : fr S_X3_judge m r.2 := by
  unfold g_X3_judge_32 at h
  obtain ⟨y0, m0, q1, h⟩ := rf_b_some h
  have e1 : fr S_X3_judge m m0 := fr_trans ((fr_refl _ m)) (fr_mono (fg_X3_isStruck q1) (by decide))
  rcases rf_ite_some h with ⟨_, h⟩ | ⟨_, h⟩
  · exact fr_trans e1 (fr_mono (fg_X3_judge_66 h) (by decide))
  · obtain ⟨_, h⟩ := rf_g_some h
    obtain ⟨y2, m2, q2, h⟩ := rf_b_some h
    have e2 : fr S_X3_judge m m2 := fr_trans e1 (fr_mono (fg_abs q2) (by decide))
    exact fr_trans e2 (fr_mono (fg_X3_judge_66 h) (by decide))
theorem fg_X3_judge_31 {w : rf_w} {a1 : Int32} {a2 : Int32} {a3 : Int32} {a4 : Int32} {m : rf_m} {r : (Int32 × rf_m)} (h : g_X3_judge_31 w a1 a2 a3 a4 m = some r) : fr S_X3_judge m r.2 := by
  unfold g_X3_judge_31 at h
  exact fr_trans ((fr_refl _ m)) (fr_mono (fg_X3_judge_32 h) (by decide))
theorem fg_X3_judge {w : rf_w} {m : rf_m} {a1 : Int32} {a2 : Int32} {a3 : Int32} {r : (Int32 × rf_m)} (h : g_X3_judge w m a1 a2 a3 = some r) : fr S_X3_judge m r.2 := by
  unfold g_X3_judge at h
  obtain ⟨y0, m0, q1, h⟩ := rf_b_some h
  have e1 : fr S_X3_judge m m0 := fr_trans ((fr_refl _ m)) (fr_mono (fg_X3_isSeen q1) (by decide))
  rcases rf_ite_some h with ⟨_, h⟩ | ⟨_, h⟩
  · exact fr_trans e1 (fr_mono (fg_X3_judge_31 h) (by decide))
  · obtain ⟨_, h⟩ := rf_g_some h
    rcases rf_ite_some h with ⟨_, h⟩ | ⟨_, h⟩
    · exact fr_trans e1 (fr_mono (fg_X3_judge_31 h) (by decide))
    · exact fr_trans e1 (fr_mono (fg_X3_judge_32 h) (by decide))
def S_X3_sortSeen : fr_S := [(35, 35, none)]
theorem fg_X3_sortSeen_124 {w : rf_w} {rec5 : Int32 → Int32 → Int32 → Int32 → rf_m → Option (Int32 × rf_m)} {a1 : Int32} {a2 : Int32} {a3 : Int32} {a4 : Int32} {m : rf_m} (hr_rec5 : ∀ {x0 : Int32} {x1 : Int32} {x2 : Int32} {x3 : Int32} {m : rf_m} {r : (Int32 × rf_m)}, rec5 x0 x1 x2 x3 m = some r → fr S_X3_sortSeen m r.2) {r : (Int32 × rf_m)} (h : g_X3_sortSeen_124 w rec5 a1 a2 a3 a4 m = some r) : fr S_X3_sortSeen m r.2 := by
  unfold g_X3_sortSeen_124 at h
  exact fr_trans ((fr_refl _ m)) (hr_rec5 h)
theorem fg_X3_sortSeen_112 {w : rf_w} {rec5 : Int32 → Int32 → Int32 → Int32 → rf_m → Option (Int32 × rf_m)} {a1 : Int32} {a2 : Int32} {a3 : Int32} {a4 : Int32} {a6 : Int32} {a7 : Int32} {m : rf_m} (hr_rec5 : ∀ {x0 : Int32} {x1 : Int32} {x2 : Int32} {x3 : Int32} {m : rf_m} {r : (Int32 × rf_m)}, rec5 x0 x1 x2 x3 m = some r → fr S_X3_sortSeen m r.2) {r : (Int32 × rf_m)} (h : g_X3_sortSeen_112 w rec5 a1 a2 a3 a4 a6 a7 m = some r) : fr S_X3_sortSeen m r.2 := by
  unfold g_X3_sortSeen_112 at h
  obtain ⟨_, h⟩ := rf_g_some h
  exact fr_trans (fr_i ((fr_refl _ m)) (fr_c_in (by decide) _)) (fr_mono (fg_X3_sortSeen_124 hr_rec5 h) (by decide))
theorem fg_X3_sortSeen_71_b {w : rf_w} {rec5 : Int32 → Int32 → Int32 → Int32 → rf_m → Option (Int32 × rf_m)} {rec71 : Int32 → Int32 → Int32 → Int32 → Int32 → Int32 → rf_m → Option (Int32 × rf_m)} {a1 : Int32} {a2 : Int32} {a3 : Int32} {a4 : Int32} {a6 : Int32} {a7 : Int32} {m : rf_m} (hr_rec5 : ∀ {x0 : Int32} {x1 : Int32} {x2 : Int32} {x3 : Int32} {m : rf_m} {r : (Int32 × rf_m)}, rec5 x0 x1 x2 x3 m = some r → fr S_X3_sortSeen m r.2) (hr_rec71 : ∀ {x0 : Int32} {x1 : Int32} {x2 : Int32} {x3 : Int32} {x4 : Int32} {x5 : Int32} {m : rf_m} {r : (Int32 × rf_m)}, rec71 x0 x1 x2 x3 x4 x5 m = some r → fr S_X3_sortSeen m r.2) {r : (Int32 × rf_m)} (h : g_X3_sortSeen_71_b w rec5 rec71 a1 a2 a3 a4 a6 a7 m = some r) : fr S_X3_sortSeen m r.2 := by
  unfold g_X3_sortSeen_71_b at h
  rcases rf_ite_some h with ⟨_, h⟩ | ⟨_, h⟩
  · exact fr_trans ((fr_refl _ m)) (fr_mono (fg_X3_sortSeen_112 hr_rec5 h) (by decide))
  · obtain ⟨_, h⟩ := rf_g_some h
    rcases rf_ite_some h with ⟨_, h⟩ | ⟨_, h⟩
    · exact fr_trans ((fr_refl _ m)) (fr_mono (fg_X3_sortSeen_112 hr_rec5 h) (by decide))
    · obtain ⟨_, h⟩ := rf_g_some h
      obtain ⟨_, h⟩ := rf_g_some h
      exact fr_trans (fr_i ((fr_refl _ m)) (fr_c_in (by decide) _)) (hr_rec71 h)
theorem fg_X3_sortSeen_71 {w : rf_w} {rec5 : Int32 → Int32 → Int32 → Int32 → rf_m → Option (Int32 × rf_m)} (hr_rec5 : ∀ {x0 : Int32} {x1 : Int32} {x2 : Int32} {x3 : Int32} {m : rf_m} {r : (Int32 × rf_m)}, rec5 x0 x1 x2 x3 m = some r → fr S_X3_sortSeen m r.2) (n : Nat) : ∀ {a1 : Int32} {a2 : Int32} {a3 : Int32} {a4 : Int32} {a6 : Int32} {a7 : Int32} {m : rf_m} {r : (Int32 × rf_m)}, g_X3_sortSeen_71 w rec5 n a1 a2 a3 a4 a6 a7 m = some r → fr S_X3_sortSeen m r.2 := by
  induction n with
  | zero => intro a1 a2 a3 a4 a6 a7 m r h; cases h
  | succ n ih =>
    intro a1 a2 a3 a4 a6 a7 m r h
    exact fg_X3_sortSeen_71_b hr_rec5 ih h
theorem fg_X3_sortSeen_5_b {w : rf_w} {rec5 : Int32 → Int32 → Int32 → Int32 → rf_m → Option (Int32 × rf_m)} {a1 : Int32} {a2 : Int32} {a3 : Int32} {a4 : Int32} {m : rf_m} (hr_rec5 : ∀ {x0 : Int32} {x1 : Int32} {x2 : Int32} {x3 : Int32} {m : rf_m} {r : (Int32 × rf_m)}, rec5 x0 x1 x2 x3 m = some r → fr S_X3_sortSeen m r.2) {r : (Int32 × rf_m)} (h : g_X3_sortSeen_5_b w rec5 a1 a2 a3 a4 m = some r) : fr S_X3_sortSeen m r.2 := by
  unfold g_X3_sortSeen_5_b at h
  obtain ⟨_, h⟩ := rf_g_some h
  rcases rf_ite_some h with ⟨_, h⟩ | ⟨_, h⟩
  · obtain rfl := Option.some.inj h
    exact (fr_refl _ m)
  · obtain ⟨_, h⟩ := rf_g_some h
    have h := fr_vi h
    obtain ⟨y3, m3, q1, h⟩ := rf_b_some h
    have e1 : fr S_X3_sortSeen m m3 := fr_trans ((fr_refl _ m)) (fr_mono (fg_X3_isSeen q1) (by decide))
    rcases rf_ite_some h with ⟨_, h⟩ | ⟨_, h⟩
    · exact fr_trans e1 (fr_mono (fg_X3_sortSeen_124 hr_rec5 h) (by decide))
    · obtain ⟨y4, m4, q2, h⟩ := rf_b_some h
      have e2 : fr S_X3_sortSeen m m4 := fr_trans e1 (fr_mono (fg_X3_factOf q2) (by decide))
      rcases rf_ite_some h with ⟨_, h⟩ | ⟨_, h⟩
      · obtain ⟨y5, m5, q3, h⟩ := rf_b_some h
        have e3 : fr S_X3_sortSeen m m5 := fr_trans e2 (fr_mono (fg_X3_factOf q3) (by decide))
        exact fr_trans e3 (fr_mono (fg_X3_sortSeen_71 hr_rec5 _ h) (by decide))
      · exact fr_trans e2 (fr_mono (fg_X3_sortSeen_124 hr_rec5 h) (by decide))
theorem fg_X3_sortSeen_5 {w : rf_w} (n : Nat) : ∀ {a1 : Int32} {a2 : Int32} {a3 : Int32} {a4 : Int32} {m : rf_m} {r : (Int32 × rf_m)}, g_X3_sortSeen_5 w n a1 a2 a3 a4 m = some r → fr S_X3_sortSeen m r.2 := by
  induction n with
  | zero => intro a1 a2 a3 a4 m r h; cases h
  | succ n ih =>
    intro a1 a2 a3 a4 m r h
    exact fg_X3_sortSeen_5_b ih h
theorem fg_X3_sortSeen {w : rf_w} {m : rf_m} {a1 : Int32} {a2 : Int32} {r : (Int32 × rf_m)} (h : g_X3_sortSeen w m a1 a2 = some r) : fr S_X3_sortSeen m r.2 := by
  unfold g_X3_sortSeen at h
  exact fr_trans ((fr_refl _ m)) (fr_mono (fg_X3_sortSeen_5 _ h) (by decide))
def S_X3_recount : fr_S := [(18, 18, none), (25, 25, none), (31, 31, none), (32, 32, none), (34, 34, none), (35, 35, none), (40, 40, none)]
theorem fg_X3_recount_267 {w : rf_w} {a1 : Int32} {a3 : Int32} {a4 : Int32} {a5 : Int32} {a6 : Int32} {s1 : Int32} {s2 : Int32} {m : rf_m} {r : (rf_m)} (h : g_X3_recount_267 w a1 a3 a4 a5 a6 s1 s2 m = some r) : fr S_X3_recount m r := by
  unfold g_X3_recount_267 at h
  obtain ⟨_, h⟩ := rf_g_some h
  obtain ⟨_, h⟩ := rf_g_some h
  obtain ⟨_, h⟩ := rf_g_some h
  obtain ⟨_, h⟩ := rf_g_some h
  obtain ⟨_, h⟩ := rf_g_some h
  obtain ⟨_, h⟩ := rf_g_some h
  obtain rfl := Option.some.inj h
  exact fr_i (fr_i (fr_i (fr_i (fr_i (fr_i ((fr_refl _ m)) (fr_c_in (by decide) _)) (fr_c_in (by decide) _)) (fr_c_in (by decide) _)) (fr_c_in (by decide) _)) (fr_c_in (by decide) _)) (fr_c_in (by decide) _)
theorem fg_X3_recount_244 {w : rf_w} {a1 : Int32} {a3 : Int32} {a4 : Int32} {a5 : Int32} {a6 : Int32} {a8 : Int32} {a9 : Int32} {s1 : Int32} {s2 : Int32} {m : rf_m} {r : (rf_m)} (h : g_X3_recount_244 w a1 a3 a4 a5 a6 a8 a9 s1 s2 m = some r) : fr S_X3_recount m r := by
  unfold g_X3_recount_244 at h
  obtain ⟨_, h⟩ := rf_g_some h
  rcases rf_ite_some h with ⟨_, h⟩ | ⟨_, h⟩
  · exact fr_trans (fr_i ((fr_refl _ m)) (fr_c_in (by decide) _)) (fr_mono (fg_X3_recount_267 h) (by decide))
  · exact fr_trans (fr_i ((fr_refl _ m)) (fr_c_in (by decide) _)) (fr_mono (fg_X3_recount_267 h) (by decide))
theorem fg_X3_recount_221 {w : rf_w} {a1 : Int32} {a3 : Int32} {a4 : Int32} {a5 : Int32} {a6 : Int32} {a7 : Int32} {a8 : Int32} {a9 : Int32} {s1 : Int32} {s2 : Int32} {m : rf_m} {r : (rf_m)} (h : g_X3_recount_221 w a1 a3 a4 a5 a6 a7 a8 a9 s1 s2 m = some r) : fr S_X3_recount m r := by
  unfold g_X3_recount_221 at h
  obtain ⟨_, h⟩ := rf_g_some h
  rcases rf_ite_some h with ⟨_, h⟩ | ⟨_, h⟩
  · exact fr_trans (fr_i ((fr_refl _ m)) (fr_c_in (by decide) _)) (fr_mono (fg_X3_recount_244 h) (by decide))
  · exact fr_trans (fr_i ((fr_refl _ m)) (fr_c_in (by decide) _)) (fr_mono (fg_X3_recount_244 h) (by decide))
theorem fg_X3_recount_195 {w : rf_w} {a1 : Int32} {a3 : Int32} {a4 : Int32} {a5 : Int32} {a6 : Int32} {a7 : Int32} {a8 : Int32} {a9 : Int32} {s1 : Int32} {s2 : Int32} {m : rf_m} {r : (rf_m)} (h : g_X3_recount_195 w a1 a3 a4 a5 a6 a7 a8 a9 s1 s2 m = some r) : fr S_X3_recount m r := by
  unfold g_X3_recount_195 at h
  obtain ⟨_, h⟩ := rf_g_some h
  rcases rf_ite_some h with ⟨_, h⟩ | ⟨_, h⟩
  · exact fr_trans (fr_i ((fr_refl _ m)) (fr_c_in (by decide) _)) (fr_mono (fg_X3_recount_221 h) (by decide))
  · exact fr_trans (fr_i ((fr_refl _ m)) (fr_c_in (by decide) _)) (fr_mono (fg_X3_recount_221 h) (by decide))
theorem fg_X3_recount_173 {w : rf_w} {a1 : Int32} {a3 : Int32} {a4 : Int32} {a5 : Int32} {a6 : Int32} {a7 : Int32} {a8 : Int32} {s0 : Int32} {m : rf_m} {r : (rf_m)} (h : g_X3_recount_173 w a1 a3 a4 a5 a6 a7 a8 s0 m = some r) : fr S_X3_recount m r := by
  unfold g_X3_recount_173 at h
  rcases rf_ite_some h with ⟨_, h⟩ | ⟨_, h⟩
  · exact fr_trans ((fr_refl _ m)) (fr_mono (fg_X3_recount_195 h) (by decide))
  · obtain ⟨_, h⟩ := rf_g_some h
    exact fr_trans ((fr_refl _ m)) (fr_mono (fg_X3_recount_195 h) (by decide))
theorem fg_X3_recount_157 {w : rf_w} {rec77 : Int32 → Int32 → Int32 → Int32 → Int32 → Int32 → Int32 → Int32 → Int32 → rf_m → Option (rf_m)} {a1 : Int32} {a2 : Int32} {a3 : Int32} {a4 : Int32} {a5 : Int32} {a6 : Int32} {a7 : Int32} {a8 : Int32} {a9 : Int32} {m : rf_m} (hr_rec77 : ∀ {x0 : Int32} {x1 : Int32} {x2 : Int32} {x3 : Int32} {x4 : Int32} {x5 : Int32} {x6 : Int32} {x7 : Int32} {x8 : Int32} {m : rf_m} {r : (rf_m)}, rec77 x0 x1 x2 x3 x4 x5 x6 x7 x8 m = some r → fr S_X3_recount m r) {r : (rf_m)} (h : g_X3_recount_157 w rec77 a1 a2 a3 a4 a5 a6 a7 a8 a9 m = some r) : fr S_X3_recount m r := by
  unfold g_X3_recount_157 at h
  exact fr_trans ((fr_refl _ m)) (hr_rec77 h)
theorem fg_X3_recount_77_b {w : rf_w} {rec77 : Int32 → Int32 → Int32 → Int32 → Int32 → Int32 → Int32 → Int32 → Int32 → rf_m → Option (rf_m)} {a1 : Int32} {a2 : Int32} {a3 : Int32} {a4 : Int32} {a5 : Int32} {a6 : Int32} {a7 : Int32} {a8 : Int32} {a9 : Int32} {m : rf_m} (hr_rec77 : ∀ {x0 : Int32} {x1 : Int32} {x2 : Int32} {x3 : Int32} {x4 : Int32} {x5 : Int32} {x6 : Int32} {x7 : Int32} {x8 : Int32} {m : rf_m} {r : (rf_m)}, rec77 x0 x1 x2 x3 x4 x5 x6 x7 x8 m = some r → fr S_X3_recount m r) {r : (rf_m)} (h : g_X3_recount_77_b w rec77 a1 a2 a3 a4 a5 a6 a7 a8 a9 m = some r) : fr S_X3_recount m r := by
  unfold g_X3_recount_77_b at h
  obtain ⟨_, h⟩ := rf_g_some h
  rcases rf_ite_some h with ⟨_, h⟩ | ⟨_, h⟩
  · rcases rf_ite_some h with ⟨_, h⟩ | ⟨_, h⟩
    · exact fr_trans ((fr_refl _ m)) (fr_mono (fg_X3_recount_173 h) (by decide))
    · exact fr_trans ((fr_refl _ m)) (fr_mono (fg_X3_recount_173 h) (by decide))
  · obtain ⟨_, h⟩ := rf_g_some h
    have h := fr_vi h
    obtain ⟨y3, m3, q1, h⟩ := rf_b_some h
    have e1 : fr S_X3_recount m m3 := fr_trans ((fr_refl _ m)) (fr_mono (fg_X3_judge q1) (by decide))
    rcases rf_ite_some h with ⟨_, h⟩ | ⟨_, h⟩
    · exact fr_trans e1 (fr_mono (fg_X3_recount_157 hr_rec77 h) (by decide))
    · obtain ⟨y4, m4, q2, h⟩ := rf_b_some h
      have e2 : fr S_X3_recount m m4 := fr_trans e1 (fr_mono (fg_X3_factOf q2) (by decide))
      obtain ⟨y5, m5, q3, h⟩ := rf_b_some h
      have e3 : fr S_X3_recount m m5 := fr_trans e2 (fr_mono (fg_min q3) (by decide))
      obtain ⟨y6, m6, q4, h⟩ := rf_b_some h
      have e4 : fr S_X3_recount m m6 := fr_trans e3 (fr_mono (fg_max q4) (by decide))
      exact fr_trans e4 (fr_mono (fg_X3_recount_157 hr_rec77 h) (by decide))
theorem fg_X3_recount_77 {w : rf_w} (n : Nat) : ∀ {a1 : Int32} {a2 : Int32} {a3 : Int32} {a4 : Int32} {a5 : Int32} {a6 : Int32} {a7 : Int32} {a8 : Int32} {a9 : Int32} {m : rf_m} {r : (rf_m)}, g_X3_recount_77 w n a1 a2 a3 a4 a5 a6 a7 a8 a9 m = some r → fr S_X3_recount m r := by
  induction n with
  | zero => intro a1 a2 a3 a4 a5 a6 a7 a8 a9 m r h; cases h
  | succ n ih =>
    intro a1 a2 a3 a4 a5 a6 a7 a8 a9 m r h
    exact fg_X3_recount_77_b ih h
theorem fg_X3_recount_26 {w : rf_w} {a1 : Int32} {a2 : Int32} {a3 : Int32} {s0 : Int32} {m : rf_m} {r : (rf_m)} (h : g_X3_recount_26 w a1 a2 a3 s0 m = some r) : fr S_X3_recount m r := by
  unfold g_X3_recount_26 at h
  obtain ⟨m0, q1, h⟩ := rf_bv_some h
  have e1 : fr S_X3_recount m m0 := fr_trans ((fr_refl _ m)) (fr_mono (fg_X9_clearFacts q1) (by decide))
  obtain ⟨_, h⟩ := rf_g_some h
  exact fr_trans (fr_i (fr_i e1 (fr_c_in (by decide) _)) (fr_c_in (by decide) _)) (fr_mono (fg_X3_recount_77 _ h) (by decide))
theorem fg_X3_recount {w : rf_w} {m : rf_m} {a1 : Int32} {a2 : Int32} {r : (rf_m)} (h : g_X3_recount w m a1 a2 = some r) : fr S_X3_recount m r := by
  unfold g_X3_recount at h
  obtain ⟨y0, m0, q1, h⟩ := rf_b_some h
  have e1 : fr S_X3_recount m m0 := fr_trans ((fr_refl _ m)) (fr_mono (fg_X3_sortSeen q1) (by decide))
  rcases rf_ite_some h with ⟨_, h⟩ | ⟨_, h⟩
  · exact fr_trans e1 (fr_mono (fg_X3_recount_26 h) (by decide))
  · obtain ⟨_, h⟩ := rf_g_some h
    exact fr_trans e1 (fr_mono (fg_X3_recount_26 h) (by decide))
def S_X3_freshen : fr_S := [(18, 18, none), (25, 25, none), (31, 31, none), (32, 32, none), (34, 34, none), (35, 35, none), (40, 40, none)]
theorem fg_X3_freshen {w : rf_w} {m : rf_m} {a1 : Int32} {r : (rf_m)} (h : g_X3_freshen w m a1 = some r) : fr S_X3_freshen m r := by
  unfold g_X3_freshen at h
  obtain ⟨_, h⟩ := rf_g_some h
  rcases rf_ite_some h with ⟨_, h⟩ | ⟨_, h⟩
  · obtain rfl := Option.some.inj h
    exact (fr_refl _ m)
  · obtain ⟨m1, q1, h⟩ := rf_bv_some h
    have e1 : fr S_X3_freshen m m1 := fr_trans ((fr_refl _ m)) (fr_mono (fg_X3_recount q1) (by decide))
    obtain rfl := Option.some.inj h
    exact e1
def S_X3_freshenAll : fr_S := [(18, 18, none), (25, 25, none), (26, 26, some 19), (31, 31, none), (32, 32, none), (34, 34, none), (35, 35, none), (40, 40, none)]
theorem fg_X3_freshenAll_35 {w : rf_w} {rec10 : Int32 → rf_m → Option (rf_m)} {a1 : Int32} {m : rf_m} (hr_rec10 : ∀ {x0 : Int32} {m : rf_m} {r : (rf_m)}, rec10 x0 m = some r → fr S_X3_freshenAll m r) {r : (rf_m)} (h : g_X3_freshenAll_35 w rec10 a1 m = some r) : fr S_X3_freshenAll m r := by
  unfold g_X3_freshenAll_35 at h
  exact fr_trans ((fr_refl _ m)) (hr_rec10 h)
theorem fg_X3_freshenAll_10_b {w : rf_w} {rec10 : Int32 → rf_m → Option (rf_m)} {a1 : Int32} {m : rf_m} (hr_rec10 : ∀ {x0 : Int32} {m : rf_m} {r : (rf_m)}, rec10 x0 m = some r → fr S_X3_freshenAll m r) {r : (rf_m)} (h : g_X3_freshenAll_10_b w rec10 a1 m = some r) : fr S_X3_freshenAll m r := by
  unfold g_X3_freshenAll_10_b at h
  rcases rf_ite_some h with ⟨_, h⟩ | ⟨_, h⟩
  · obtain rfl := Option.some.inj h
    exact fr_i ((fr_refl _ m)) (by decide)
  · obtain ⟨_, h⟩ := rf_g_some h
    rcases rf_ite_some h with ⟨_, h⟩ | ⟨_, h⟩
    · exact fr_trans ((fr_refl _ m)) (fr_mono (fg_X3_freshenAll_35 hr_rec10 h) (by decide))
    · obtain ⟨m1, q1, h⟩ := rf_bv_some h
      have e1 : fr S_X3_freshenAll m m1 := fr_trans ((fr_refl _ m)) (fr_mono (fg_X3_recount q1) (by decide))
      exact fr_trans e1 (fr_mono (fg_X3_freshenAll_35 hr_rec10 h) (by decide))
theorem fg_X3_freshenAll_10 {w : rf_w} (n : Nat) : ∀ {a1 : Int32} {m : rf_m} {r : (rf_m)}, g_X3_freshenAll_10 w n a1 m = some r → fr S_X3_freshenAll m r := by
  induction n with
  | zero => intro a1 m r h; cases h
  | succ n ih =>
    intro a1 m r h
    exact fg_X3_freshenAll_10_b ih h
theorem fg_X3_freshenAll {w : rf_w} {m : rf_m} {r : (rf_m)} (h : g_X3_freshenAll w m = some r) : fr S_X3_freshenAll m r := by
  unfold g_X3_freshenAll at h
  rcases rf_ite_some h with ⟨_, h⟩ | ⟨_, h⟩
  · obtain rfl := Option.some.inj h
    exact (fr_refl _ m)
  · exact fr_trans ((fr_refl _ m)) (fr_mono (fg_X3_freshenAll_10 _ h) (by decide))
def S_X3_keptAt : fr_S := []
theorem fg_X3_keptAt_55 {w : rf_w} {rec5 : Int32 → Int32 → Int32 → rf_m → Option (Int32 × rf_m)} {a1 : Int32} {a3 : Int32} {a4 : Int32} {m : rf_m} (hr_rec5 : ∀ {x0 : Int32} {x1 : Int32} {x2 : Int32} {m : rf_m} {r : (Int32 × rf_m)}, rec5 x0 x1 x2 m = some r → fr S_X3_keptAt m r.2) {r : (Int32 × rf_m)} (h : g_X3_keptAt_55 w rec5 a1 a3 a4 m = some r) : fr S_X3_keptAt m r.2 := by
  unfold g_X3_keptAt_55 at h
  exact fr_trans ((fr_refl _ m)) (hr_rec5 h)
theorem fg_X3_keptAt_5_b {w : rf_w} {rec5 : Int32 → Int32 → Int32 → rf_m → Option (Int32 × rf_m)} {a1 : Int32} {a3 : Int32} {a4 : Int32} {m : rf_m} (hr_rec5 : ∀ {x0 : Int32} {x1 : Int32} {x2 : Int32} {m : rf_m} {r : (Int32 × rf_m)}, rec5 x0 x1 x2 m = some r → fr S_X3_keptAt m r.2) {r : (Int32 × rf_m)} (h : g_X3_keptAt_5_b w rec5 a1 a3 a4 m = some r) : fr S_X3_keptAt m r.2 := by
  unfold g_X3_keptAt_5_b at h
  obtain ⟨_, h⟩ := rf_g_some h
  rcases rf_ite_some h with ⟨_, h⟩ | ⟨_, h⟩
  · obtain rfl := Option.some.inj h
    exact (fr_refl _ m)
  · obtain ⟨_, h⟩ := rf_g_some h
    have h := fr_vi h
    obtain ⟨y3, m3, q1, h⟩ := rf_b_some h
    have e1 : fr S_X3_keptAt m m3 := fr_trans ((fr_refl _ m)) (fr_mono (fg_X3_isKept q1) (by decide))
    rcases rf_ite_some h with ⟨_, h⟩ | ⟨_, h⟩
    · exact fr_trans e1 (fr_mono (fg_X3_keptAt_55 hr_rec5 h) (by decide))
    · rcases rf_ite_some h with ⟨_, h⟩ | ⟨_, h⟩
      · obtain rfl := Option.some.inj h
        exact e1
      · exact fr_trans e1 (fr_mono (fg_X3_keptAt_55 hr_rec5 h) (by decide))
theorem fg_X3_keptAt_5 {w : rf_w} (n : Nat) : ∀ {a1 : Int32} {a3 : Int32} {a4 : Int32} {m : rf_m} {r : (Int32 × rf_m)}, g_X3_keptAt_5 w n a1 a3 a4 m = some r → fr S_X3_keptAt m r.2 := by
  induction n with
  | zero => intro a1 a3 a4 m r h; cases h
  | succ n ih =>
    intro a1 a3 a4 m r h
    exact fg_X3_keptAt_5_b ih h
theorem fg_X3_keptAt {w : rf_w} {m : rf_m} {a1 : Int32} {a2 : Int32} {r : (Int32 × rf_m)} (h : g_X3_keptAt w m a1 a2 = some r) : fr S_X3_keptAt m r.2 := by
  unfold g_X3_keptAt at h
  exact fr_trans ((fr_refl _ m)) (fr_mono (fg_X3_keptAt_5 _ h) (by decide))
def S_X9_sendsAgain : fr_S := [(25, 25, none)]
theorem fg_X9_sendsAgain_30 {w : rf_w} {rec2 : Int32 → Int32 → rf_m → Option (Int32 × rf_m)} {a1 : Int32} {a2 : Int32} {m : rf_m} (hr_rec2 : ∀ {x0 : Int32} {x1 : Int32} {m : rf_m} {r : (Int32 × rf_m)}, rec2 x0 x1 m = some r → fr S_X9_sendsAgain m r.2) {r : (Int32 × rf_m)} (h : g_X9_sendsAgain_30 w rec2 a1 a2 m = some r) : fr S_X9_sendsAgain m r.2 := by
  unfold g_X9_sendsAgain_30 at h
  exact fr_trans ((fr_refl _ m)) (hr_rec2 h)
theorem fg_X9_sendsAgain_2_b {w : rf_w} {rec2 : Int32 → Int32 → rf_m → Option (Int32 × rf_m)} {a1 : Int32} {a2 : Int32} {m : rf_m} (hr_rec2 : ∀ {x0 : Int32} {x1 : Int32} {m : rf_m} {r : (Int32 × rf_m)}, rec2 x0 x1 m = some r → fr S_X9_sendsAgain m r.2) {r : (Int32 × rf_m)} (h : g_X9_sendsAgain_2_b w rec2 a1 a2 m = some r) : fr S_X9_sendsAgain m r.2 := by
  unfold g_X9_sendsAgain_2_b at h
  rcases rf_ite_some h with ⟨_, h⟩ | ⟨_, h⟩
  · obtain rfl := Option.some.inj h
    exact (fr_refl _ m)
  · obtain ⟨y0, m0, q1, h⟩ := rf_b_some h
    have e1 : fr S_X9_sendsAgain m m0 := fr_trans ((fr_refl _ m)) (fr_mono (fg_X9_isDue q1) (by decide))
    rcases rf_ite_some h with ⟨_, h⟩ | ⟨_, h⟩
    · exact fr_trans e1 (fr_mono (fg_X9_sendsAgain_30 hr_rec2 h) (by decide))
    · obtain ⟨y1, m1, q2, h⟩ := rf_b_some h
      have e2 : fr S_X9_sendsAgain m m1 := fr_trans e1 (fr_mono (fg_X9_holds q2) (by decide))
      rcases rf_ite_some h with ⟨_, h⟩ | ⟨_, h⟩
      · exact fr_trans e2 (fr_mono (fg_X9_sendsAgain_30 hr_rec2 h) (by decide))
      · obtain rfl := Option.some.inj h
        exact e2
theorem fg_X9_sendsAgain_2 {w : rf_w} (n : Nat) : ∀ {a1 : Int32} {a2 : Int32} {m : rf_m} {r : (Int32 × rf_m)}, g_X9_sendsAgain_2 w n a1 a2 m = some r → fr S_X9_sendsAgain m r.2 := by
  induction n with
  | zero => intro a1 a2 m r h; cases h
  | succ n ih =>
    intro a1 a2 m r h
    exact fg_X9_sendsAgain_2_b ih h
theorem fg_X9_sendsAgain {w : rf_w} {m : rf_m} {a1 : Int32} {r : (Int32 × rf_m)} (h : g_X9_sendsAgain w m a1 = some r) : fr S_X9_sendsAgain m r.2 := by
  unfold g_X9_sendsAgain at h
  exact fr_trans ((fr_refl _ m)) (fr_mono (fg_X9_sendsAgain_2 _ h) (by decide))
def S_X3_isAgain : fr_S := [(18, 18, none), (25, 25, none)]
theorem fg_X3_isAgain {w : rf_w} {m : rf_m} {a1 : Int32} {a2 : Int32} {r : (Int32 × rf_m)} (h : g_X3_isAgain w m a1 a2 = some r) : fr S_X3_isAgain m r.2 := by
  unfold g_X3_isAgain at h
  obtain ⟨m0, q1, h⟩ := rf_bv_some h
  have e1 : fr S_X3_isAgain m m0 := fr_trans ((fr_refl _ m)) (fr_mono (fg_X3_layOut q1) (by decide))
  obtain ⟨_, h⟩ := rf_g_some h
  rcases rf_ite_some h with ⟨_, h⟩ | ⟨_, h⟩
  · obtain rfl := Option.some.inj h
    exact e1
  · obtain ⟨y2, m2, q2, h⟩ := rf_b_some h
    have e2 : fr S_X3_isAgain m m2 := fr_trans e1 (fr_mono (fg_X9_sendsAgain q2) (by decide))
    rcases rf_ite_some h with ⟨_, h⟩ | ⟨_, h⟩
    · obtain rfl := Option.some.inj h
      exact e2
    · obtain rfl := Option.some.inj h
      exact e2
def S_X3_againOnes : fr_S := [(18, 18, none), (25, 25, none)]
theorem fg_X3_againOnes_24 {w : rf_w} {rec4 : Int32 → Int32 → Int32 → rf_m → Option (Int32 × rf_m)} {a1 : Int32} {a2 : Int32} {a3 : Int32} {m : rf_m} (hr_rec4 : ∀ {x0 : Int32} {x1 : Int32} {x2 : Int32} {m : rf_m} {r : (Int32 × rf_m)}, rec4 x0 x1 x2 m = some r → fr S_X3_againOnes m r.2) {r : (Int32 × rf_m)} (h : g_X3_againOnes_24 w rec4 a1 a2 a3 m = some r) : fr S_X3_againOnes m r.2 := by
  unfold g_X3_againOnes_24 at h
  exact fr_trans ((fr_refl _ m)) (hr_rec4 h)
theorem fg_X3_againOnes_4_b {w : rf_w} {rec4 : Int32 → Int32 → Int32 → rf_m → Option (Int32 × rf_m)} {a1 : Int32} {a2 : Int32} {a3 : Int32} {m : rf_m} (hr_rec4 : ∀ {x0 : Int32} {x1 : Int32} {x2 : Int32} {m : rf_m} {r : (Int32 × rf_m)}, rec4 x0 x1 x2 m = some r → fr S_X3_againOnes m r.2) {r : (Int32 × rf_m)} (h : g_X3_againOnes_4_b w rec4 a1 a2 a3 m = some r) : fr S_X3_againOnes m r.2 := by
  unfold g_X3_againOnes_4_b at h
  rcases rf_ite_some h with ⟨_, h⟩ | ⟨_, h⟩
  · obtain rfl := Option.some.inj h
    exact (fr_refl _ m)
  · obtain ⟨y0, m0, q1, h⟩ := rf_b_some h
    have e1 : fr S_X3_againOnes m m0 := fr_trans ((fr_refl _ m)) (fr_mono (fg_X3_isAgain q1) (by decide))
    rcases rf_ite_some h with ⟨_, h⟩ | ⟨_, h⟩
    · exact fr_trans e1 (fr_mono (fg_X3_againOnes_24 hr_rec4 h) (by decide))
    · exact fr_trans e1 (fr_mono (fg_X3_againOnes_24 hr_rec4 h) (by decide))
theorem fg_X3_againOnes_4 {w : rf_w} (n : Nat) : ∀ {a1 : Int32} {a2 : Int32} {a3 : Int32} {m : rf_m} {r : (Int32 × rf_m)}, g_X3_againOnes_4 w n a1 a2 a3 m = some r → fr S_X3_againOnes m r.2 := by
  induction n with
  | zero => intro a1 a2 a3 m r h; cases h
  | succ n ih =>
    intro a1 a2 a3 m r h
    exact fg_X3_againOnes_4_b ih h
theorem fg_X3_againOnes {w : rf_w} {m : rf_m} {a1 : Int32} {r : (Int32 × rf_m)} (h : g_X3_againOnes w m a1 = some r) : fr S_X3_againOnes m r.2 := by
  unfold g_X3_againOnes at h
  exact fr_trans ((fr_refl _ m)) (fr_mono (fg_X3_againOnes_4 _ h) (by decide))
def S_X7_isWell : fr_S := []
theorem fg_X7_isWell_2_b {w : rf_w} {rec2 : Int32 → Int32 → Int32 → rf_m → Option (Int32 × rf_m)} {a1 : Int32} {a2 : Int32} {a3 : Int32} {m : rf_m} (hr_rec2 : ∀ {x0 : Int32} {x1 : Int32} {x2 : Int32} {m : rf_m} {r : (Int32 × rf_m)}, rec2 x0 x1 x2 m = some r → fr S_X7_isWell m r.2) {r : (Int32 × rf_m)} (h : g_X7_isWell_2_b w rec2 a1 a2 a3 m = some r) : fr S_X7_isWell m r.2 := by
  unfold g_X7_isWell_2_b at h
  rcases rf_ite_some h with ⟨_, h⟩ | ⟨_, h⟩
  · obtain rfl := Option.some.inj h
    exact (fr_refl _ m)
  · obtain ⟨y0, m0, q1, h⟩ := rf_b_some h
    have e1 : fr S_X7_isWell m m0 := fr_trans ((fr_refl _ m)) (fr_mono (fg_X7_cornerOf q1) (by decide))
    obtain ⟨_, h⟩ := rf_g_some h
    have h := fr_vi h
    rcases rf_ite_some h with ⟨_, h⟩ | ⟨_, h⟩
    · obtain rfl := Option.some.inj h
      exact e1
    · rcases rf_ite_some h with ⟨_, h⟩ | ⟨_, h⟩
      · exact fr_trans e1 (hr_rec2 h)
      · obtain rfl := Option.some.inj h
        exact e1
theorem fg_X7_isWell_2 {w : rf_w} (n : Nat) : ∀ {a1 : Int32} {a2 : Int32} {a3 : Int32} {m : rf_m} {r : (Int32 × rf_m)}, g_X7_isWell_2 w n a1 a2 a3 m = some r → fr S_X7_isWell m r.2 := by
  induction n with
  | zero => intro a1 a2 a3 m r h; cases h
  | succ n ih =>
    intro a1 a2 a3 m r h
    exact fg_X7_isWell_2_b ih h
theorem fg_X7_isWell {w : rf_w} {m : rf_m} {a1 : Int32} {a2 : Int32} {r : (Int32 × rf_m)} (h : g_X7_isWell w m a1 a2 = some r) : fr S_X7_isWell m r.2 := by
  unfold g_X7_isWell at h
  exact fr_trans ((fr_refl _ m)) (fr_mono (fg_X7_isWell_2 _ h) (by decide))
def S_X4_isAble : fr_S := []
theorem fg_X4_isAble_2_b {w : rf_w} {rec2 : Int32 → Int32 → rf_m → Option (Int32 × rf_m)} {a1 : Int32} {a2 : Int32} {m : rf_m} (hr_rec2 : ∀ {x0 : Int32} {x1 : Int32} {m : rf_m} {r : (Int32 × rf_m)}, rec2 x0 x1 m = some r → fr S_X4_isAble m r.2) {r : (Int32 × rf_m)} (h : g_X4_isAble_2_b w rec2 a1 a2 m = some r) : fr S_X4_isAble m r.2 := by
  unfold g_X4_isAble_2_b at h
  rcases rf_ite_some h with ⟨_, h⟩ | ⟨_, h⟩
  · obtain rfl := Option.some.inj h
    exact (fr_refl _ m)
  · obtain ⟨y0, m0, q1, h⟩ := rf_b_some h
    have e1 : fr S_X4_isAble m m0 := fr_trans ((fr_refl _ m)) (fr_mono (fg_X7_cornerOf q1) (by decide))
    obtain ⟨y1, m1, q2, h⟩ := rf_b_some h
    have e2 : fr S_X4_isAble m m1 := fr_trans e1 (fr_mono (fg_X3_tallyOf q2) (by decide))
    rcases rf_ite_some h with ⟨_, h⟩ | ⟨_, h⟩
    · obtain rfl := Option.some.inj h
      exact e2
    · obtain ⟨y2, m2, q3, h⟩ := rf_b_some h
      have e3 : fr S_X4_isAble m m2 := fr_trans e2 (fr_mono (fg_X3_tallyOf q3) (by decide))
      rcases rf_ite_some h with ⟨_, h⟩ | ⟨_, h⟩
      · exact fr_trans e3 (hr_rec2 h)
      · obtain rfl := Option.some.inj h
        exact e3
theorem fg_X4_isAble_2 {w : rf_w} (n : Nat) : ∀ {a1 : Int32} {a2 : Int32} {m : rf_m} {r : (Int32 × rf_m)}, g_X4_isAble_2 w n a1 a2 m = some r → fr S_X4_isAble m r.2 := by
  induction n with
  | zero => intro a1 a2 m r h; cases h
  | succ n ih =>
    intro a1 a2 m r h
    exact fg_X4_isAble_2_b ih h
theorem fg_X4_isAble {w : rf_w} {m : rf_m} {a1 : Int32} {r : (Int32 × rf_m)} (h : g_X4_isAble w m a1 = some r) : fr S_X4_isAble m r.2 := by
  unfold g_X4_isAble at h
  exact fr_trans ((fr_refl _ m)) (fr_mono (fg_X4_isAble_2 _ h) (by decide))
def S_X11_sideOf : fr_S := []
theorem fg_X11_sideOf {w : rf_w} {m : rf_m} {a0 : Int32} {a1 : Int32} {r : (Int32 × rf_m)} (h : g_X11_sideOf w m a0 a1 = some r) : fr S_X11_sideOf m r.2 := by
  unfold g_X11_sideOf at h
  obtain ⟨y0, m0, q1, h⟩ := rf_b_some h
  have e1 : fr S_X11_sideOf m m0 := fr_trans ((fr_refl _ m)) (fr_mono (fg_min q1) (by decide))
  obtain ⟨y1, m1, q2, h⟩ := rf_b_some h
  have e2 : fr S_X11_sideOf m m1 := fr_trans e1 (fr_mono (fg_max q2) (by decide))
  obtain rfl := Option.some.inj h
  exact e2
def S_X7_opposite : fr_S := []
theorem fg_X7_opposite {w : rf_w} {m : rf_m} {a1 : Int32} {a2 : Int32} {r : (Int32 × rf_m)} (h : g_X7_opposite w m a1 a2 = some r) : fr S_X7_opposite m r.2 := by
  unfold g_X7_opposite at h
  obtain ⟨y0, m0, q1, h⟩ := rf_b_some h
  have e1 : fr S_X7_opposite m m0 := fr_trans ((fr_refl _ m)) (fr_mono (fg_X7_cornerOf q1) (by decide))
  obtain ⟨_, h⟩ := rf_g_some h
  obtain ⟨_, h⟩ := rf_g_some h
  obtain ⟨y3, m3, q2, h⟩ := rf_b_some h
  have e2 : fr S_X7_opposite m m3 := fr_trans e1 (fr_mono (fg_X11_sideOf q2) (by decide))
  obtain rfl := Option.some.inj h
  exact e2
def S_X11_sineOf : fr_S := []
theorem fg_X11_sineOf {w : rf_w} {m : rf_m} {a0 : Int32} {r : (Int32 × rf_m)} (h : g_X11_sineOf w m a0 = some r) : fr S_X11_sineOf m r.2 := by
  unfold g_X11_sineOf at h
  have h := fr_vl h
  obtain ⟨_, h⟩ := rf_g_some h
  obtain rfl := Option.some.inj h
  exact (fr_refl _ m)
def S_X4_takeUp : fr_S := [(175, 175, some 8), (177, 177, none), (178, 178, none), (179, 179, none), (180, 180, none)]
theorem fg_X4_takeUp_154 {w : rf_w} {rec2 : Int32 → Int32 → rf_m → Option (rf_m)} {a1 : Int32} {a2 : Int32} {s1 : Int32} {s2 : Int32} {m : rf_m} (hr_rec2 : ∀ {x0 : Int32} {x1 : Int32} {m : rf_m} {r : (rf_m)}, rec2 x0 x1 m = some r → fr S_X4_takeUp m r) {r : (rf_m)} (h : g_X4_takeUp_154 w rec2 a1 a2 s1 s2 m = some r) : fr S_X4_takeUp m r := by
  unfold g_X4_takeUp_154 at h
  obtain ⟨_, h⟩ := rf_g_some h
  exact fr_trans (fr_i ((fr_refl _ m)) (fr_c_in (by decide) _)) (hr_rec2 h)
theorem fg_X4_takeUp_78 {w : rf_w} {rec2 : Int32 → Int32 → rf_m → Option (rf_m)} {a1 : Int32} {a2 : Int32} {a6 : Int32} {a7 : Int32} {s0 : Int32} {m : rf_m} (hr_rec2 : ∀ {x0 : Int32} {x1 : Int32} {m : rf_m} {r : (rf_m)}, rec2 x0 x1 m = some r → fr S_X4_takeUp m r) {r : (rf_m)} (h : g_X4_takeUp_78 w rec2 a1 a2 a6 a7 s0 m = some r) : fr S_X4_takeUp m r := by
  unfold g_X4_takeUp_78 at h
  obtain ⟨y0, m0, q1, h⟩ := rf_b_some h
  have e1 : fr S_X4_takeUp m m0 := fr_trans ((fr_refl _ m)) (fr_mono (fg_X7_opposite q1) (by decide))
  obtain ⟨_, h⟩ := rf_g_some h
  obtain ⟨y2, m2, q2, h⟩ := rf_b_some h
  have e2 : fr S_X4_takeUp m m2 := fr_trans (fr_i e1 (fr_c_in (by decide) _)) (fr_mono (fg_min q2) (by decide))
  obtain ⟨_, h⟩ := rf_g_some h
  rcases rf_ite_some h with ⟨_, h⟩ | ⟨_, h⟩
  · obtain ⟨y4, m4, q3, h⟩ := rf_b_some h
    have e3 : fr S_X4_takeUp m m4 := fr_trans (fr_i e2 (fr_c_in (by decide) _)) (fr_mono (fg_max q3) (by decide))
    exact fr_trans e3 (fr_mono (fg_X4_takeUp_154 hr_rec2 h) (by decide))
  · obtain ⟨y5, m5, q4, h⟩ := rf_b_some h
    have e4 : fr S_X4_takeUp m m5 := fr_trans (fr_i e2 (fr_c_in (by decide) _)) (fr_mono (fg_X11_sineOf q4) (by decide))
    exact fr_trans e4 (fr_mono (fg_X4_takeUp_154 hr_rec2 h) (by decide))
theorem fg_X4_takeUp_77 {w : rf_w} {rec2 : Int32 → Int32 → rf_m → Option (rf_m)} {a1 : Int32} {a2 : Int32} {a6 : Int32} {a7 : Int32} {m : rf_m} (hr_rec2 : ∀ {x0 : Int32} {x1 : Int32} {m : rf_m} {r : (rf_m)}, rec2 x0 x1 m = some r → fr S_X4_takeUp m r) {r : (rf_m)} (h : g_X4_takeUp_77 w rec2 a1 a2 a6 a7 m = some r) : fr S_X4_takeUp m r := by
  unfold g_X4_takeUp_77 at h
  exact fr_trans ((fr_refl _ m)) (fr_mono (fg_X4_takeUp_78 hr_rec2 h) (by decide))
theorem fg_X4_takeUp_2_b {w : rf_w} {rec2 : Int32 → Int32 → rf_m → Option (rf_m)} {a1 : Int32} {a2 : Int32} {m : rf_m} (hr_rec2 : ∀ {x0 : Int32} {x1 : Int32} {m : rf_m} {r : (rf_m)}, rec2 x0 x1 m = some r → fr S_X4_takeUp m r) {r : (rf_m)} (h : g_X4_takeUp_2_b w rec2 a1 a2 m = some r) : fr S_X4_takeUp m r := by
  unfold g_X4_takeUp_2_b at h
  rcases rf_ite_some h with ⟨_, h⟩ | ⟨_, h⟩
  · obtain ⟨_, h⟩ := rf_g_some h
    obtain rfl := Option.some.inj h
    exact fr_i (fr_i ((fr_refl _ m)) (fr_c_in (by decide) _)) (by decide)
  · obtain ⟨y1, m1, q1, h⟩ := rf_b_some h
    have e1 : fr S_X4_takeUp m m1 := fr_trans ((fr_refl _ m)) (fr_mono (fg_X7_cornerOf q1) (by decide))
    obtain ⟨y2, m2, q2, h⟩ := rf_b_some h
    have e2 : fr S_X4_takeUp m m2 := fr_trans e1 (fr_mono (fg_X3_tallyOf q2) (by decide))
    obtain ⟨y3, m3, q3, h⟩ := rf_b_some h
    have e3 : fr S_X4_takeUp m m3 := fr_trans e2 (fr_mono (fg_X3_tallyOf q3) (by decide))
    obtain ⟨y4, m4, q4, h⟩ := rf_b_some h
    have e4 : fr S_X4_takeUp m m4 := fr_trans e3 (fr_mono (fg_X11_sineOf q4) (by decide))
    obtain ⟨y5, m5, q5, h⟩ := rf_b_some h
    have e5 : fr S_X4_takeUp m m5 := fr_trans e4 (fr_mono (fg_X11_sineOf q5) (by decide))
    rcases rf_ite_some h with ⟨_, h⟩ | ⟨_, h⟩
    · exact fr_trans e5 (fr_mono (fg_X4_takeUp_77 hr_rec2 h) (by decide))
    · rcases rf_ite_some h with ⟨_, h⟩ | ⟨_, h⟩
      · exact fr_trans e5 (fr_mono (fg_X4_takeUp_77 hr_rec2 h) (by decide))
      · exact fr_trans e5 (fr_mono (fg_X4_takeUp_78 hr_rec2 h) (by decide))
theorem fg_X4_takeUp_2 {w : rf_w} (n : Nat) : ∀ {a1 : Int32} {a2 : Int32} {m : rf_m} {r : (rf_m)}, g_X4_takeUp_2 w n a1 a2 m = some r → fr S_X4_takeUp m r := by
  induction n with
  | zero => intro a1 a2 m r h; cases h
  | succ n ih =>
    intro a1 a2 m r h
    exact fg_X4_takeUp_2_b ih h
theorem fg_X4_takeUp {w : rf_w} {m : rf_m} {a1 : Int32} {r : (rf_m)} (h : g_X4_takeUp w m a1 = some r) : fr S_X4_takeUp m r := by
  unfold g_X4_takeUp at h
  exact fr_trans ((fr_refl _ m)) (fr_mono (fg_X4_takeUp_2 _ h) (by decide))
def S_X4_gatherWell : fr_S := [(175, 175, some 8), (177, 177, none), (178, 178, none), (179, 179, none), (180, 180, none)]
theorem fg_X4_gatherWell_56 {w : rf_w} {rec9 : Int32 → Int32 → Int32 → rf_m → Option (Int32 × rf_m)} {a1 : Int32} {a2 : Int32} {a3 : Int32} {m : rf_m} (hr_rec9 : ∀ {x0 : Int32} {x1 : Int32} {x2 : Int32} {m : rf_m} {r : (Int32 × rf_m)}, rec9 x0 x1 x2 m = some r → fr S_X4_gatherWell m r.2) {r : (Int32 × rf_m)} (h : g_X4_gatherWell_56 w rec9 a1 a2 a3 m = some r) : fr S_X4_gatherWell m r.2 := by
  unfold g_X4_gatherWell_56 at h
  exact fr_trans ((fr_refl _ m)) (hr_rec9 h)
theorem fg_X4_gatherWell_9_b {w : rf_w} {rec9 : Int32 → Int32 → Int32 → rf_m → Option (Int32 × rf_m)} {a1 : Int32} {a2 : Int32} {a3 : Int32} {m : rf_m} (hr_rec9 : ∀ {x0 : Int32} {x1 : Int32} {x2 : Int32} {m : rf_m} {r : (Int32 × rf_m)}, rec9 x0 x1 x2 m = some r → fr S_X4_gatherWell m r.2) {r : (Int32 × rf_m)} (h : g_X4_gatherWell_9_b w rec9 a1 a2 a3 m = some r) : fr S_X4_gatherWell m r.2 := by
  unfold g_X4_gatherWell_9_b at h
  rcases rf_ite_some h with ⟨_, h⟩ | ⟨_, h⟩
  · obtain rfl := Option.some.inj h
    exact (fr_refl _ m)
  · obtain ⟨y0, m0, q1, h⟩ := rf_b_some h
    have e1 : fr S_X4_gatherWell m m0 := fr_trans ((fr_refl _ m)) (fr_mono (fg_X7_isWell q1) (by decide))
    rcases rf_ite_some h with ⟨_, h⟩ | ⟨_, h⟩
    · exact fr_trans e1 (fr_mono (fg_X4_gatherWell_56 hr_rec9 h) (by decide))
    · rcases rf_ite_some h with ⟨_, h⟩ | ⟨_, h⟩
      · obtain ⟨y1, m1, q2, h⟩ := rf_b_some h
        have e2 : fr S_X4_gatherWell m m1 := fr_trans e1 (fr_mono (fg_X4_isAble q2) (by decide))
        rcases rf_ite_some h with ⟨_, h⟩ | ⟨_, h⟩
        · exact fr_trans e2 (fr_mono (fg_X4_gatherWell_56 hr_rec9 h) (by decide))
        · obtain ⟨m2, q3, h⟩ := rf_bv_some h
          have e3 : fr S_X4_gatherWell m m2 := fr_trans e2 (fr_mono (fg_X4_takeUp q3) (by decide))
          exact fr_trans e3 (fr_mono (fg_X4_gatherWell_56 hr_rec9 h) (by decide))
      · obtain rfl := Option.some.inj h
        exact e1
theorem fg_X4_gatherWell_9 {w : rf_w} (n : Nat) : ∀ {a1 : Int32} {a2 : Int32} {a3 : Int32} {m : rf_m} {r : (Int32 × rf_m)}, g_X4_gatherWell_9 w n a1 a2 a3 m = some r → fr S_X4_gatherWell m r.2 := by
  induction n with
  | zero => intro a1 a2 a3 m r h; cases h
  | succ n ih =>
    intro a1 a2 a3 m r h
    exact fg_X4_gatherWell_9_b ih h
theorem fg_X4_gatherWell {w : rf_w} {m : rf_m} {a1 : Int32} {r : (Int32 × rf_m)} (h : g_X4_gatherWell w m a1 = some r) : fr S_X4_gatherWell m r.2 := by
  unfold g_X4_gatherWell at h
  exact fr_trans (fr_i ((fr_refl _ m)) (by decide)) (fr_mono (fg_X4_gatherWell_9 _ h) (by decide))
def S_X4_measureShrink : fr_S := [(175, 175, some 12)]
theorem fg_X4_measureShrink_106 {w : rf_w} {rec9 : Int32 → rf_m → Option (rf_m)} {a1 : Int32} {m : rf_m} (hr_rec9 : ∀ {x0 : Int32} {m : rf_m} {r : (rf_m)}, rec9 x0 m = some r → fr S_X4_measureShrink m r) {r : (rf_m)} (h : g_X4_measureShrink_106 w rec9 a1 m = some r) : fr S_X4_measureShrink m r := by
  unfold g_X4_measureShrink_106 at h
  exact fr_trans ((fr_refl _ m)) (hr_rec9 h)
theorem fg_X4_measureShrink_9_b {w : rf_w} {rec9 : Int32 → rf_m → Option (rf_m)} {a1 : Int32} {m : rf_m} (hr_rec9 : ∀ {x0 : Int32} {m : rf_m} {r : (rf_m)}, rec9 x0 m = some r → fr S_X4_measureShrink m r) {r : (rf_m)} (h : g_X4_measureShrink_9_b w rec9 a1 m = some r) : fr S_X4_measureShrink m r := by
  unfold g_X4_measureShrink_9_b at h
  rcases rf_ite_some h with ⟨_, h⟩ | ⟨_, h⟩
  · obtain rfl := Option.some.inj h
    exact (fr_refl _ m)
  · obtain ⟨_, h⟩ := rf_g_some h
    obtain ⟨_, h⟩ := rf_g_some h
    obtain ⟨_, h⟩ := rf_g_some h
    obtain ⟨y3, m3, q1, h⟩ := rf_b_some h
    have e1 : fr S_X4_measureShrink m m3 := fr_trans ((fr_refl _ m)) (fr_mono (fg_min q1) (by decide))
    obtain ⟨y4, m4, q2, h⟩ := rf_b_some h
    have e2 : fr S_X4_measureShrink m m4 := fr_trans e1 (fr_mono (fg_min q2) (by decide))
    obtain ⟨_, h⟩ := rf_g_some h
    obtain ⟨_, h⟩ := rf_g_some h
    obtain ⟨_, h⟩ := rf_g_some h
    obtain ⟨y8, m8, q3, h⟩ := rf_b_some h
    have e3 : fr S_X4_measureShrink m m8 := fr_trans e2 (fr_mono (fg_max q3) (by decide))
    obtain ⟨y9, m9, q4, h⟩ := rf_b_some h
    have e4 : fr S_X4_measureShrink m m9 := fr_trans e3 (fr_mono (fg_max q4) (by decide))
    rcases rf_ite_some h with ⟨_, h⟩ | ⟨_, h⟩
    · exact fr_trans e4 (fr_mono (fg_X4_measureShrink_106 hr_rec9 h) (by decide))
    · obtain ⟨_, h⟩ := rf_g_some h
      obtain ⟨y11, m11, q5, h⟩ := rf_b_some h
      have e5 : fr S_X4_measureShrink m m11 := fr_trans e4 (fr_mono (fg_minL q5) (by decide))
      exact fr_trans (fr_l e5 (by decide)) (fr_mono (fg_X4_measureShrink_106 hr_rec9 h) (by decide))
theorem fg_X4_measureShrink_9 {w : rf_w} (n : Nat) : ∀ {a1 : Int32} {m : rf_m} {r : (rf_m)}, g_X4_measureShrink_9 w n a1 m = some r → fr S_X4_measureShrink m r := by
  induction n with
  | zero => intro a1 m r h; cases h
  | succ n ih =>
    intro a1 m r h
    exact fg_X4_measureShrink_9_b ih h
theorem fg_X4_measureShrink {w : rf_w} {m : rf_m} {r : (rf_m)} (h : g_X4_measureShrink w m = some r) : fr S_X4_measureShrink m r := by
  unfold g_X4_measureShrink at h
  exact fr_trans (fr_l ((fr_refl _ m)) (by decide)) (fr_mono (fg_X4_measureShrink_9 _ h) (by decide))
def S_X6_sideAt : fr_S := []
theorem fg_X6_sideAt {w : rf_w} {m : rf_m} {a1 : Int32} {r : (Int32 × rf_m)} (h : g_X6_sideAt w m a1 = some r) : fr S_X6_sideAt m r.2 := by
  unfold g_X6_sideAt at h
  obtain ⟨_, h⟩ := rf_g_some h
  obtain rfl := Option.some.inj h
  exact (fr_refl _ m)
def S_X6_lengthOf : fr_S := []
theorem fg_X6_lengthOf_80 {w : rf_w} {rec7 : Int32 → Int32 → Int32 → rf_m → Option (Int32 × rf_m)} {a1 : Int32} {a2 : Int32} {a3 : Int32} {m : rf_m} (hr_rec7 : ∀ {x0 : Int32} {x1 : Int32} {x2 : Int32} {m : rf_m} {r : (Int32 × rf_m)}, rec7 x0 x1 x2 m = some r → fr S_X6_lengthOf m r.2) {r : (Int32 × rf_m)} (h : g_X6_lengthOf_80 w rec7 a1 a2 a3 m = some r) : fr S_X6_lengthOf m r.2 := by
  unfold g_X6_lengthOf_80 at h
  exact fr_trans ((fr_refl _ m)) (hr_rec7 h)
theorem fg_X6_lengthOf_7_b {w : rf_w} {rec7 : Int32 → Int32 → Int32 → rf_m → Option (Int32 × rf_m)} {a1 : Int32} {a2 : Int32} {a3 : Int32} {m : rf_m} (hr_rec7 : ∀ {x0 : Int32} {x1 : Int32} {x2 : Int32} {m : rf_m} {r : (Int32 × rf_m)}, rec7 x0 x1 x2 m = some r → fr S_X6_lengthOf m r.2) {r : (Int32 × rf_m)} (h : g_X6_lengthOf_7_b w rec7 a1 a2 a3 m = some r) : fr S_X6_lengthOf m r.2 := by
  unfold g_X6_lengthOf_7_b at h
  obtain ⟨_, h⟩ := rf_g_some h
  rcases rf_ite_some h with ⟨_, h⟩ | ⟨_, h⟩
  · obtain rfl := Option.some.inj h
    exact (fr_refl _ m)
  · obtain ⟨_, h⟩ := rf_g_some h
    have h := fr_vi h
    rcases rf_ite_some h with ⟨_, h⟩ | ⟨_, h⟩
    · exact fr_trans ((fr_refl _ m)) (fr_mono (fg_X6_lengthOf_80 hr_rec7 h) (by decide))
    · obtain ⟨_, h⟩ := rf_g_some h
      obtain ⟨_, h⟩ := rf_g_some h
      obtain ⟨_, h⟩ := rf_g_some h
      obtain ⟨_, h⟩ := rf_g_some h
      have h := fr_vi h
      exact fr_trans ((fr_refl _ m)) (fr_mono (fg_X6_lengthOf_80 hr_rec7 h) (by decide))
theorem fg_X6_lengthOf_7 {w : rf_w} (n : Nat) : ∀ {a1 : Int32} {a2 : Int32} {a3 : Int32} {m : rf_m} {r : (Int32 × rf_m)}, g_X6_lengthOf_7 w n a1 a2 a3 m = some r → fr S_X6_lengthOf m r.2 := by
  induction n with
  | zero => intro a1 a2 a3 m r h; cases h
  | succ n ih =>
    intro a1 a2 a3 m r h
    exact fg_X6_lengthOf_7_b ih h
theorem fg_X6_lengthOf {w : rf_w} {m : rf_m} {a1 : Int32} {r : (Int32 × rf_m)} (h : g_X6_lengthOf w m a1 = some r) : fr S_X6_lengthOf m r.2 := by
  unfold g_X6_lengthOf at h
  exact fr_trans ((fr_refl _ m)) (fr_mono (fg_X6_lengthOf_7 _ h) (by decide))
def S_X6_twinOf : fr_S := []
theorem fg_X6_twinOf_32 {w : rf_w} {rec2 : Int32 → Int32 → rf_m → Option (Int32 × rf_m)} {a1 : Int32} {a2 : Int32} {m : rf_m} (hr_rec2 : ∀ {x0 : Int32} {x1 : Int32} {m : rf_m} {r : (Int32 × rf_m)}, rec2 x0 x1 m = some r → fr S_X6_twinOf m r.2) {r : (Int32 × rf_m)} (h : g_X6_twinOf_32 w rec2 a1 a2 m = some r) : fr S_X6_twinOf m r.2 := by
  unfold g_X6_twinOf_32 at h
  exact fr_trans ((fr_refl _ m)) (hr_rec2 h)
theorem fg_X6_twinOf_2_b {w : rf_w} {rec2 : Int32 → Int32 → rf_m → Option (Int32 × rf_m)} {a1 : Int32} {a2 : Int32} {m : rf_m} (hr_rec2 : ∀ {x0 : Int32} {x1 : Int32} {m : rf_m} {r : (Int32 × rf_m)}, rec2 x0 x1 m = some r → fr S_X6_twinOf m r.2) {r : (Int32 × rf_m)} (h : g_X6_twinOf_2_b w rec2 a1 a2 m = some r) : fr S_X6_twinOf m r.2 := by
  unfold g_X6_twinOf_2_b at h
  rcases rf_ite_some h with ⟨_, h⟩ | ⟨_, h⟩
  · obtain rfl := Option.some.inj h
    exact (fr_refl _ m)
  · rcases rf_ite_some h with ⟨_, h⟩ | ⟨_, h⟩
    · exact fr_trans ((fr_refl _ m)) (fr_mono (fg_X6_twinOf_32 hr_rec2 h) (by decide))
    · obtain ⟨_, h⟩ := rf_g_some h
      obtain ⟨_, h⟩ := rf_g_some h
      rcases rf_ite_some h with ⟨_, h⟩ | ⟨_, h⟩
      · obtain rfl := Option.some.inj h
        exact (fr_refl _ m)
      · exact fr_trans ((fr_refl _ m)) (fr_mono (fg_X6_twinOf_32 hr_rec2 h) (by decide))
theorem fg_X6_twinOf_2 {w : rf_w} (n : Nat) : ∀ {a1 : Int32} {a2 : Int32} {m : rf_m} {r : (Int32 × rf_m)}, g_X6_twinOf_2 w n a1 a2 m = some r → fr S_X6_twinOf m r.2 := by
  induction n with
  | zero => intro a1 a2 m r h; cases h
  | succ n ih =>
    intro a1 a2 m r h
    exact fg_X6_twinOf_2_b ih h
theorem fg_X6_twinOf {w : rf_w} {m : rf_m} {a1 : Int32} {r : (Int32 × rf_m)} (h : g_X6_twinOf w m a1 = some r) : fr S_X6_twinOf m r.2 := by
  unfold g_X6_twinOf at h
  exact fr_trans ((fr_refl _ m)) (fr_mono (fg_X6_twinOf_2 _ h) (by decide))
def S_X6_areTorn : fr_S := []
theorem fg_X6_areTorn {w : rf_w} {m : rf_m} {a1 : Int32} {a2 : Int32} {r : (Int32 × rf_m)} (h : g_X6_areTorn w m a1 a2 = some r) : fr S_X6_areTorn m r.2 := by
  unfold g_X6_areTorn at h
  obtain ⟨y0, m0, q1, h⟩ := rf_b_some h
  have e1 : fr S_X6_areTorn m m0 := fr_trans ((fr_refl _ m)) (fr_mono (fg_X6_lengthOf q1) (by decide))
  obtain ⟨y1, m1, q2, h⟩ := rf_b_some h
  have e2 : fr S_X6_areTorn m m1 := fr_trans e1 (fr_mono (fg_X6_lengthOf q2) (by decide))
  obtain ⟨y2, m2, q3, h⟩ := rf_b_some h
  have e3 : fr S_X6_areTorn m m2 := fr_trans e2 (fr_mono (fg_abs q3) (by decide))
  obtain ⟨_, h⟩ := rf_g_some h
  obtain ⟨_, h⟩ := rf_g_some h
  rcases rf_ite_some h with ⟨_, h⟩ | ⟨_, h⟩
  · obtain rfl := Option.some.inj h
    exact e3
  · obtain rfl := Option.some.inj h
    exact e3
def S_X6_leastOf : fr_S := []
theorem fg_X6_leastOf {w : rf_w} {m : rf_m} {a1 : Int32} {r : (Int32 × rf_m)} (h : g_X6_leastOf w m a1 = some r) : fr S_X6_leastOf m r.2 := by
  unfold g_X6_leastOf at h
  obtain ⟨y0, m0, q1, h⟩ := rf_b_some h
  have e1 : fr S_X6_leastOf m m0 := fr_trans ((fr_refl _ m)) (fr_mono (fg_X6_lengthOf q1) (by decide))
  obtain ⟨_, h⟩ := rf_g_some h
  have h := fr_vi h
  obtain ⟨y3, m3, q2, h⟩ := rf_b_some h
  have e2 : fr S_X6_leastOf m m3 := fr_trans e1 (fr_mono (fg_X6_twinOf q2) (by decide))
  rcases rf_ite_some h with ⟨_, h⟩ | ⟨_, h⟩
  · obtain rfl := Option.some.inj h
    exact e2
  · obtain ⟨y4, m4, q3, h⟩ := rf_b_some h
    have e3 : fr S_X6_leastOf m m4 := fr_trans e2 (fr_mono (fg_X6_lengthOf q3) (by decide))
    obtain ⟨_, h⟩ := rf_g_some h
    have h := fr_vi h
    obtain ⟨y7, m7, q4, h⟩ := rf_b_some h
    have e4 : fr S_X6_leastOf m m7 := fr_trans e3 (fr_mono (fg_X6_areTorn q4) (by decide))
    rcases rf_ite_some h with ⟨_, h⟩ | ⟨_, h⟩
    · obtain ⟨y8, m8, q5, h⟩ := rf_b_some h
      have e5 : fr S_X6_leastOf m m8 := fr_trans e4 (fr_mono (fg_max q5) (by decide))
      obtain rfl := Option.some.inj h
      exact e5
    · obtain ⟨y9, m9, q6, h⟩ := rf_b_some h
      have e6 : fr S_X6_leastOf m m9 := fr_trans e4 (fr_mono (fg_min q6) (by decide))
      obtain rfl := Option.some.inj h
      exact e6
def S_X6_mostOf : fr_S := []
theorem fg_X6_mostOf {w : rf_w} {m : rf_m} {a1 : Int32} {r : (Int32 × rf_m)} (h : g_X6_mostOf w m a1 = some r) : fr S_X6_mostOf m r.2 := by
  unfold g_X6_mostOf at h
  obtain ⟨y0, m0, q1, h⟩ := rf_b_some h
  have e1 : fr S_X6_mostOf m m0 := fr_trans ((fr_refl _ m)) (fr_mono (fg_X6_lengthOf q1) (by decide))
  obtain ⟨_, h⟩ := rf_g_some h
  have h := fr_vi h
  obtain ⟨y3, m3, q2, h⟩ := rf_b_some h
  have e2 : fr S_X6_mostOf m m3 := fr_trans e1 (fr_mono (fg_X6_twinOf q2) (by decide))
  rcases rf_ite_some h with ⟨_, h⟩ | ⟨_, h⟩
  · obtain rfl := Option.some.inj h
    exact e2
  · obtain ⟨y4, m4, q3, h⟩ := rf_b_some h
    have e3 : fr S_X6_mostOf m m4 := fr_trans e2 (fr_mono (fg_X6_lengthOf q3) (by decide))
    obtain ⟨_, h⟩ := rf_g_some h
    have h := fr_vi h
    obtain ⟨y7, m7, q4, h⟩ := rf_b_some h
    have e4 : fr S_X6_mostOf m m7 := fr_trans e3 (fr_mono (fg_X6_areTorn q4) (by decide))
    rcases rf_ite_some h with ⟨_, h⟩ | ⟨_, h⟩
    · obtain ⟨y8, m8, q5, h⟩ := rf_b_some h
      have e5 : fr S_X6_mostOf m m8 := fr_trans e4 (fr_mono (fg_min q5) (by decide))
      obtain rfl := Option.some.inj h
      exact e5
    · obtain ⟨y9, m9, q6, h⟩ := rf_b_some h
      have e6 : fr S_X6_mostOf m m9 := fr_trans e4 (fr_mono (fg_max q6) (by decide))
      obtain rfl := Option.some.inj h
      exact e6
def S_X4_apartFrom : fr_S := []
theorem fg_X4_apartFrom {w : rf_w} {m : rf_m} {a1 : Int32} {r : (Int32 × rf_m)} (h : g_X4_apartFrom w m a1 = some r) : fr S_X4_apartFrom m r.2 := by
  unfold g_X4_apartFrom at h
  obtain ⟨y0, m0, q1, h⟩ := rf_b_some h
  have e1 : fr S_X4_apartFrom m m0 := fr_trans ((fr_refl _ m)) (fr_mono (fg_X6_leastOf q1) (by decide))
  obtain ⟨y1, m1, q2, h⟩ := rf_b_some h
  have e2 : fr S_X4_apartFrom m m1 := fr_trans e1 (fr_mono (fg_X6_mostOf q2) (by decide))
  obtain ⟨y2, m2, q3, h⟩ := rf_b_some h
  have e3 : fr S_X4_apartFrom m m2 := fr_trans e2 (fr_mono (fg_max q3) (by decide))
  obtain ⟨y3, m3, q4, h⟩ := rf_b_some h
  have e4 : fr S_X4_apartFrom m m3 := fr_trans e3 (fr_mono (fg_max q4) (by decide))
  obtain rfl := Option.some.inj h
  exact e4
def S_X4_placeOf : fr_S := []
theorem fg_X4_placeOf_2_b {w : rf_w} {rec2 : Int32 → Int32 → Int32 → rf_m → Option (Int32 × rf_m)} {a1 : Int32} {a2 : Int32} {a3 : Int32} {m : rf_m} (hr_rec2 : ∀ {x0 : Int32} {x1 : Int32} {x2 : Int32} {m : rf_m} {r : (Int32 × rf_m)}, rec2 x0 x1 x2 m = some r → fr S_X4_placeOf m r.2) {r : (Int32 × rf_m)} (h : g_X4_placeOf_2_b w rec2 a1 a2 a3 m = some r) : fr S_X4_placeOf m r.2 := by
  unfold g_X4_placeOf_2_b at h
  rcases rf_ite_some h with ⟨_, h⟩ | ⟨_, h⟩
  · obtain rfl := Option.some.inj h
    exact (fr_refl _ m)
  · obtain ⟨_, h⟩ := rf_g_some h
    rcases rf_ite_some h with ⟨_, h⟩ | ⟨_, h⟩
    · obtain rfl := Option.some.inj h
      exact (fr_refl _ m)
    · exact fr_trans ((fr_refl _ m)) (hr_rec2 h)
theorem fg_X4_placeOf_2 {w : rf_w} (n : Nat) : ∀ {a1 : Int32} {a2 : Int32} {a3 : Int32} {m : rf_m} {r : (Int32 × rf_m)}, g_X4_placeOf_2 w n a1 a2 a3 m = some r → fr S_X4_placeOf m r.2 := by
  induction n with
  | zero => intro a1 a2 a3 m r h; cases h
  | succ n ih =>
    intro a1 a2 a3 m r h
    exact fg_X4_placeOf_2_b ih h
theorem fg_X4_placeOf {w : rf_w} {m : rf_m} {a1 : Int32} {a2 : Int32} {r : (Int32 × rf_m)} (h : g_X4_placeOf w m a1 a2 = some r) : fr S_X4_placeOf m r.2 := by
  unfold g_X4_placeOf at h
  exact fr_trans ((fr_refl _ m)) (fr_mono (fg_X4_placeOf_2 _ h) (by decide))
def S_X4_carriedLeast : fr_S := []
theorem fg_X4_carriedLeast {w : rf_w} {m : rf_m} {a1 : Int64} {a3 : Int32} {a4 : Int32} {r : (Int64 × rf_m)} (h : g_X4_carriedLeast w m a1 a3 a4 = some r) : fr S_X4_carriedLeast m r.2 := by
  unfold g_X4_carriedLeast at h
  obtain ⟨_, h⟩ := rf_g_some h
  rcases rf_ite_some h with ⟨_, h⟩ | ⟨_, h⟩
  · obtain rfl := Option.some.inj h
    exact (fr_refl _ m)
  · obtain ⟨_, h⟩ := rf_g_some h
    obtain ⟨_, h⟩ := rf_g_some h
    obtain ⟨_, h⟩ := rf_g_some h
    obtain rfl := Option.some.inj h
    exact (fr_refl _ m)
def S_X4_carriedMost : fr_S := []
theorem fg_X4_carriedMost {w : rf_w} {m : rf_m} {a1 : Int64} {a3 : Int32} {a4 : Int32} {r : (Int64 × rf_m)} (h : g_X4_carriedMost w m a1 a3 a4 = some r) : fr S_X4_carriedMost m r.2 := by
  unfold g_X4_carriedMost at h
  obtain ⟨_, h⟩ := rf_g_some h
  rcases rf_ite_some h with ⟨_, h⟩ | ⟨_, h⟩
  · obtain rfl := Option.some.inj h
    exact (fr_refl _ m)
  · obtain ⟨_, h⟩ := rf_g_some h
    obtain ⟨_, h⟩ := rf_g_some h
    obtain ⟨_, h⟩ := rf_g_some h
    obtain ⟨_, h⟩ := rf_g_some h
    obtain rfl := Option.some.inj h
    exact (fr_refl _ m)
def S_X4_compareRows : fr_S := []
theorem fg_X4_compareRows_2_b {w : rf_w} {rec2 : Int32 → Int32 → Int32 → rf_m → Option (Int32 × rf_m)} {a1 : Int32} {a2 : Int32} {a3 : Int32} {m : rf_m} (hr_rec2 : ∀ {x0 : Int32} {x1 : Int32} {x2 : Int32} {m : rf_m} {r : (Int32 × rf_m)}, rec2 x0 x1 x2 m = some r → fr S_X4_compareRows m r.2) {r : (Int32 × rf_m)} (h : g_X4_compareRows_2_b w rec2 a1 a2 a3 m = some r) : fr S_X4_compareRows m r.2 := by
  unfold g_X4_compareRows_2_b at h
  rcases rf_ite_some h with ⟨_, h⟩ | ⟨_, h⟩
  · obtain rfl := Option.some.inj h
    exact (fr_refl _ m)
  · obtain ⟨_, h⟩ := rf_g_some h
    obtain ⟨_, h⟩ := rf_g_some h
    rcases rf_ite_some h with ⟨_, h⟩ | ⟨_, h⟩
    · exact fr_trans ((fr_refl _ m)) (hr_rec2 h)
    · obtain ⟨_, h⟩ := rf_g_some h
      obtain ⟨_, h⟩ := rf_g_some h
      obtain rfl := Option.some.inj h
      exact (fr_refl _ m)
theorem fg_X4_compareRows_2 {w : rf_w} (n : Nat) : ∀ {a1 : Int32} {a2 : Int32} {a3 : Int32} {m : rf_m} {r : (Int32 × rf_m)}, g_X4_compareRows_2 w n a1 a2 a3 m = some r → fr S_X4_compareRows m r.2 := by
  induction n with
  | zero => intro a1 a2 a3 m r h; cases h
  | succ n ih =>
    intro a1 a2 a3 m r h
    exact fg_X4_compareRows_2_b ih h
theorem fg_X4_compareRows {w : rf_w} {m : rf_m} {a1 : Int32} {a2 : Int32} {r : (Int32 × rf_m)} (h : g_X4_compareRows w m a1 a2 = some r) : fr S_X4_compareRows m r.2 := by
  unfold g_X4_compareRows at h
  exact fr_trans ((fr_refl _ m)) (fr_mono (fg_X4_compareRows_2 _ h) (by decide))
def S_X4_isBetter : fr_S := []
theorem fg_X4_isBetter_22 {w : rf_w} {a2 : Int64} {m : rf_m} {r : (Int32 × rf_m)} (h : g_X4_isBetter_22 w a2 m = some r) : fr S_X4_isBetter m r.2 := by
  unfold g_X4_isBetter_22 at h
  rcases rf_ite_some h with ⟨_, h⟩ | ⟨_, h⟩
  · obtain rfl := Option.some.inj h
    exact (fr_refl _ m)
  · rcases rf_ite_some h with ⟨_, h⟩ | ⟨_, h⟩
    · obtain rfl := Option.some.inj h
      exact (fr_refl _ m)
    · obtain rfl := Option.some.inj h
      exact (fr_refl _ m)
theorem fg_X4_isBetter {w : rf_w} {m : rf_m} {a1 : Int32} {a2 : Int64} {r : (Int32 × rf_m)} (h : g_X4_isBetter w m a1 a2 = some r) : fr S_X4_isBetter m r.2 := by
  unfold g_X4_isBetter at h
  rcases rf_ite_some h with ⟨_, h⟩ | ⟨_, h⟩
  · exact fr_trans ((fr_refl _ m)) (fr_mono (fg_X4_isBetter_22 h) (by decide))
  · rcases rf_ite_some h with ⟨_, h⟩ | ⟨_, h⟩
    · rcases rf_ite_some h with ⟨_, h⟩ | ⟨_, h⟩
      · obtain ⟨y0, m0, q1, h⟩ := rf_b_some h
        have e1 : fr S_X4_isBetter m m0 := fr_trans ((fr_refl _ m)) (fr_mono (fg_X4_compareRows q1) (by decide))
        rcases rf_ite_some h with ⟨_, h⟩ | ⟨_, h⟩
        · obtain rfl := Option.some.inj h
          exact e1
        · rcases rf_ite_some h with ⟨_, h⟩ | ⟨_, h⟩
          · obtain ⟨y1, m1, q2, h⟩ := rf_b_some h
            have e2 : fr S_X4_isBetter m m1 := fr_trans e1 (fr_mono (fg_X4_compareRows q2) (by decide))
            rcases rf_ite_some h with ⟨_, h⟩ | ⟨_, h⟩
            · obtain rfl := Option.some.inj h
              exact e2
            · obtain rfl := Option.some.inj h
              exact e2
          · obtain rfl := Option.some.inj h
            exact e1
      · rcases rf_ite_some h with ⟨_, h⟩ | ⟨_, h⟩
        · obtain rfl := Option.some.inj h
          exact (fr_refl _ m)
        · obtain rfl := Option.some.inj h
          exact (fr_refl _ m)
    · exact fr_trans ((fr_refl _ m)) (fr_mono (fg_X4_isBetter_22 h) (by decide))
def S_X4_isHopeless : fr_S := []
theorem fg_X4_isHopeless_16_b {w : rf_w} {rec16 : Int32 → Int64 → Int32 → rf_m → Option (Int32 × rf_m)} {a1 : Int32} {a4 : Int64} {a6 : Int32} {m : rf_m} (hr_rec16 : ∀ {x0 : Int32} {x1 : Int64} {x2 : Int32} {m : rf_m} {r : (Int32 × rf_m)}, rec16 x0 x1 x2 m = some r → fr S_X4_isHopeless m r.2) {r : (Int32 × rf_m)} (h : g_X4_isHopeless_16_b w rec16 a1 a4 a6 m = some r) : fr S_X4_isHopeless m r.2 := by
  unfold g_X4_isHopeless_16_b at h
  rcases rf_ite_some h with ⟨_, h⟩ | ⟨_, h⟩
  · have h := fr_vl h
    rcases rf_ite_some h with ⟨_, h⟩ | ⟨_, h⟩
    · obtain rfl := Option.some.inj h
      exact (fr_refl _ m)
    · rcases rf_ite_some h with ⟨_, h⟩ | ⟨_, h⟩
      · rcases rf_ite_some h with ⟨_, h⟩ | ⟨_, h⟩
        · obtain rfl := Option.some.inj h
          exact (fr_refl _ m)
        · obtain rfl := Option.some.inj h
          exact (fr_refl _ m)
      · obtain rfl := Option.some.inj h
        exact (fr_refl _ m)
  · have h := fr_vl h
    exact fr_trans ((fr_refl _ m)) (hr_rec16 h)
theorem fg_X4_isHopeless_16 {w : rf_w} (n : Nat) : ∀ {a1 : Int32} {a4 : Int64} {a6 : Int32} {m : rf_m} {r : (Int32 × rf_m)}, g_X4_isHopeless_16 w n a1 a4 a6 m = some r → fr S_X4_isHopeless m r.2 := by
  induction n with
  | zero => intro a1 a4 a6 m r h; cases h
  | succ n ih =>
    intro a1 a4 a6 m r h
    exact fg_X4_isHopeless_16_b ih h
theorem fg_X4_isHopeless {w : rf_w} {m : rf_m} {a1 : Int32} {a2 : Int64} {r : (Int32 × rf_m)} (h : g_X4_isHopeless w m a1 a2 = some r) : fr S_X4_isHopeless m r.2 := by
  unfold g_X4_isHopeless at h
  rcases rf_ite_some h with ⟨_, h⟩ | ⟨_, h⟩
  · obtain rfl := Option.some.inj h
    exact (fr_refl _ m)
  · exact fr_trans ((fr_refl _ m)) (fr_mono (fg_X4_isHopeless_16 _ h) (by decide))
def S_X4_isReached : fr_S := []
theorem fg_X4_isReached_2_b {w : rf_w} {rec2 : Int32 → Int32 → Int32 → rf_m → Option (Int32 × rf_m)} {a1 : Int32} {a2 : Int32} {a3 : Int32} {m : rf_m} (hr_rec2 : ∀ {x0 : Int32} {x1 : Int32} {x2 : Int32} {m : rf_m} {r : (Int32 × rf_m)}, rec2 x0 x1 x2 m = some r → fr S_X4_isReached m r.2) {r : (Int32 × rf_m)} (h : g_X4_isReached_2_b w rec2 a1 a2 a3 m = some r) : fr S_X4_isReached m r.2 := by
  unfold g_X4_isReached_2_b at h
  rcases rf_ite_some h with ⟨_, h⟩ | ⟨_, h⟩
  · obtain rfl := Option.some.inj h
    exact (fr_refl _ m)
  · obtain ⟨_, h⟩ := rf_g_some h
    rcases rf_ite_some h with ⟨_, h⟩ | ⟨_, h⟩
    · obtain rfl := Option.some.inj h
      exact (fr_refl _ m)
    · exact fr_trans ((fr_refl _ m)) (hr_rec2 h)
theorem fg_X4_isReached_2 {w : rf_w} (n : Nat) : ∀ {a1 : Int32} {a2 : Int32} {a3 : Int32} {m : rf_m} {r : (Int32 × rf_m)}, g_X4_isReached_2 w n a1 a2 a3 m = some r → fr S_X4_isReached m r.2 := by
  induction n with
  | zero => intro a1 a2 a3 m r h; cases h
  | succ n ih =>
    intro a1 a2 a3 m r h
    exact fg_X4_isReached_2_b ih h
theorem fg_X4_isReached {w : rf_w} {m : rf_m} {a1 : Int32} {a2 : Int32} {r : (Int32 × rf_m)} (h : g_X4_isReached w m a1 a2 = some r) : fr S_X4_isReached m r.2 := by
  unfold g_X4_isReached at h
  exact fr_trans ((fr_refl _ m)) (fr_mono (fg_X4_isReached_2 _ h) (by decide))
def S_X4_goOver : fr_S := [(183, 183, none)]
theorem fg_X4_goOver_95 {w : rf_w} {rec57 : Int32 → Int32 → Int32 → Int32 → Int32 → rf_m → Option (Int32 × rf_m)} {a1 : Int32} {a3 : Int32} {a4 : Int32} {a5 : Int32} {a6 : Int32} {m : rf_m} (hr_rec57 : ∀ {x0 : Int32} {x1 : Int32} {x2 : Int32} {x3 : Int32} {x4 : Int32} {m : rf_m} {r : (Int32 × rf_m)}, rec57 x0 x1 x2 x3 x4 m = some r → fr S_X4_goOver m r.2) {r : (Int32 × rf_m)} (h : g_X4_goOver_95 w rec57 a1 a3 a4 a5 a6 m = some r) : fr S_X4_goOver m r.2 := by
  unfold g_X4_goOver_95 at h
  exact fr_trans ((fr_refl _ m)) (hr_rec57 h)
theorem fg_X4_goOver_75 {w : rf_w} {rec57 : Int32 → Int32 → Int32 → Int32 → Int32 → rf_m → Option (Int32 × rf_m)} {a1 : Int32} {a3 : Int32} {a4 : Int32} {a5 : Int32} {a6 : Int32} {m : rf_m} (hr_rec57 : ∀ {x0 : Int32} {x1 : Int32} {x2 : Int32} {x3 : Int32} {x4 : Int32} {m : rf_m} {r : (Int32 × rf_m)}, rec57 x0 x1 x2 x3 x4 m = some r → fr S_X4_goOver m r.2) {r : (Int32 × rf_m)} (h : g_X4_goOver_75 w rec57 a1 a3 a4 a5 a6 m = some r) : fr S_X4_goOver m r.2 := by
  unfold g_X4_goOver_75 at h
  obtain ⟨y0, m0, q1, h⟩ := rf_b_some h
  have e1 : fr S_X4_goOver m m0 := fr_trans ((fr_refl _ m)) (fr_mono (fg_X7_opposite q1) (by decide))
  obtain ⟨_, h⟩ := rf_g_some h
  exact fr_trans (fr_i e1 (fr_c_in (by decide) _)) (fr_mono (fg_X4_goOver_95 hr_rec57 h) (by decide))
theorem fg_X4_goOver_57_b {w : rf_w} {rec57 : Int32 → Int32 → Int32 → Int32 → Int32 → rf_m → Option (Int32 × rf_m)} {a1 : Int32} {a3 : Int32} {a4 : Int32} {a5 : Int32} {a6 : Int32} {m : rf_m} (hr_rec57 : ∀ {x0 : Int32} {x1 : Int32} {x2 : Int32} {x3 : Int32} {x4 : Int32} {m : rf_m} {r : (Int32 × rf_m)}, rec57 x0 x1 x2 x3 x4 m = some r → fr S_X4_goOver m r.2) {r : (Int32 × rf_m)} (h : g_X4_goOver_57_b w rec57 a1 a3 a4 a5 a6 m = some r) : fr S_X4_goOver m r.2 := by
  unfold g_X4_goOver_57_b at h
  rcases rf_ite_some h with ⟨_, h⟩ | ⟨_, h⟩
  · obtain rfl := Option.some.inj h
    exact (fr_refl _ m)
  · rcases rf_ite_some h with ⟨_, h⟩ | ⟨_, h⟩
    · exact fr_trans ((fr_refl _ m)) (fr_mono (fg_X4_goOver_75 hr_rec57 h) (by decide))
    · rcases rf_ite_some h with ⟨_, h⟩ | ⟨_, h⟩
      · exact fr_trans ((fr_refl _ m)) (fr_mono (fg_X4_goOver_95 hr_rec57 h) (by decide))
      · exact fr_trans ((fr_refl _ m)) (fr_mono (fg_X4_goOver_75 hr_rec57 h) (by decide))
theorem fg_X4_goOver_57 {w : rf_w} (n : Nat) : ∀ {a1 : Int32} {a3 : Int32} {a4 : Int32} {a5 : Int32} {a6 : Int32} {m : rf_m} {r : (Int32 × rf_m)}, g_X4_goOver_57 w n a1 a3 a4 a5 a6 m = some r → fr S_X4_goOver m r.2 := by
  induction n with
  | zero => intro a1 a3 a4 a5 a6 m r h; cases h
  | succ n ih =>
    intro a1 a3 a4 a5 a6 m r h
    exact fg_X4_goOver_57_b ih h
theorem fg_X4_goOver_39 {w : rf_w} {rec8 : Int32 → Int32 → Int32 → Int32 → Int32 → rf_m → Option (Int32 × rf_m)} {a1 : Int32} {a2 : Int32} {a3 : Int32} {a4 : Int32} {a5 : Int32} {m : rf_m} (hr_rec8 : ∀ {x0 : Int32} {x1 : Int32} {x2 : Int32} {x3 : Int32} {x4 : Int32} {m : rf_m} {r : (Int32 × rf_m)}, rec8 x0 x1 x2 x3 x4 m = some r → fr S_X4_goOver m r.2) {r : (Int32 × rf_m)} (h : g_X4_goOver_39 w rec8 a1 a2 a3 a4 a5 m = some r) : fr S_X4_goOver m r.2 := by
  unfold g_X4_goOver_39 at h
  exact fr_trans ((fr_refl _ m)) (hr_rec8 h)
theorem fg_X4_goOver_8_b {w : rf_w} {rec8 : Int32 → Int32 → Int32 → Int32 → Int32 → rf_m → Option (Int32 × rf_m)} {a1 : Int32} {a2 : Int32} {a3 : Int32} {a4 : Int32} {a5 : Int32} {m : rf_m} (hr_rec8 : ∀ {x0 : Int32} {x1 : Int32} {x2 : Int32} {x3 : Int32} {x4 : Int32} {m : rf_m} {r : (Int32 × rf_m)}, rec8 x0 x1 x2 x3 x4 m = some r → fr S_X4_goOver m r.2) {r : (Int32 × rf_m)} (h : g_X4_goOver_8_b w rec8 a1 a2 a3 a4 a5 m = some r) : fr S_X4_goOver m r.2 := by
  unfold g_X4_goOver_8_b at h
  rcases rf_ite_some h with ⟨_, h⟩ | ⟨_, h⟩
  · rcases rf_ite_some h with ⟨_, h⟩ | ⟨_, h⟩
    · obtain rfl := Option.some.inj h
      exact (fr_refl _ m)
    · exact fr_trans ((fr_refl _ m)) (fr_mono (fg_X4_goOver_57 _ h) (by decide))
  · obtain ⟨y0, m0, q1, h⟩ := rf_b_some h
    have e1 : fr S_X4_goOver m m0 := fr_trans ((fr_refl _ m)) (fr_mono (fg_X7_opposite q1) (by decide))
    obtain ⟨y1, m1, q2, h⟩ := rf_b_some h
    have e2 : fr S_X4_goOver m m1 := fr_trans e1 (fr_mono (fg_X4_isReached q2) (by decide))
    rcases rf_ite_some h with ⟨_, h⟩ | ⟨_, h⟩
    · exact fr_trans e2 (fr_mono (fg_X4_goOver_39 hr_rec8 h) (by decide))
    · exact fr_trans e2 (fr_mono (fg_X4_goOver_39 hr_rec8 h) (by decide))
theorem fg_X4_goOver_8 {w : rf_w} (n : Nat) : ∀ {a1 : Int32} {a2 : Int32} {a3 : Int32} {a4 : Int32} {a5 : Int32} {m : rf_m} {r : (Int32 × rf_m)}, g_X4_goOver_8 w n a1 a2 a3 a4 a5 m = some r → fr S_X4_goOver m r.2 := by
  induction n with
  | zero => intro a1 a2 a3 a4 a5 m r h; cases h
  | succ n ih =>
    intro a1 a2 a3 a4 a5 m r h
    exact fg_X4_goOver_8_b ih h
theorem fg_X4_goOver {w : rf_w} {m : rf_m} {a1 : Int32} {a2 : Int32} {r : (Int32 × rf_m)} (h : g_X4_goOver w m a1 a2 = some r) : fr S_X4_goOver m r.2 := by
  unfold g_X4_goOver at h
  exact fr_trans ((fr_refl _ m)) (fr_mono (fg_X4_goOver_8 _ h) (by decide))
def S_X5_isMark : fr_S := []
theorem fg_X5_isMark {w : rf_w} {m : rf_m} {a1 : Int32} {r : (Int32 × rf_m)} (h : g_X5_isMark w m a1 = some r) : fr S_X5_isMark m r.2 := by
  unfold g_X5_isMark at h
  rcases rf_ite_some h with ⟨_, h⟩ | ⟨_, h⟩
  · obtain rfl := Option.some.inj h
    exact (fr_refl _ m)
  · rcases rf_ite_some h with ⟨_, h⟩ | ⟨_, h⟩
    · obtain rfl := Option.some.inj h
      exact (fr_refl _ m)
    · obtain rfl := Option.some.inj h
      exact (fr_refl _ m)
def S_X5_isPair : fr_S := []
theorem fg_X5_isPair {w : rf_w} {m : rf_m} {a1 : Int32} {a2 : Int32} {r : (Int32 × rf_m)} (h : g_X5_isPair w m a1 a2 = some r) : fr S_X5_isPair m r.2 := by
  unfold g_X5_isPair at h
  obtain ⟨y0, m0, q1, h⟩ := rf_b_some h
  have e1 : fr S_X5_isPair m m0 := fr_trans ((fr_refl _ m)) (fr_mono (fg_X5_isMark q1) (by decide))
  rcases rf_ite_some h with ⟨_, h⟩ | ⟨_, h⟩
  · obtain rfl := Option.some.inj h
    exact e1
  · obtain ⟨y1, m1, q2, h⟩ := rf_b_some h
    have e2 : fr S_X5_isPair m m1 := fr_trans e1 (fr_mono (fg_X5_isMark q2) (by decide))
    rcases rf_ite_some h with ⟨_, h⟩ | ⟨_, h⟩
    · obtain rfl := Option.some.inj h
      exact e2
    · rcases rf_ite_some h with ⟨_, h⟩ | ⟨_, h⟩
      · obtain rfl := Option.some.inj h
        exact e2
      · obtain rfl := Option.some.inj h
        exact e2
def S_X5_isTaken : fr_S := []
theorem fg_X5_isTaken_2_b {w : rf_w} {rec2 : Int32 → Int32 → rf_m → Option (Int32 × rf_m)} {a1 : Int32} {a2 : Int32} {m : rf_m} (hr_rec2 : ∀ {x0 : Int32} {x1 : Int32} {m : rf_m} {r : (Int32 × rf_m)}, rec2 x0 x1 m = some r → fr S_X5_isTaken m r.2) {r : (Int32 × rf_m)} (h : g_X5_isTaken_2_b w rec2 a1 a2 m = some r) : fr S_X5_isTaken m r.2 := by
  unfold g_X5_isTaken_2_b at h
  rcases rf_ite_some h with ⟨_, h⟩ | ⟨_, h⟩
  · obtain rfl := Option.some.inj h
    exact (fr_refl _ m)
  · obtain ⟨_, h⟩ := rf_g_some h
    rcases rf_ite_some h with ⟨_, h⟩ | ⟨_, h⟩
    · obtain rfl := Option.some.inj h
      exact (fr_refl _ m)
    · exact fr_trans ((fr_refl _ m)) (hr_rec2 h)
theorem fg_X5_isTaken_2 {w : rf_w} (n : Nat) : ∀ {a1 : Int32} {a2 : Int32} {m : rf_m} {r : (Int32 × rf_m)}, g_X5_isTaken_2 w n a1 a2 m = some r → fr S_X5_isTaken m r.2 := by
  induction n with
  | zero => intro a1 a2 m r h; cases h
  | succ n ih =>
    intro a1 a2 m r h
    exact fg_X5_isTaken_2_b ih h
theorem fg_X5_isTaken {w : rf_w} {m : rf_m} {a1 : Int32} {r : (Int32 × rf_m)} (h : g_X5_isTaken w m a1 = some r) : fr S_X5_isTaken m r.2 := by
  unfold g_X5_isTaken at h
  exact fr_trans ((fr_refl _ m)) (fr_mono (fg_X5_isTaken_2 _ h) (by decide))
def S_X5_addMark : fr_S := [(1, 1, some 4), (4, 4, none)]
theorem fg_X5_addMark {w : rf_w} {m : rf_m} {a1 : Int32} {r : (Int32 × rf_m)} (h : g_X5_addMark w m a1 = some r) : fr S_X5_addMark m r.2 := by
  unfold g_X5_addMark at h
  obtain ⟨_, h⟩ := rf_g_some h
  obtain rfl := Option.some.inj h
  exact fr_i (fr_i ((fr_refl _ m)) (fr_c_in (by decide) _)) (by decide)
def S_X5_raise : fr_S := [(1, 1, some 9), (6, 6, none), (7, 7, none), (8, 8, none)]
theorem fg_X5_raise {w : rf_w} {m : rf_m} {a1 : Int32} {a2 : Int32} {a3 : Int32} {r : (rf_m)} (h : g_X5_raise w m a1 a2 a3 = some r) : fr S_X5_raise m r := by
  unfold g_X5_raise at h
  rcases rf_ite_some h with ⟨_, h⟩ | ⟨_, h⟩
  · obtain ⟨_, h⟩ := rf_g_some h
    obtain ⟨_, h⟩ := rf_g_some h
    obtain ⟨_, h⟩ := rf_g_some h
    obtain rfl := Option.some.inj h
    exact fr_i (fr_i (fr_i (fr_i ((fr_refl _ m)) (fr_c_in (by decide) _)) (fr_c_in (by decide) _)) (fr_c_in (by decide) _)) (by decide)
  · obtain rfl := Option.some.inj h
    exact (fr_refl _ m)
def S_X5_towerOn : fr_S := []
theorem fg_X5_towerOn_38 {w : rf_w} {rec7 : Int32 → Int32 → Int32 → rf_m → Option (Int32 × rf_m)} {a1 : Int32} {a2 : Int32} {a3 : Int32} {m : rf_m} (hr_rec7 : ∀ {x0 : Int32} {x1 : Int32} {x2 : Int32} {m : rf_m} {r : (Int32 × rf_m)}, rec7 x0 x1 x2 m = some r → fr S_X5_towerOn m r.2) {r : (Int32 × rf_m)} (h : g_X5_towerOn_38 w rec7 a1 a2 a3 m = some r) : fr S_X5_towerOn m r.2 := by
  unfold g_X5_towerOn_38 at h
  exact fr_trans ((fr_refl _ m)) (hr_rec7 h)
theorem fg_X5_towerOn_7_b {w : rf_w} {rec7 : Int32 → Int32 → Int32 → rf_m → Option (Int32 × rf_m)} {a1 : Int32} {a2 : Int32} {a3 : Int32} {m : rf_m} (hr_rec7 : ∀ {x0 : Int32} {x1 : Int32} {x2 : Int32} {m : rf_m} {r : (Int32 × rf_m)}, rec7 x0 x1 x2 m = some r → fr S_X5_towerOn m r.2) {r : (Int32 × rf_m)} (h : g_X5_towerOn_7_b w rec7 a1 a2 a3 m = some r) : fr S_X5_towerOn m r.2 := by
  unfold g_X5_towerOn_7_b at h
  rcases rf_ite_some h with ⟨_, h⟩ | ⟨_, h⟩
  · obtain rfl := Option.some.inj h
    exact (fr_refl _ m)
  · obtain ⟨_, h⟩ := rf_g_some h
    rcases rf_ite_some h with ⟨_, h⟩ | ⟨_, h⟩
    · obtain ⟨_, h⟩ := rf_g_some h
      rcases rf_ite_some h with ⟨_, h⟩ | ⟨_, h⟩
      · exact fr_trans ((fr_refl _ m)) (fr_mono (fg_X5_towerOn_38 hr_rec7 h) (by decide))
      · obtain ⟨_, h⟩ := rf_g_some h
        obtain rfl := Option.some.inj h
        exact (fr_refl _ m)
    · exact fr_trans ((fr_refl _ m)) (fr_mono (fg_X5_towerOn_38 hr_rec7 h) (by decide))
theorem fg_X5_towerOn_7 {w : rf_w} (n : Nat) : ∀ {a1 : Int32} {a2 : Int32} {a3 : Int32} {m : rf_m} {r : (Int32 × rf_m)}, g_X5_towerOn_7 w n a1 a2 a3 m = some r → fr S_X5_towerOn m r.2 := by
  induction n with
  | zero => intro a1 a2 a3 m r h; cases h
  | succ n ih =>
    intro a1 a2 a3 m r h
    exact fg_X5_towerOn_7_b ih h
end FRL
