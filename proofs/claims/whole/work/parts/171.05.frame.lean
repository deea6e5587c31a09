section FRL
def S_J0_indexOf_0f7a4 : fr_S := []
theorem fg_J0_indexOf_0f7a4 {w : rf_w} {m : rf_m} {a0 : Nat} {a1 : Int32} {r : (Int32 × rf_m)} (h : g_J0_indexOf_0f7a4 w m a0 a1 = some r) : fr S_J0_indexOf_0f7a4 m r.2 := by
  unfold g_J0_indexOf_0f7a4 at h
  obtain ⟨_, h⟩ := rf_g_some h
  obtain ⟨y1, m1, q1, h⟩ := rf_b_some h
  have e1 : fr S_J0_indexOf_0f7a4 m m1 := fr_trans ((fr_refl _ m)) (fr_mono (fg_J0_indexOf_7cf53 q1) (by decide))
  obtain rfl := Option.some.inj h
  exact e1
def S_X8_next_46 : fr_S := [(14, 14, some 9), (14, 14, some 10), (14, 14, some 11)]
theorem fg_X8_next_46 {w : rf_w} {m : rf_m} {r : (rf_m)} (h : g_X8_next_46 w m = some r) : fr S_X8_next_46 m r := by
  unfold g_X8_next_46 at h
  rcases rf_ite_some h with ⟨_, h⟩ | ⟨_, h⟩
  · obtain ⟨_, h⟩ := rf_g_some h
    obtain ⟨y1, m1, q1, h⟩ := rf_b_some h
    have e1 : fr S_X8_next_46 m m1 := fr_trans (fr_i ((fr_refl _ m)) (by decide)) (fr_mono (fg_X8_isLetter q1) (by decide))
    rcases rf_ite_some h with ⟨_, h⟩ | ⟨_, h⟩
    · obtain ⟨_, h⟩ := rf_g_some h
      obtain ⟨y3, m3, q2, h⟩ := rf_b_some h
      have e2 : fr S_X8_next_46 m m3 := fr_trans e1 (fr_mono (fg_X8_isDigit q2) (by decide))
      rcases rf_ite_some h with ⟨_, h⟩ | ⟨_, h⟩
      · obtain ⟨_, h⟩ := rf_g_some h
        obtain ⟨y5, m5, q3, h⟩ := rf_b_some h
        have e3 : fr S_X8_next_46 m m5 := fr_trans (fr_i e2 (by decide)) (fr_mono (fg_J0_indexOf_0f7a4 q3) (by decide))
        rcases rf_ite_some h with ⟨_, h⟩ | ⟨_, h⟩
        · obtain rfl := Option.some.inj h
          exact fr_i e3 (by decide)
        · obtain ⟨_, h⟩ := rf_g_some h
          obtain rfl := Option.some.inj h
          exact fr_i e3 (by decide)
      · obtain ⟨m7, q4, h⟩ := rf_bv_some h
        have e4 : fr S_X8_next_46 m m7 := fr_trans e2 (fr_mono (fg_X8_takeWhole q4) (by decide))
        obtain rfl := Option.some.inj h
        exact e4
    · obtain ⟨m8, q5, h⟩ := rf_bv_some h
      have e5 : fr S_X8_next_46 m m8 := fr_trans e1 (fr_mono (fg_X8_takeWord q5) (by decide))
      obtain rfl := Option.some.inj h
      exact e5
  · obtain rfl := Option.some.inj h
    exact fr_i (fr_i ((fr_refl _ m)) (by decide)) (by decide)
def S_X8_next : fr_S := [(14, 14, some 8), (14, 14, some 9), (14, 14, some 10), (14, 14, some 11)]
theorem fg_X8_next_8_b {w : rf_w} {rec8 : rf_m → Option (rf_m)} {m : rf_m} (hr_rec8 : ∀ {m : rf_m} {r : (rf_m)}, rec8 m = some r → fr S_X8_next m r) {r : (rf_m)} (h : g_X8_next_8_b w rec8 m = some r) : fr S_X8_next m r := by
  unfold g_X8_next_8_b at h
  rcases rf_ite_some h with ⟨_, h⟩ | ⟨_, h⟩
  · exact fr_trans ((fr_refl _ m)) (fr_mono (fg_X8_next_46 h) (by decide))
  · obtain ⟨_, h⟩ := rf_g_some h
    rcases rf_ite_some h with ⟨_, h⟩ | ⟨_, h⟩
    · exact fr_trans (fr_i ((fr_refl _ m)) (by decide)) (hr_rec8 h)
    · exact fr_trans ((fr_refl _ m)) (fr_mono (fg_X8_next_46 h) (by decide))
theorem fg_X8_next_8 {w : rf_w} (n : Nat) : ∀ {m : rf_m} {r : (rf_m)}, g_X8_next_8 w n m = some r → fr S_X8_next m r := by
  induction n with
  | zero => intro m r h; cases h
  | succ n ih =>
    intro m r h
    exact fg_X8_next_8_b ih h
theorem fg_X8_next {w : rf_w} {m : rf_m} {r : (rf_m)} (h : g_X8_next w m = some r) : fr S_X8_next m r := by
  unfold g_X8_next at h
  exact fr_trans (fr_i ((fr_refl _ m)) (by decide)) (fr_mono (fg_X8_next_8 _ h) (by decide))
def S_J1_charAt_3b067 : fr_S := []
theorem fg_J1_charAt_3b067 {w : rf_w} {m : rf_m} {a0 : Nat} {a1 : Int32} {r : (Int32 × rf_m)} (h : g_J1_charAt_3b067 w m a0 a1 = some r) : fr S_J1_charAt_3b067 m r.2 := by
  unfold g_J1_charAt_3b067 at h
  obtain ⟨_, h⟩ := rf_g_some h
  obtain ⟨m1, q1, h⟩ := rf_bv_some h
  have e1 : fr S_J1_charAt_3b067 m m1 := fr_trans ((fr_refl _ m)) (fr_mono (fg_J0_checkIndex q1) (by decide))
  obtain ⟨_, h⟩ := rf_g_some h
  obtain ⟨_, h⟩ := rf_g_some h
  obtain rfl := Option.some.inj h
  exact e1
def S_J0_charAt_5068e : fr_S := []
theorem fg_J0_charAt_5068e {w : rf_w} {m : rf_m} {a0 : Nat} {a1 : Int32} {r : (Int32 × rf_m)} (h : g_J0_charAt_5068e w m a0 a1 = some r) : fr S_J0_charAt_5068e m r.2 := by
  unfold g_J0_charAt_5068e at h
  obtain ⟨_, h⟩ := rf_g_some h
  obtain ⟨y1, m1, q1, h⟩ := rf_b_some h
  have e1 : fr S_J0_charAt_5068e m m1 := fr_trans ((fr_refl _ m)) (fr_mono (fg_J0_isLatin1_aae02 q1) (by decide))
  rcases rf_ite_some h with ⟨_, h⟩ | ⟨_, h⟩
  · cases h
  · obtain ⟨y2, m2, q2, h⟩ := rf_b_some h
    have e2 : fr S_J0_charAt_5068e m m2 := fr_trans e1 (fr_mono (fg_J1_charAt_3b067 q2) (by decide))
    obtain ⟨_, h⟩ := rf_g_some h
    obtain rfl := Option.some.inj h
    exact e2
def S_X8_isWord : fr_S := []
theorem fg_X8_isWord_28_b {w : rf_w} {rec28 : Nat → Int32 → rf_m → Option (Int32 × rf_m)} {a1 : Nat} {a2 : Int32} {m : rf_m} (hr_rec28 : ∀ {x0 : Nat} {x1 : Int32} {m : rf_m} {r : (Int32 × rf_m)}, rec28 x0 x1 m = some r → fr S_X8_isWord m r.2) {r : (Int32 × rf_m)} (h : g_X8_isWord_28_b w rec28 a1 a2 m = some r) : fr S_X8_isWord m r.2 := by
  unfold g_X8_isWord_28_b at h
  obtain ⟨_, h⟩ := rf_g_some h
  obtain ⟨y1, m1, q1, h⟩ := rf_b_some h
  have e1 : fr S_X8_isWord m m1 := fr_trans ((fr_refl _ m)) (fr_mono (fg_J0_length_8abf5 q1) (by decide))
  rcases rf_ite_some h with ⟨_, h⟩ | ⟨_, h⟩
  · obtain rfl := Option.some.inj h
    exact e1
  · obtain ⟨_, h⟩ := rf_g_some h
    obtain ⟨y3, m3, q2, h⟩ := rf_b_some h
    have e2 : fr S_X8_isWord m m3 := fr_trans e1 (fr_mono (fg_J0_charAt_5068e q2) (by decide))
    rcases rf_ite_some h with ⟨_, h⟩ | ⟨_, h⟩
    · exact fr_trans e2 (hr_rec28 h)
    · obtain rfl := Option.some.inj h
      exact e2
theorem fg_X8_isWord_28 {w : rf_w} (n : Nat) : ∀ {a1 : Nat} {a2 : Int32} {m : rf_m} {r : (Int32 × rf_m)}, g_X8_isWord_28 w n a1 a2 m = some r → fr S_X8_isWord m r.2 := by
  induction n with
  | zero => intro a1 a2 m r h; cases h
  | succ n ih =>
    intro a1 a2 m r h
    exact fg_X8_isWord_28_b ih h
theorem fg_X8_isWord {w : rf_w} {m : rf_m} {a1 : Nat} {r : (Int32 × rf_m)} (h : g_X8_isWord w m a1 = some r) : fr S_X8_isWord m r.2 := by
  unfold g_X8_isWord at h
  obtain ⟨_, h⟩ := rf_g_some h
  rcases rf_ite_some h with ⟨_, h⟩ | ⟨_, h⟩
  · obtain ⟨y1, m1, q1, h⟩ := rf_b_some h
    have e1 : fr S_X8_isWord m m1 := fr_trans ((fr_refl _ m)) (fr_mono (fg_J0_length_8abf5 q1) (by decide))
    rcases rf_ite_some h with ⟨_, h⟩ | ⟨_, h⟩
    · exact fr_trans e1 (fr_mono (fg_X8_isWord_28 _ h) (by decide))
    · obtain rfl := Option.some.inj h
      exact e1
  · obtain rfl := Option.some.inj h
    exact (fr_refl _ m)
def S_X8_takeJoint_88 : fr_S := [(14, 14, some 2), (14, 14, some 5), (14, 14, some 6), (14, 14, some 12), (14, 14, some 18), (16, 16, none)]
theorem fg_X8_takeJoint_88 {w : rf_w} {m : rf_m} {r : (rf_m)} (h : g_X8_takeJoint_88 w m = some r) : fr S_X8_takeJoint_88 m r := by
  unfold g_X8_takeJoint_88 at h
  rcases rf_ite_some h with ⟨_, h⟩ | ⟨_, h⟩
  · rcases rf_ite_some h with ⟨_, h⟩ | ⟨_, h⟩
    · obtain ⟨m2, q1, h⟩ := rf_bv_some h
      have e1 : fr S_X8_takeJoint_88 m m2 := fr_trans ((fr_refl _ m)) (fr_mono (fg_X8_release q1) (by decide))
      obtain rfl := Option.some.inj h
      exact fr_i e1 (by decide)
    · obtain ⟨m1, q2, h⟩ := rf_bv_some h
      have e2 : fr S_X8_takeJoint_88 m m1 := fr_trans ((fr_refl _ m)) (fr_mono (fg_X8_fail q2) (by decide))
      obtain rfl := Option.some.inj h
      exact e2
  · obtain ⟨m0, q3, h⟩ := rf_bv_some h
    have e3 : fr S_X8_takeJoint_88 m m0 := fr_trans ((fr_refl _ m)) (fr_mono (fg_X8_fail q3) (by decide))
    obtain rfl := Option.some.inj h
    exact e3
def S_X8_takeJoint : fr_S := [(14, 14, some 2), (14, 14, some 5), (14, 14, some 6), (14, 14, some 12), (14, 14, some 16), (14, 14, some 18), (16, 16, none), (17, 17, none)]
theorem fg_X8_takeJoint {w : rf_w} {m : rf_m} {r : (rf_m)} (h : g_X8_takeJoint w m = some r) : fr S_X8_takeJoint m r := by
  unfold g_X8_takeJoint at h
  obtain ⟨y0, m0, q1, h⟩ := rf_b_some h
  have e1 : fr S_X8_takeJoint m m0 := fr_trans ((fr_refl _ m)) (fr_mono (fg_X8_isWord q1) (by decide))
  rcases rf_ite_some h with ⟨_, h⟩ | ⟨_, h⟩
  · obtain ⟨y1, m1, q2, h⟩ := rf_b_some h
    have e2 : fr S_X8_takeJoint m m1 := fr_trans e1 (fr_mono (fg_X8_isWord q2) (by decide))
    rcases rf_ite_some h with ⟨_, h⟩ | ⟨_, h⟩
    · rcases rf_ite_some h with ⟨_, h⟩ | ⟨_, h⟩
      · rcases rf_ite_some h with ⟨_, h⟩ | ⟨_, h⟩
        · exact fr_trans e2 (fr_mono (fg_X8_takeJoint_88 h) (by decide))
        · obtain ⟨m2, q3, h⟩ := rf_bv_some h
          have e3 : fr S_X8_takeJoint m m2 := fr_trans (fr_i e2 (by decide)) (fr_mono (fg_X8_release q3) (by decide))
          obtain rfl := Option.some.inj h
          exact fr_i (fr_i e3 (by decide)) (by decide)
      · exact fr_trans e2 (fr_mono (fg_X8_takeJoint_88 h) (by decide))
    · obtain ⟨m3, q4, h⟩ := rf_bv_some h
      have e4 : fr S_X8_takeJoint m m3 := fr_trans e2 (fr_mono (fg_X8_join q4) (by decide))
      obtain rfl := Option.some.inj h
      exact e4
  · obtain ⟨m4, q5, h⟩ := rf_bv_some h
    have e5 : fr S_X8_takeJoint m m4 := fr_trans e1 (fr_mono (fg_X8_join q5) (by decide))
    obtain rfl := Option.some.inj h
    exact e5
def S_X8_takeIf : fr_S := [(14, 14, some 5), (14, 14, some 6), (14, 14, some 12)]
theorem fg_X8_takeIf {w : rf_w} {m : rf_m} {r : (rf_m)} (h : g_X8_takeIf w m = some r) : fr S_X8_takeIf m r := by
  unfold g_X8_takeIf at h
  obtain ⟨y0, m0, q1, h⟩ := rf_b_some h
  have e1 : fr S_X8_takeIf m m0 := fr_trans ((fr_refl _ m)) (fr_mono (fg_X8_isWord q1) (by decide))
  rcases rf_ite_some h with ⟨_, h⟩ | ⟨_, h⟩
  · obtain ⟨m1, q2, h⟩ := rf_bv_some h
    have e2 : fr S_X8_takeIf m m1 := fr_trans e1 (fr_mono (fg_X8_fail q2) (by decide))
    obtain rfl := Option.some.inj h
    exact e2
  · obtain rfl := Option.some.inj h
    exact fr_i e1 (by decide)
def S_X8_endSum : fr_S := [(14, 14, some 2), (14, 14, some 3), (14, 14, some 5), (14, 14, some 6), (14, 14, some 12), (14, 14, some 18), (16, 16, none)]
theorem fg_X8_endSum {w : rf_w} {m : rf_m} {r : (rf_m)} (h : g_X8_endSum w m = some r) : fr S_X8_endSum m r := by
  unfold g_X8_endSum at h
  obtain ⟨m0, q1, h⟩ := rf_bv_some h
  have e1 : fr S_X8_endSum m m0 := fr_trans ((fr_refl _ m)) (fr_mono (fg_X8_release q1) (by decide))
  rcases rf_ite_some h with ⟨_, h⟩ | ⟨_, h⟩
  · obtain rfl := Option.some.inj h
    exact fr_i (fr_i e1 (by decide)) (by decide)
  · rcases rf_ite_some h with ⟨_, h⟩ | ⟨_, h⟩
    · obtain ⟨m2, q2, h⟩ := rf_bv_some h
      have e2 : fr S_X8_endSum m m2 := fr_trans (fr_i e1 (by decide)) (fr_mono (fg_X8_takeIf q2) (by decide))
      obtain rfl := Option.some.inj h
      exact e2
    · obtain ⟨m1, q3, h⟩ := rf_bv_some h
      have e3 : fr S_X8_endSum m m1 := fr_trans (fr_i e1 (by decide)) (fr_mono (fg_X8_fail q3) (by decide))
      obtain rfl := Option.some.inj h
      exact e3
def S_X8_takeSign : fr_S := [(14, 14, some 2), (14, 14, some 3), (14, 14, some 5), (14, 14, some 6), (14, 14, some 12), (14, 14, some 13), (14, 14, some 16), (14, 14, some 18), (16, 16, none), (17, 17, none)]
theorem fg_X8_takeSign {w : rf_w} {m : rf_m} {r : (rf_m)} (h : g_X8_takeSign w m = some r) : fr S_X8_takeSign m r := by
  unfold g_X8_takeSign at h
  obtain ⟨y0, m0, q1, h⟩ := rf_b_some h
  have e1 : fr S_X8_takeSign m m0 := fr_trans ((fr_refl _ m)) (fr_mono (fg_X8_signHere q1) (by decide))
  rcases rf_ite_some h with ⟨_, h⟩ | ⟨_, h⟩
  · obtain ⟨m1, q2, h⟩ := rf_bv_some h
    have e2 : fr S_X8_takeSign m m1 := fr_trans e1 (fr_mono (fg_X8_join q2) (by decide))
    obtain rfl := Option.some.inj h
    exact e2
  · rcases rf_ite_some h with ⟨_, h⟩ | ⟨_, h⟩
    · obtain ⟨m2, q3, h⟩ := rf_bv_some h
      have e3 : fr S_X8_takeSign m m2 := fr_trans e1 (fr_mono (fg_X8_join q3) (by decide))
      obtain rfl := Option.some.inj h
      exact e3
    · rcases rf_ite_some h with ⟨_, h⟩ | ⟨_, h⟩
      · obtain ⟨m7, q4, h⟩ := rf_bv_some h
        have e4 : fr S_X8_takeSign m m7 := fr_trans e1 (fr_mono (fg_X8_join q4) (by decide))
        obtain rfl := Option.some.inj h
        exact e4
      · rcases rf_ite_some h with ⟨_, h⟩ | ⟨_, h⟩
        · obtain ⟨m6, q5, h⟩ := rf_bv_some h
          have e5 : fr S_X8_takeSign m m6 := fr_trans e1 (fr_mono (fg_X8_takeJoint q5) (by decide))
          obtain rfl := Option.some.inj h
          exact e5
        · rcases rf_ite_some h with ⟨_, h⟩ | ⟨_, h⟩
          · obtain ⟨m5, q6, h⟩ := rf_bv_some h
            have e6 : fr S_X8_takeSign m m5 := fr_trans e1 (fr_mono (fg_X8_endSum q6) (by decide))
            obtain rfl := Option.some.inj h
            exact e6
          · rcases rf_ite_some h with ⟨_, h⟩ | ⟨_, h⟩
            · obtain ⟨m3, q7, h⟩ := rf_bv_some h
              have e7 : fr S_X8_takeSign m m3 := fr_trans e1 (fr_mono (fg_X8_fail q7) (by decide))
              obtain rfl := Option.some.inj h
              exact e7
            · obtain ⟨m4, q8, h⟩ := rf_bv_some h
              have e8 : fr S_X8_takeSign m m4 := fr_trans (fr_i e1 (by decide)) (fr_mono (fg_X8_join q8) (by decide))
              obtain rfl := Option.some.inj h
              exact e8
def S_X8_nameHere : fr_S := []
theorem fg_X8_nameHere {w : rf_w} {m : rf_m} {r : (Int32 × rf_m)} (h : g_X8_nameHere w m = some r) : fr S_X8_nameHere m r.2 := by
  unfold g_X8_nameHere at h
  obtain ⟨y0, m0, q1, h⟩ := rf_b_some h
  have e1 : fr S_X8_nameHere m m0 := fr_trans ((fr_refl _ m)) (fr_mono (fg_X8_isWord q1) (by decide))
  rcases rf_ite_some h with ⟨_, h⟩ | ⟨_, h⟩
  · obtain ⟨y1, m1, q2, h⟩ := rf_b_some h
    have e2 : fr S_X8_nameHere m m1 := fr_trans e1 (fr_mono (fg_X8_isWord q2) (by decide))
    rcases rf_ite_some h with ⟨_, h⟩ | ⟨_, h⟩
    · obtain ⟨y2, m2, q3, h⟩ := rf_b_some h
      have e3 : fr S_X8_nameHere m m2 := fr_trans e2 (fr_mono (fg_X8_isWord q3) (by decide))
      rcases rf_ite_some h with ⟨_, h⟩ | ⟨_, h⟩
      · obtain ⟨y3, m3, q4, h⟩ := rf_b_some h
        have e4 : fr S_X8_nameHere m m3 := fr_trans e3 (fr_mono (fg_X8_isWord q4) (by decide))
        rcases rf_ite_some h with ⟨_, h⟩ | ⟨_, h⟩
        · obtain ⟨y4, m4, q5, h⟩ := rf_b_some h
          have e5 : fr S_X8_nameHere m m4 := fr_trans e4 (fr_mono (fg_X8_isWord q5) (by decide))
          rcases rf_ite_some h with ⟨_, h⟩ | ⟨_, h⟩
          · obtain ⟨y5, m5, q6, h⟩ := rf_b_some h
            have e6 : fr S_X8_nameHere m m5 := fr_trans e5 (fr_mono (fg_X8_isWord q6) (by decide))
            rcases rf_ite_some h with ⟨_, h⟩ | ⟨_, h⟩
            · obtain ⟨y6, m6, q7, h⟩ := rf_b_some h
              have e7 : fr S_X8_nameHere m m6 := fr_trans e6 (fr_mono (fg_X8_isWord q7) (by decide))
              rcases rf_ite_some h with ⟨_, h⟩ | ⟨_, h⟩
              · obtain rfl := Option.some.inj h
                exact e7
              · obtain rfl := Option.some.inj h
                exact e7
            · obtain rfl := Option.some.inj h
              exact e6
          · obtain rfl := Option.some.inj h
            exact e5
        · obtain rfl := Option.some.inj h
          exact e4
      · obtain rfl := Option.some.inj h
        exact e3
    · obtain rfl := Option.some.inj h
      exact e2
  · obtain rfl := Option.some.inj h
    exact e1
def S_X8_isJoint : fr_S := []
theorem fg_X8_isJoint {w : rf_w} {m : rf_m} {r : (Int32 × rf_m)} (h : g_X8_isJoint w m = some r) : fr S_X8_isJoint m r.2 := by
  unfold g_X8_isJoint at h
  obtain ⟨y0, m0, q1, h⟩ := rf_b_some h
  have e1 : fr S_X8_isJoint m m0 := fr_trans ((fr_refl _ m)) (fr_mono (fg_X8_isWord q1) (by decide))
  rcases rf_ite_some h with ⟨_, h⟩ | ⟨_, h⟩
  · obtain ⟨y1, m1, q2, h⟩ := rf_b_some h
    have e2 : fr S_X8_isJoint m m1 := fr_trans e1 (fr_mono (fg_X8_isWord q2) (by decide))
    rcases rf_ite_some h with ⟨_, h⟩ | ⟨_, h⟩
    · obtain ⟨y2, m2, q3, h⟩ := rf_b_some h
      have e3 : fr S_X8_isJoint m m2 := fr_trans e2 (fr_mono (fg_X8_isWord q3) (by decide))
      rcases rf_ite_some h with ⟨_, h⟩ | ⟨_, h⟩
      · obtain ⟨y3, m3, q4, h⟩ := rf_b_some h
        have e4 : fr S_X8_isJoint m m3 := fr_trans e3 (fr_mono (fg_X8_isWord q4) (by decide))
        rcases rf_ite_some h with ⟨_, h⟩ | ⟨_, h⟩
        · obtain rfl := Option.some.inj h
          exact e4
        · obtain rfl := Option.some.inj h
          exact e4
      · obtain rfl := Option.some.inj h
        exact e3
    · obtain rfl := Option.some.inj h
      exact e2
  · obtain rfl := Option.some.inj h
    exact e1
def S_X8_takeOperand : fr_S := [(14, 14, some 2), (14, 14, some 5), (14, 14, some 6), (14, 14, some 12), (14, 14, some 14), (16, 16, none)]
theorem fg_X8_takeOperand_57 {w : rf_w} {a1 : Int32} {m : rf_m} {r : (rf_m)} (h : g_X8_takeOperand_57 w a1 m = some r) : fr S_X8_takeOperand m r := by
  unfold g_X8_takeOperand_57 at h
  rcases rf_ite_some h with ⟨_, h⟩ | ⟨_, h⟩
  · rcases rf_ite_some h with ⟨_, h⟩ | ⟨_, h⟩
    · obtain ⟨m1, q1, h⟩ := rf_bv_some h
      have e1 : fr S_X8_takeOperand m m1 := fr_trans (fr_i ((fr_refl _ m)) (by decide)) (fr_mono (fg_X8_write q1) (by decide))
      obtain rfl := Option.some.inj h
      exact fr_i e1 (by decide)
    · obtain ⟨m0, q2, h⟩ := rf_bv_some h
      have e2 : fr S_X8_takeOperand m m0 := fr_trans (fr_i ((fr_refl _ m)) (by decide)) (fr_mono (fg_X8_write q2) (by decide))
      obtain rfl := Option.some.inj h
      exact fr_i e2 (by decide)
  · obtain ⟨m2, q3, h⟩ := rf_bv_some h
    have e3 : fr S_X8_takeOperand m m2 := fr_trans ((fr_refl _ m)) (fr_mono (fg_X8_fail q3) (by decide))
    obtain rfl := Option.some.inj h
    exact e3
theorem fg_X8_takeOperand_36 {w : rf_w} {a1 : Int32} {m : rf_m} {r : (rf_m)} (h : g_X8_takeOperand_36 w a1 m = some r) : fr S_X8_takeOperand m r := by
  unfold g_X8_takeOperand_36 at h
  rcases rf_ite_some h with ⟨_, h⟩ | ⟨_, h⟩
  · rcases rf_ite_some h with ⟨_, h⟩ | ⟨_, h⟩
    · obtain ⟨m0, q1, h⟩ := rf_bv_some h
      have e1 : fr S_X8_takeOperand m m0 := fr_trans ((fr_refl _ m)) (fr_mono (fg_X8_fail q1) (by decide))
      obtain rfl := Option.some.inj h
      exact e1
    · exact fr_trans ((fr_refl _ m)) (fr_mono (fg_X8_takeOperand_57 h) (by decide))
  · exact fr_trans ((fr_refl _ m)) (fr_mono (fg_X8_takeOperand_57 h) (by decide))
theorem fg_X8_takeOperand {w : rf_w} {m : rf_m} {r : (rf_m)} (h : g_X8_takeOperand w m = some r) : fr S_X8_takeOperand m r := by
  unfold g_X8_takeOperand at h
  obtain ⟨y0, m0, q1, h⟩ := rf_b_some h
  have e1 : fr S_X8_takeOperand m m0 := fr_trans ((fr_refl _ m)) (fr_mono (fg_X8_nameHere q1) (by decide))
  rcases rf_ite_some h with ⟨_, h⟩ | ⟨_, h⟩
  · exact fr_trans e1 (fr_mono (fg_X8_takeOperand_36 h) (by decide))
  · rcases rf_ite_some h with ⟨_, h⟩ | ⟨_, h⟩
    · obtain ⟨y2, m2, q2, h⟩ := rf_b_some h
      have e2 : fr S_X8_takeOperand m m2 := fr_trans e1 (fr_mono (fg_X8_isJoint q2) (by decide))
      rcases rf_ite_some h with ⟨_, h⟩ | ⟨_, h⟩
      · exact fr_trans e2 (fr_mono (fg_X8_takeOperand_36 h) (by decide))
      · obtain ⟨m3, q3, h⟩ := rf_bv_some h
        have e3 : fr S_X8_takeOperand m m3 := fr_trans e2 (fr_mono (fg_X8_fail q3) (by decide))
        obtain rfl := Option.some.inj h
        exact e3
    · obtain ⟨m1, q4, h⟩ := rf_bv_some h
      have e4 : fr S_X8_takeOperand m m1 := fr_trans e1 (fr_mono (fg_X8_fail q4) (by decide))
      obtain rfl := Option.some.inj h
      exact e4
def S_X8_takeOne : fr_S := [(14, 14, some 2), (14, 14, some 5), (14, 14, some 6), (14, 14, some 12), (14, 14, some 13), (14, 14, some 14), (14, 14, some 15), (14, 14, some 16), (14, 14, some 18), (16, 16, none), (17, 17, none)]
theorem fg_X8_takeOne {w : rf_w} {m : rf_m} {r : (rf_m)} (h : g_X8_takeOne w m = some r) : fr S_X8_takeOne m r := by
  unfold g_X8_takeOne at h
  obtain ⟨y0, m0, q1, h⟩ := rf_b_some h
  have e1 : fr S_X8_takeOne m m0 := fr_trans ((fr_refl _ m)) (fr_mono (fg_X8_isWord q1) (by decide))
  rcases rf_ite_some h with ⟨_, h⟩ | ⟨_, h⟩
  · rcases rf_ite_some h with ⟨_, h⟩ | ⟨_, h⟩
    · obtain ⟨m2, q2, h⟩ := rf_bv_some h
      have e2 : fr S_X8_takeOne m m2 := fr_trans e1 (fr_mono (fg_X8_takeBracket q2) (by decide))
      obtain rfl := Option.some.inj h
      exact e2
    · obtain ⟨m1, q3, h⟩ := rf_bv_some h
      have e3 : fr S_X8_takeOne m m1 := fr_trans (fr_i (fr_i e1 (by decide)) (by decide)) (fr_mono (fg_X8_takeOperand q3) (by decide))
      obtain rfl := Option.some.inj h
      exact e3
  · obtain ⟨m3, q4, h⟩ := rf_bv_some h
    have e4 : fr S_X8_takeOne m m3 := fr_trans e1 (fr_mono (fg_X8_takeNot q4) (by decide))
    obtain rfl := Option.some.inj h
    exact e4
def S_X8_actHere : fr_S := []
theorem fg_X8_actHere {w : rf_w} {m : rf_m} {r : (Int32 × rf_m)} (h : g_X8_actHere w m = some r) : fr S_X8_actHere m r.2 := by
  unfold g_X8_actHere at h
  obtain ⟨y0, m0, q1, h⟩ := rf_b_some h
  have e1 : fr S_X8_actHere m m0 := fr_trans ((fr_refl _ m)) (fr_mono (fg_X8_isWord q1) (by decide))
  rcases rf_ite_some h with ⟨_, h⟩ | ⟨_, h⟩
  · obtain ⟨y1, m1, q2, h⟩ := rf_b_some h
    have e2 : fr S_X8_actHere m m1 := fr_trans e1 (fr_mono (fg_X8_isWord q2) (by decide))
    rcases rf_ite_some h with ⟨_, h⟩ | ⟨_, h⟩
    · obtain ⟨y2, m2, q3, h⟩ := rf_b_some h
      have e3 : fr S_X8_actHere m m2 := fr_trans e2 (fr_mono (fg_X8_isWord q3) (by decide))
      rcases rf_ite_some h with ⟨_, h⟩ | ⟨_, h⟩
      · obtain ⟨y3, m3, q4, h⟩ := rf_b_some h
        have e4 : fr S_X8_actHere m m3 := fr_trans e3 (fr_mono (fg_X8_isWord q4) (by decide))
        rcases rf_ite_some h with ⟨_, h⟩ | ⟨_, h⟩
        · obtain ⟨y4, m4, q5, h⟩ := rf_b_some h
          have e5 : fr S_X8_actHere m m4 := fr_trans e4 (fr_mono (fg_X8_isWord q5) (by decide))
          rcases rf_ite_some h with ⟨_, h⟩ | ⟨_, h⟩
          · obtain rfl := Option.some.inj h
            exact e5
          · obtain rfl := Option.some.inj h
            exact e5
        · obtain rfl := Option.some.inj h
          exact e4
      · obtain rfl := Option.some.inj h
        exact e3
    · obtain rfl := Option.some.inj h
      exact e2
  · obtain rfl := Option.some.inj h
    exact e1
def S_X8_takeAct : fr_S := [(14, 14, some 4), (14, 14, some 5), (14, 14, some 6), (14, 14, some 12)]
theorem fg_X8_takeAct {w : rf_w} {m : rf_m} {r : (rf_m)} (h : g_X8_takeAct w m = some r) : fr S_X8_takeAct m r := by
  unfold g_X8_takeAct at h
  obtain ⟨y0, m0, q1, h⟩ := rf_b_some h
  have e1 : fr S_X8_takeAct m m0 := fr_trans ((fr_refl _ m)) (fr_mono (fg_X8_actHere q1) (by decide))
  rcases rf_ite_some h with ⟨_, h⟩ | ⟨_, h⟩
  · obtain ⟨y2, m2, q2, h⟩ := rf_b_some h
    have e2 : fr S_X8_takeAct m m2 := fr_trans (fr_i e1 (by decide)) (fr_mono (fg_X8_isJoint q2) (by decide))
    rcases rf_ite_some h with ⟨_, h⟩ | ⟨_, h⟩
    · rcases rf_ite_some h with ⟨_, h⟩ | ⟨_, h⟩
      · obtain ⟨m3, q3, h⟩ := rf_bv_some h
        have e3 : fr S_X8_takeAct m m3 := fr_trans e2 (fr_mono (fg_X8_fail q3) (by decide))
        obtain rfl := Option.some.inj h
        exact e3
      · rcases rf_ite_some h with ⟨_, h⟩ | ⟨_, h⟩
        · obtain rfl := Option.some.inj h
          exact fr_i e2 (by decide)
        · rcases rf_ite_some h with ⟨_, h⟩ | ⟨_, h⟩
          · obtain rfl := Option.some.inj h
            exact fr_i e2 (by decide)
          · obtain rfl := Option.some.inj h
            exact fr_i e2 (by decide)
    · obtain ⟨m4, q4, h⟩ := rf_bv_some h
      have e4 : fr S_X8_takeAct m m4 := fr_trans e2 (fr_mono (fg_X8_fail q4) (by decide))
      obtain rfl := Option.some.inj h
      exact e4
  · obtain ⟨m1, q5, h⟩ := rf_bv_some h
    have e5 : fr S_X8_takeAct m m1 := fr_trans (fr_i e1 (by decide)) (fr_mono (fg_X8_fail q5) (by decide))
    obtain rfl := Option.some.inj h
    exact e5
def S_X8_takeToken : fr_S := [(14, 14, some 2), (14, 14, some 3), (14, 14, some 4), (14, 14, some 5), (14, 14, some 6), (14, 14, some 12), (14, 14, some 13), (14, 14, some 14), (14, 14, some 15), (14, 14, some 16), (14, 14, some 18), (16, 16, none), (17, 17, none)]
theorem fg_X8_takeToken {w : rf_w} {m : rf_m} {r : (rf_m)} (h : g_X8_takeToken w m = some r) : fr S_X8_takeToken m r := by
  unfold g_X8_takeToken at h
  rcases rf_ite_some h with ⟨_, h⟩ | ⟨_, h⟩
  · obtain ⟨m0, q1, h⟩ := rf_bv_some h
    have e1 : fr S_X8_takeToken m m0 := fr_trans ((fr_refl _ m)) (fr_mono (fg_X8_takeAct q1) (by decide))
    obtain rfl := Option.some.inj h
    exact e1
  · rcases rf_ite_some h with ⟨_, h⟩ | ⟨_, h⟩
    · obtain ⟨m1, q2, h⟩ := rf_bv_some h
      have e2 : fr S_X8_takeToken m m1 := fr_trans ((fr_refl _ m)) (fr_mono (fg_X8_takeIf q2) (by decide))
      obtain rfl := Option.some.inj h
      exact e2
    · rcases rf_ite_some h with ⟨_, h⟩ | ⟨_, h⟩
      · obtain ⟨m2, q3, h⟩ := rf_bv_some h
        have e3 : fr S_X8_takeToken m m2 := fr_trans ((fr_refl _ m)) (fr_mono (fg_X8_takeOne q3) (by decide))
        obtain rfl := Option.some.inj h
        exact e3
      · rcases rf_ite_some h with ⟨_, h⟩ | ⟨_, h⟩
        · obtain ⟨m3, q4, h⟩ := rf_bv_some h
          have e4 : fr S_X8_takeToken m m3 := fr_trans ((fr_refl _ m)) (fr_mono (fg_X8_takeOperand q4) (by decide))
          obtain rfl := Option.some.inj h
          exact e4
        · rcases rf_ite_some h with ⟨_, h⟩ | ⟨_, h⟩
          · obtain ⟨m4, q5, h⟩ := rf_bv_some h
            have e5 : fr S_X8_takeToken m m4 := fr_trans ((fr_refl _ m)) (fr_mono (fg_X8_takeSign q5) (by decide))
            obtain rfl := Option.some.inj h
            exact e5
          · obtain ⟨m5, q6, h⟩ := rf_bv_some h
            have e6 : fr S_X8_takeToken m m5 := fr_trans ((fr_refl _ m)) (fr_mono (fg_X8_takeJoint q6) (by decide))
            obtain rfl := Option.some.inj h
            exact e6
def S_X8_parse : fr_S := [(14, 14, some 2), (14, 14, some 3), (14, 14, some 4), (14, 14, some 5), (14, 14, some 6), (14, 14, some 7), (14, 14, some 8), (14, 14, some 9), (14, 14, some 10), (14, 14, some 11), (14, 14, some 12), (14, 14, some 13), (14, 14, some 14), (14, 14, some 15), (14, 14, some 16), (14, 14, some 18), (16, 16, none), (17, 17, none)]
theorem fg_X8_parse_62_b {w : rf_w} {rec62 : Int32 → rf_m → Option (Int32 × rf_m)} {a2 : Int32} {m : rf_m} (hr_rec62 : ∀ {x0 : Int32} {m : rf_m} {r : (Int32 × rf_m)}, rec62 x0 m = some r → fr S_X8_parse m r.2) {r : (Int32 × rf_m)} (h : g_X8_parse_62_b w rec62 a2 m = some r) : fr S_X8_parse m r.2 := by
  unfold g_X8_parse_62_b at h
  rcases rf_ite_some h with ⟨_, h⟩ | ⟨_, h⟩
  · rcases rf_ite_some h with ⟨_, h⟩ | ⟨_, h⟩
    · obtain rfl := Option.some.inj h
      exact (fr_refl _ m)
    · obtain rfl := Option.some.inj h
      exact (fr_refl _ m)
  · rcases rf_ite_some h with ⟨_, h⟩ | ⟨_, h⟩
    · rcases rf_ite_some h with ⟨_, h⟩ | ⟨_, h⟩
      · obtain rfl := Option.some.inj h
        exact (fr_refl _ m)
      · obtain rfl := Option.some.inj h
        exact (fr_refl _ m)
    · rcases rf_ite_some h with ⟨_, h⟩ | ⟨_, h⟩
      · obtain ⟨m0, q1, h⟩ := rf_bv_some h
        have e1 : fr S_X8_parse m m0 := fr_trans ((fr_refl _ m)) (fr_mono (fg_X8_next q1) (by decide))
        obtain ⟨m1, q2, h⟩ := rf_bv_some h
        have e2 : fr S_X8_parse m m1 := fr_trans e1 (fr_mono (fg_X8_takeToken q2) (by decide))
        exact fr_trans e2 (hr_rec62 h)
      · rcases rf_ite_some h with ⟨_, h⟩ | ⟨_, h⟩
        · obtain rfl := Option.some.inj h
          exact (fr_refl _ m)
        · obtain rfl := Option.some.inj h
          exact (fr_refl _ m)
theorem fg_X8_parse_62 {w : rf_w} (n : Nat) : ∀ {a2 : Int32} {m : rf_m} {r : (Int32 × rf_m)}, g_X8_parse_62 w n a2 m = some r → fr S_X8_parse m r.2 := by
  induction n with
  | zero => intro a2 m r h; cases h
  | succ n ih =>
    intro a2 m r h
    exact fg_X8_parse_62_b ih h
theorem fg_X8_parse {w : rf_w} {m : rf_m} {a1 : Int32} {r : (Int32 × rf_m)} (h : g_X8_parse w m a1 = some r) : fr S_X8_parse m r.2 := by
  unfold g_X8_parse at h
  exact fr_trans (fr_i (fr_i (fr_i (fr_i (fr_i (fr_i (fr_i (fr_i (fr_i (fr_i (fr_i (fr_i ((fr_refl _ m)) (by decide)) (by decide)) (by decide)) (by decide)) (by decide)) (by decide)) (by decide)) (by decide)) (by decide)) (by decide)) (by decide)) (by decide)) (fr_mono (fg_X8_parse_62 _ h) (by decide))
def S_X11_rule : fr_S := [(0, 0, some 11), (0, 0, some 12), (0, 0, some 13), (13, 13, some 2), (13, 13, some 3), (14, 14, some 2), (14, 14, some 3), (14, 14, some 4), (14, 14, some 5), (14, 14, some 6), (14, 14, some 7), (14, 14, some 8), (14, 14, some 9), (14, 14, some 10), (14, 14, some 11), (14, 14, some 12), (14, 14, some 13), (14, 14, some 14), (14, 14, some 15), (14, 14, some 16), (14, 14, some 18), (16, 16, none), (17, 17, none), (19, 19, none), (20, 20, none), (21, 21, none), (22, 22, none), (23, 23, none), (24, 24, none), (26, 26, some 19), (40, 40, none)]
theorem fg_X11_rule {w : rf_w} {m : rf_m} {a1 : Int32} {a2 : Int32} {a3 : Int32} {r : (Int32 × rf_m)} (h : g_X11_rule w m a1 a2 a3 = some r) : fr S_X11_rule m r.2 := by
  unfold g_X11_rule at h
  obtain ⟨y0, m0, q1, h⟩ := rf_b_some h
  have e1 : fr S_X11_rule m m0 := fr_trans ((fr_refl _ m)) (fr_mono (fg_X11_isWithin q1) (by decide))
  rcases rf_ite_some h with ⟨_, h⟩ | ⟨_, h⟩
  · obtain ⟨y1, m1, q2, h⟩ := rf_b_some h
    have e2 : fr S_X11_rule m m1 := fr_trans e1 (fr_mono (fg_X11_refused q2) (by decide))
    obtain rfl := Option.some.inj h
    exact e2
  · obtain ⟨y2, m2, q3, h⟩ := rf_b_some h
    have e3 : fr S_X11_rule m m2 := fr_trans e1 (fr_mono (fg_X11_isTime q3) (by decide))
    rcases rf_ite_some h with ⟨_, h⟩ | ⟨_, h⟩
    · obtain ⟨y11, m11, q4, h⟩ := rf_b_some h
      have e4 : fr S_X11_rule m m11 := fr_trans e3 (fr_mono (fg_X11_refused q4) (by decide))
      obtain rfl := Option.some.inj h
      exact e4
    · obtain ⟨y3, m3, q5, h⟩ := rf_b_some h
      have e5 : fr S_X11_rule m m3 := fr_trans (fr_i e3 (by decide)) (fr_mono (fg_X8_parse q5) (by decide))
      rcases rf_ite_some h with ⟨_, h⟩ | ⟨_, h⟩
      · obtain ⟨y10, m10, q6, h⟩ := rf_b_some h
        have e6 : fr S_X11_rule m m10 := fr_trans (fr_i (fr_i e5 (by decide)) (by decide)) (fr_mono (fg_X11_refused q6) (by decide))
        obtain rfl := Option.some.inj h
        exact e6
      · rcases rf_ite_some h with ⟨_, h⟩ | ⟨_, h⟩
        · obtain ⟨y4, m4, q7, h⟩ := rf_b_some h
          have e7 : fr S_X11_rule m m4 := fr_trans (fr_i (fr_i e5 (by decide)) (by decide)) (fr_mono (fg_X9_add q7) (by decide))
          obtain ⟨y5, m5, q8, h⟩ := rf_b_some h
          have e8 : fr S_X11_rule m m5 := fr_trans e7 (fr_mono (fg_X9_isStriking q8) (by decide))
          rcases rf_ite_some h with ⟨_, h⟩ | ⟨_, h⟩
          · obtain ⟨y6, m6, q9, h⟩ := rf_b_some h
            have e9 : fr S_X11_rule m m6 := fr_trans e8 (fr_mono (fg_X11_answered q9) (by decide))
            obtain rfl := Option.some.inj h
            exact e9
          · obtain ⟨m7, q10, h⟩ := rf_bv_some h
            have e10 : fr S_X11_rule m m7 := fr_trans e8 (fr_mono (fg_X3_forgetAll q10) (by decide))
            obtain ⟨y8, m8, q11, h⟩ := rf_b_some h
            have e11 : fr S_X11_rule m m8 := fr_trans e10 (fr_mono (fg_X11_answered q11) (by decide))
            obtain rfl := Option.some.inj h
            exact e11
        · obtain ⟨y9, m9, q12, h⟩ := rf_b_some h
          have e12 : fr S_X11_rule m m9 := fr_trans (fr_i (fr_i e5 (by decide)) (by decide)) (fr_mono (fg_X11_refused q12) (by decide))
          obtain rfl := Option.some.inj h
          exact e12
def S_X14_wordOf : fr_S := []
theorem fg_X14_wordOf_4_b {w : rf_w} {rec4 : Nat → Int64 → Int32 → rf_m → Option (Int64 × rf_m)} {a0 : Nat} {a1 : Int64} {a3 : Int32} {m : rf_m} (hr_rec4 : ∀ {x0 : Nat} {x1 : Int64} {x2 : Int32} {m : rf_m} {r : (Int64 × rf_m)}, rec4 x0 x1 x2 m = some r → fr S_X14_wordOf m r.2) {r : (Int64 × rf_m)} (h : g_X14_wordOf_4_b w rec4 a0 a1 a3 m = some r) : fr S_X14_wordOf m r.2 := by
  unfold g_X14_wordOf_4_b at h
  obtain ⟨_, h⟩ := rf_g_some h
  obtain ⟨y1, m1, q1, h⟩ := rf_b_some h
  have e1 : fr S_X14_wordOf m m1 := fr_trans ((fr_refl _ m)) (fr_mono (fg_J0_length_8abf5 q1) (by decide))
  rcases rf_ite_some h with ⟨_, h⟩ | ⟨_, h⟩
  · obtain rfl := Option.some.inj h
    exact e1
  · obtain ⟨y2, m2, q2, h⟩ := rf_b_some h
    have e2 : fr S_X14_wordOf m m2 := fr_trans e1 (fr_mono (fg_J0_charAt_5068e q2) (by decide))
    have h := fr_vl h
    exact fr_trans e2 (hr_rec4 h)
theorem fg_X14_wordOf_4 {w : rf_w} (n : Nat) : ∀ {a0 : Nat} {a1 : Int64} {a3 : Int32} {m : rf_m} {r : (Int64 × rf_m)}, g_X14_wordOf_4 w n a0 a1 a3 m = some r → fr S_X14_wordOf m r.2 := by
  induction n with
  | zero => intro a0 a1 a3 m r h; cases h
  | succ n ih =>
    intro a0 a1 a3 m r h
    exact fg_X14_wordOf_4_b ih h
theorem fg_X14_wordOf {w : rf_w} {m : rf_m} {a0 : Nat} {r : (Int64 × rf_m)} (h : g_X14_wordOf w m a0 = some r) : fr S_X14_wordOf m r.2 := by
  unfold g_X14_wordOf at h
  obtain ⟨_, h⟩ := rf_g_some h
  exact fr_trans ((fr_refl _ m)) (fr_mono (fg_X14_wordOf_4 _ h) (by decide))
def S_X14_isWord : fr_S := []
theorem fg_X14_isWord {w : rf_w} {m : rf_m} {a1 : Nat} {r : (Int32 × rf_m)} (h : g_X14_isWord w m a1 = some r) : fr S_X14_isWord m r.2 := by
  unfold g_X14_isWord at h
  obtain ⟨_, h⟩ := rf_g_some h
  rcases rf_ite_some h with ⟨_, h⟩ | ⟨_, h⟩
  · obtain ⟨y1, m1, q1, h⟩ := rf_b_some h
    have e1 : fr S_X14_isWord m m1 := fr_trans ((fr_refl _ m)) (fr_mono (fg_X14_wordOf q1) (by decide))
    rcases rf_ite_some h with ⟨_, h⟩ | ⟨_, h⟩
    · obtain rfl := Option.some.inj h
      exact e1
    · obtain rfl := Option.some.inj h
      exact e1
  · obtain rfl := Option.some.inj h
    exact (fr_refl _ m)
def S_X14_isKept : fr_S := []
theorem fg_X14_isKept {w : rf_w} {m : rf_m} {r : (Int32 × rf_m)} (h : g_X14_isKept w m = some r) : fr S_X14_isKept m r.2 := by
  unfold g_X14_isKept at h
  obtain ⟨y0, m0, q1, h⟩ := rf_b_some h
  have e1 : fr S_X14_isKept m m0 := fr_trans ((fr_refl _ m)) (fr_mono (fg_X14_isWord q1) (by decide))
  rcases rf_ite_some h with ⟨_, h⟩ | ⟨_, h⟩
  · obtain ⟨y1, m1, q2, h⟩ := rf_b_some h
    have e2 : fr S_X14_isKept m m1 := fr_trans e1 (fr_mono (fg_X14_isWord q2) (by decide))
    rcases rf_ite_some h with ⟨_, h⟩ | ⟨_, h⟩
    · obtain ⟨y2, m2, q3, h⟩ := rf_b_some h
      have e3 : fr S_X14_isKept m m2 := fr_trans e2 (fr_mono (fg_X14_isWord q3) (by decide))
      rcases rf_ite_some h with ⟨_, h⟩ | ⟨_, h⟩
      · obtain ⟨y3, m3, q4, h⟩ := rf_b_some h
        have e4 : fr S_X14_isKept m m3 := fr_trans e3 (fr_mono (fg_X14_isWord q4) (by decide))
        rcases rf_ite_some h with ⟨_, h⟩ | ⟨_, h⟩
        · obtain rfl := Option.some.inj h
          exact e4
        · obtain rfl := Option.some.inj h
          exact e4
      · obtain rfl := Option.some.inj h
        exact e3
    · obtain rfl := Option.some.inj h
      exact e2
  · obtain rfl := Option.some.inj h
    exact e1
def S_X14_nameHere : fr_S := []
theorem fg_X14_nameHere {w : rf_w} {m : rf_m} {r : (Int32 × rf_m)} (h : g_X14_nameHere w m = some r) : fr S_X14_nameHere m r.2 := by
  unfold g_X14_nameHere at h
  obtain ⟨y0, m0, q1, h⟩ := rf_b_some h
  have e1 : fr S_X14_nameHere m m0 := fr_trans ((fr_refl _ m)) (fr_mono (fg_X14_isWord q1) (by decide))
  rcases rf_ite_some h with ⟨_, h⟩ | ⟨_, h⟩
  · obtain ⟨y1, m1, q2, h⟩ := rf_b_some h
    have e2 : fr S_X14_nameHere m m1 := fr_trans e1 (fr_mono (fg_X14_isWord q2) (by decide))
    rcases rf_ite_some h with ⟨_, h⟩ | ⟨_, h⟩
    · obtain ⟨y2, m2, q3, h⟩ := rf_b_some h
      have e3 : fr S_X14_nameHere m m2 := fr_trans e2 (fr_mono (fg_X14_isWord q3) (by decide))
      rcases rf_ite_some h with ⟨_, h⟩ | ⟨_, h⟩
      · obtain ⟨y3, m3, q4, h⟩ := rf_b_some h
        have e4 : fr S_X14_nameHere m m3 := fr_trans e3 (fr_mono (fg_X14_isWord q4) (by decide))
        rcases rf_ite_some h with ⟨_, h⟩ | ⟨_, h⟩
        · obtain ⟨y4, m4, q5, h⟩ := rf_b_some h
          have e5 : fr S_X14_nameHere m m4 := fr_trans e4 (fr_mono (fg_X14_isWord q5) (by decide))
          rcases rf_ite_some h with ⟨_, h⟩ | ⟨_, h⟩
          · obtain ⟨y5, m5, q6, h⟩ := rf_b_some h
            have e6 : fr S_X14_nameHere m m5 := fr_trans e5 (fr_mono (fg_X14_isWord q6) (by decide))
            rcases rf_ite_some h with ⟨_, h⟩ | ⟨_, h⟩
            · obtain ⟨y6, m6, q7, h⟩ := rf_b_some h
              have e7 : fr S_X14_nameHere m m6 := fr_trans e6 (fr_mono (fg_X14_isWord q7) (by decide))
              rcases rf_ite_some h with ⟨_, h⟩ | ⟨_, h⟩
              · obtain rfl := Option.some.inj h
                exact e7
              · obtain rfl := Option.some.inj h
                exact e7
            · obtain rfl := Option.some.inj h
              exact e6
          · obtain rfl := Option.some.inj h
            exact e5
        · obtain rfl := Option.some.inj h
          exact e4
      · obtain rfl := Option.some.inj h
        exact e3
    · obtain rfl := Option.some.inj h
      exact e2
  · obtain rfl := Option.some.inj h
    exact e1
def S_X14_stop : fr_S := [(233, 233, some 6), (233, 233, some 7)]
theorem fg_X14_stop {w : rf_w} {m : rf_m} {a1 : Int32} {r : (rf_m)} (h : g_X14_stop w m a1 = some r) : fr S_X14_stop m r := by
  unfold g_X14_stop at h
  obtain rfl := Option.some.inj h
  exact fr_i (fr_i ((fr_refl _ m)) (by decide)) (by decide)
def S_X14_read : fr_S := [(206, 206, some 0), (206, 206, some 1), (206, 206, some 2), (206, 206, some 17), (216, 216, none), (220, 220, none), (221, 221, none), (222, 222, none), (223, 223, none), (224, 224, none)]
theorem fg_X14_read_99 {w : rf_w} {a1 : Int32} {a3 : Int32} {a4 : Int32} {a6 : Int32} {m : rf_m} {r : (Int32 × rf_m)} (h : g_X14_read_99 w a1 a3 a4 a6 m = some r) : fr S_X14_read m r.2 := by
  unfold g_X14_read_99 at h
  rcases rf_ite_some h with ⟨_, h⟩ | ⟨_, h⟩
  · obtain ⟨y0, m0, q1, h⟩ := rf_b_some h
    have e1 : fr S_X14_read m m0 := fr_trans ((fr_refl _ m)) (fr_mono (fg_X14_refused q1) (by decide))
    obtain rfl := Option.some.inj h
    exact e1
  · obtain ⟨y1, m1, q2, h⟩ := rf_b_some h
    have e2 : fr S_X14_read m m1 := fr_trans ((fr_refl _ m)) (fr_mono (fg_X14_readingsOf q2) (by decide))
    rcases rf_ite_some h with ⟨_, h⟩ | ⟨_, h⟩
    · obtain ⟨y9, m9, q3, h⟩ := rf_b_some h
      have e3 : fr S_X14_read m m9 := fr_trans e2 (fr_mono (fg_X14_refused q3) (by decide))
      obtain rfl := Option.some.inj h
      exact e3
    · obtain ⟨_, h⟩ := rf_g_some h
      obtain ⟨_, h⟩ := rf_g_some h
      obtain ⟨_, h⟩ := rf_g_some h
      obtain ⟨_, h⟩ := rf_g_some h
      obtain ⟨_, h⟩ := rf_g_some h
      obtain ⟨_, h⟩ := rf_g_some h
      obtain ⟨y8, m8, q4, h⟩ := rf_b_some h
      have e4 : fr S_X14_read m m8 := fr_trans (fr_i (fr_i (fr_i (fr_i (fr_i (fr_i (fr_i e2 (fr_c_in (by decide) _)) (fr_c_in (by decide) _)) (fr_c_in (by decide) _)) (fr_c_in (by decide) _)) (fr_c_in (by decide) _)) (fr_c_in (by decide) _)) (by decide)) (fr_mono (fg_X14_done q4) (by decide))
      obtain rfl := Option.some.inj h
      exact e4
theorem fg_X14_read_78 {w : rf_w} {a1 : Int32} {a3 : Int32} {a4 : Int32} {a5 : UInt32} {a6 : Int32} {m : rf_m} {r : (Int32 × rf_m)} (h : g_X14_read_78 w a1 a3 a4 a5 a6 m = some r) : fr S_X14_read m r.2 := by
  unfold g_X14_read_78 at h
  rcases rf_ite_some h with ⟨_, h⟩ | ⟨_, h⟩
  · rcases rf_ite_some h with ⟨_, h⟩ | ⟨_, h⟩
    · obtain ⟨y0, m0, q1, h⟩ := rf_b_some h
      have e1 : fr S_X14_read m m0 := fr_trans ((fr_refl _ m)) (fr_mono (fg_X14_refused q1) (by decide))
      obtain rfl := Option.some.inj h
      exact e1
    · exact fr_trans ((fr_refl _ m)) (fr_mono (fg_X14_read_99 h) (by decide))
  · exact fr_trans ((fr_refl _ m)) (fr_mono (fg_X14_read_99 h) (by decide))
theorem fg_X14_read_50 {w : rf_w} {a1 : Int32} {a3 : Int32} {a4 : Int32} {a5 : UInt32} {s0 : Int32} {m : rf_m} {r : (Int32 × rf_m)} (h : g_X14_read_50 w a1 a3 a4 a5 s0 m = some r) : fr S_X14_read m r.2 := by
  unfold g_X14_read_50 at h
  obtain ⟨y0, m0, q1, h⟩ := rf_b_some h
  have e1 : fr S_X14_read m m0 := fr_trans ((fr_refl _ m)) (fr_mono (fg_X14_isHour q1) (by decide))
  rcases rf_ite_some h with ⟨_, h⟩ | ⟨_, h⟩
  · obtain ⟨y1, m1, q2, h⟩ := rf_b_some h
    have e2 : fr S_X14_read m m1 := fr_trans e1 (fr_mono (fg_X14_refused q2) (by decide))
    obtain rfl := Option.some.inj h
    exact e2
  · rcases rf_ite_some h with ⟨_, h⟩ | ⟨_, h⟩
    · exact fr_trans e1 (fr_mono (fg_X14_read_78 h) (by decide))
    · obtain ⟨y2, m2, q3, h⟩ := rf_b_some h
      have e3 : fr S_X14_read m m2 := fr_trans e1 (fr_mono (fg_X14_in q3) (by decide))
      rcases rf_ite_some h with ⟨_, h⟩ | ⟨_, h⟩
      · obtain ⟨y3, m3, q4, h⟩ := rf_b_some h
        have e4 : fr S_X14_read m m3 := fr_trans e3 (fr_mono (fg_X14_refused q4) (by decide))
        obtain rfl := Option.some.inj h
        exact e4
      · exact fr_trans e3 (fr_mono (fg_X14_read_78 h) (by decide))
theorem fg_X14_read_32 {w : rf_w} {a1 : Int32} {a3 : Int32} {a4 : Int32} {s0 : UInt32} {m : rf_m} {r : (Int32 × rf_m)} (h : g_X14_read_32 w a1 a3 a4 s0 m = some r) : fr S_X14_read m r.2 := by
  unfold g_X14_read_32 at h
  rcases rf_ite_some h with ⟨_, h⟩ | ⟨_, h⟩
  · exact fr_trans ((fr_refl _ m)) (fr_mono (fg_X14_read_50 h) (by decide))
  · exact fr_trans ((fr_refl _ m)) (fr_mono (fg_X14_read_50 h) (by decide))
theorem fh_X14_read_28 {w : rf_w} {a1 : Int32} {a2 : Int32} {a3 : Int32} {a4 : Int32} {m : rf_m} {r : (Int32 × rf_m)} (h : h_X14_read_28 w a1 a2 a3 a4 m = some r) : fr S_X14_read m r.2 := by
  unfold h_X14_read_28 at h
  exact fr_trans ((fr_refl _ m)) (fr_mono (fg_X14_read_32 h) (by decide))
theorem fg_X14_read_0 {w : rf_w} {a1 : Int32} {a2 : Int32} {a3 : Int32} {a4 : Int32} {m : rf_m} {r : (Int32 × rf_m)} (h : g_X14_read_0 w a1 a2 a3 a4 m = some r) : fr S_X14_read m r.2 := by
  unfold g_X14_read_0 at h
  obtain ⟨y0, m0, q1, h⟩ := rf_b_some h
  have e1 : fr S_X14_read m m0 := fr_trans (fr_i ((fr_refl _ m)) (by decide)) (fr_mono (fg_X14_isAngle q1) (by decide))
  rcases rf_ite_some h with ⟨_, h⟩ | ⟨_, h⟩
  · obtain ⟨y1, m1, q2, h⟩ := rf_b_some h
    have e2 : fr S_X14_read m m1 := fr_trans e1 (fr_mono (fg_X14_refused q2) (by decide))
    obtain rfl := Option.some.inj h
    exact e2
  · obtain ⟨y2, m2, q3, h⟩ := rf_b_some h
    have e3 : fr S_X14_read m m2 := fr_trans e1 (fr_mono (fg_X14_isParty q3) (by decide))
    rcases rf_ite_some h with ⟨_, h⟩ | ⟨_, h⟩
    · obtain ⟨y3, m3, q4, h⟩ := rf_b_some h
      have e4 : fr S_X14_read m m3 := fr_trans e3 (fr_mono (fg_X14_refused q4) (by decide))
      obtain rfl := Option.some.inj h
      exact e4
    · exact fr_trans e3 (fr_mono (fh_X14_read_28 h) (by decide))
end FRL
