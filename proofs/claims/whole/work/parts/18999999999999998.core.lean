/-! the whole: what a call leaves of the pieces that it doesn't touch -/
section PBCore
theorem fe_n {a b z k : Nat} (hb : b ≠ 0) : fr_e (a, b, none) z k = false ↔ (z < a ∨ b < z) := by
  unfold fr_e
  have e : Nat.beq b 0 = false := by
    cases q : Nat.beq b 0 with
    | false => rfl
    | true => exact absurd (Nat.eq_of_beq_eq_true q) hb
  simp only [e, Bool.false_and, Bool.false_or, Bool.and_true]
  constructor
  · intro h
    by_cases q1 : a ≤ z
    · by_cases q2 : z ≤ b
      · rw [Nat.ble_eq_true_of_le q1, Nat.ble_eq_true_of_le q2] at h; cases h
      · omega
    · omega
  · intro h
    rcases h with h | h
    · have : Nat.ble a z = false := by
        cases q : Nat.ble a z with
        | false => rfl
        | true => have := Nat.le_of_ble_eq_true q; omega
      rw [this]; rfl
    · have : Nat.ble z b = false := by
        cases q : Nat.ble z b with
        | false => rfl
        | true => have := Nat.le_of_ble_eq_true q; omega
      rw [this, Bool.and_false]
theorem fe_k {a i z k : Nat} (h : fr_e (a, a, some i) z k = false) : z ≠ a ∨ k ≠ i := by
  by_cases q1 : z = a
  · by_cases q2 : k = i
    · exfalso
      subst q1
      subst q2
      unfold fr_e at h
      simp at h
      have q := h.2
      rw [Nat.ble_eq_true_of_le (Nat.le_refl _)] at q
      cases q
    · exact Or.inr q2
  · exact Or.inl q1
/-- z, k is none of S: what it says of an entry -/
theorem fi_n {S : fr_S} {a b z k : Nat} (h : fr_in S z k = false) (he : (a, b, none) ∈ S) (hb : b ≠ 0) : z < a ∨ b < z := by
  refine (fe_n (k := k) hb).mp ?_
  cases q : fr_e (a, b, none) z k with
  | false => rfl
  | true => rw [show fr_in S z k = true from List.any_eq_true.mpr ⟨_, he, q⟩] at h; cases h
theorem fi_k {S : fr_S} {a i z k : Nat} (h : fr_in S z k = false) (he : (a, a, some i) ∈ S) : z ≠ a ∨ k ≠ i := by
  refine fe_k ?_
  cases q : fr_e (a, a, some i) z k with
  | false => rfl
  | true => rw [show fr_in S z k = true from List.any_eq_true.mpr ⟨_, he, q⟩] at h; cases h
theorem fi_up {S : fr_S} {a z k : Nat} (h : fr_in S z k = false) (he : (a, 0, none) ∈ S) (ha : 1 ≤ a) : z < a := by
  by_cases q : z < a
  · exact q
  · exfalso
    have : fr_e (a, 0, none) z k = true := by
      unfold fr_e
      rw [Nat.ble_eq_true_of_le (show a ≤ z by omega), Nat.ble_eq_true_of_le ha]
      rfl
    rw [show fr_in S z k = true from List.any_eq_true.mpr ⟨_, he, this⟩] at h
    cases h
theorem fr_l1 {S T : fr_S} {m M : rf_m} (h : fr S m M) : fr (S ++ T) m M := fun c k hk => h c k (by
  cases q : fr_in S c k with
  | false => rfl
  | true =>
    have : fr_in (S ++ T) c k = true := by unfold fr_in at q ⊢; rw [List.any_append, q]; rfl
    rw [this] at hk; cases hk)
theorem fr_l2 {S T : fr_S} {m M : rf_m} (h : fr T m M) : fr (S ++ T) m M := fun c k hk => h c k (by
  cases q : fr_in T c k with
  | false => rfl
  | true =>
    have : fr_in (S ++ T) c k = true := by unfold fr_in at q ⊢; rw [List.any_append, q, Bool.or_true]
    rw [this] at hk; cases hk)
theorem fr_two {S T : fr_S} {m A M : rf_m} (h : fr S m A) (h' : fr T A M) : fr (S ++ T) m M := fr_trans (fr_l1 h) (fr_l2 h')
/-- the ints alone -/
def im (m M : rf_m) : rf_m := (M.1, m.2)
theorem fr_im {S : fr_S} {m M : rf_m} (h : fr S m M) : fr S m (im m M) := fun c k hk => ⟨(h c k hk).1, rfl⟩
def PCore : fr_S := [(13, 13, some 3), (19, 24, none), (26, 26, some 7), (26, 26, some 17), (26, 26, some 19), (31, 34, none), (36, 40, none), (216, 217, none), (220, 225, none), (230, 232, none), (306, 0, none), (206, 206, some 5), (206, 206, some 16), (206, 206, some 17), (206, 206, some 18), (206, 206, some 39)]
theorem dep_hi {m M : rf_m} (h : dep PCore m (im m M)) (z : Nat) (hz : 306 ≤ z) : M.1 z = m.1 z := funext fun k => (h z k (by
  refine List.any_eq_true.mpr ⟨(306, 0, none), by decide, ?_⟩
  unfold fr_e
  rw [Nat.ble_eq_true_of_le hz]
  rfl)).1
theorem core_K {c : Nat} {w : rf_w} {m M : rf_m} (J : JCnt c w m) (jc : JCache w m) (jw : JW c w m) (jl : JLg w m) (h : dep PCore m (im m M)) : JRead M ∧ JStr c w M ∧ JRule w M ∧ JDay M ∧ JCache w M ∧ JW c w M ∧ JLg w M := by
  obtain ⟨hcc, j, js, ju, ja, jm, jd⟩ := J
  have hi := dep_hi h
  have g : ∀ z, fr_c PCore z = true → M.1 z = m.1 z := fun z hz => dep_c h z hz
  have e6 : ∀ k, fr_in PCore 206 k = true → M.1 206 k = m.1 206 k := fun k hk => dep_k h 206 k hk
  have e26 : ∀ k, fr_in PCore 26 k = true → M.1 26 k = m.1 26 k := fun k hk => dep_k h 26 k hk
  have hlo : ∀ l, w.2.2 1 = some l → M.1 l = m.1 l := fun l hl => by
    obtain ⟨l', len, j1, j2, j3, _⟩ := js
    have : l' = l := by rw [hl] at j1; exact (Option.some.inj j1).symm
    subst this
    rcases j3 with q | q
    · rw [q]; exact g 225 (by decide)
    · exact hi l' q
  have hob : ∀ k, rob w k → M.1 k = m.1 k ∧ M.1 (k + 1) = m.1 (k + 1) ∧ M.1 (k + 2) = m.1 (k + 2) := fun k hk => by
    rcases hk.2.2.2.2.2 with q | q
    · rw [q]; exact ⟨g 230 (by decide), g 231 (by decide), g 232 (by decide)⟩
    · exact ⟨hi k q, hi (k + 1) (by omega), hi (k + 2) (by omega)⟩
  have hl := JStr_l js
  have hB : eqB m M := ⟨fun z hz => by
    rcases hz with q | q | q | q
    · rcases (show z = 19 ∨ z = 20 ∨ z = 21 ∨ z = 22 ∨ z = 23 ∨ z = 24 by omega) with rfl | rfl | rfl | rfl | rfl | rfl <;> exact g _ (by decide)
    · rw [q]; exact g 217 (by decide)
    · rcases (show z = 220 ∨ z = 221 ∨ z = 222 ∨ z = 223 ∨ z = 224 ∨ z = 225 by omega) with rfl | rfl | rfl | rfl | rfl | rfl <;> exact g _ (by decide)
    · exact hi z q, e6 17 (by decide), e6 18 (by decide), e6 39 (by decide)⟩
  refine ⟨?_, ?_, ⟨?_, ?_, fun r hr => ?_⟩, ?_, ⟨fun a ha hz => ?_, ?_⟩, ?_, fun l hl' i hi' => ?_⟩
  · unfold JRead rdl at *
    rw [e26 7 (by decide), e6 17 (by decide), e6 16 (by decide), g 220 (by decide), g 221 (by decide), g 222 (by decide), g 223 (by decide), g 224 (by decide), g 32 (by decide), g 33 (by decide), g 34 (by decide)]
    exact j
  · obtain ⟨l, len, j1, j2, j3, j4, js⟩ := js
    have el := hlo l j1
    refine ⟨l, len, j1, j2, j3, j4, ?_⟩
    have r1 : lgR M l = lgR m l := by unfold lgR; rw [el]
    have r2 : lgD M l = lgD m l := by unfold lgD; rw [el]
    have r3 : lgI M l = lgI m l := by unfold lgI; rw [el]
    rw [e26 17 (by decide), e6 18 (by decide), e6 17 (by decide), e6 5 (by decide), g 36 (by decide), g 37 (by decide), g 38 (by decide), g 39 (by decide), g 216 (by decide), r1, r2, r3]
    exact js
  · rw [show M.1 13 3 = m.1 13 3 from dep_k h 13 3 (by decide), e6 39 (by decide)]; exact ju.1
  · rw [e6 39 (by decide)]; exact ju.2.1
  · rw [e6 39 (by decide)] at hr
    obtain ⟨k, hk⟩ := ju.2.2 r hr
    obtain ⟨o0, o1, o2⟩ := hob k hk.2.1
    refine ⟨k, ?_⟩
    unfold rulOK at hk ⊢
    rw [o0, o1, o2, g 19 (by decide), g 20 (by decide), g 21 (by decide), g 22 (by decide), g 23 (by decide), g 24 (by decide)]
    exact hk
  · unfold JDay at *
    rw [g 224 (by decide), e6 5 (by decide)]
    exact jd
  · rw [e6 16 (by decide)] at ha
    rw [g 40 (by decide)] at hz
    obtain ⟨t, f⟩ := fre_of (m2 := M) (jc.1 a ha hz) (g 31 (by decide)) (g 32 (by decide)) (g 34 (by decide))
    refine ⟨?_, fun r hr => ?_⟩
    · rw [B_tal hl hB]; exact t
    · rw [B_f4 hl hB]
      rw [B_rdl hB] at hr
      exact f r hr
  · rw [e26 19 (by decide), e6 16 (by decide), g 40 (by decide)]
    exact jc.2
  · obtain ⟨a1, a2, a3, a4, a5⟩ := jw
    refine ⟨a1, a2, a3, ?_, ?_⟩
    · rw [e6 39 (by decide)]; exact a4
    · rw [e6 39 (by decide)]; exact a5
  · rw [e6 18 (by decide)] at hi'
    rw [hlo l hl', e6 17 (by decide)]
    exact jl l hl' i hi'
def PAdj : fr_S := [(58, 59, none), (63, 64, none), (163, 174, none), (259, 259, none), (263, 264, none), (206, 206, some 88)]
theorem JAdj_K {m M : rf_m} (h : dep PAdj m M) (j : JAdj m) : JAdj M := by
  refine JAdj_e j (fun z hz => ?_) (fun z hz => ?_) (dep_k h 206 88 (by decide))
  · rcases (show z = 58 ∨ z = 59 ∨ z = 63 ∨ z = 163 ∨ z = 164 ∨ z = 165 ∨ z = 166 ∨ z = 167 ∨ z = 168 ∨ z = 169 ∨ z = 170 ∨ z = 171 ∨ z = 172 ∨ z = 173 ∨ z = 174 ∨ z = 259 ∨ z = 263 ∨ z = 264 by omega) with rfl | rfl | rfl | rfl | rfl | rfl | rfl | rfl | rfl | rfl | rfl | rfl | rfl | rfl | rfl | rfl | rfl | rfl <;> exact dep_c h _ (by decide)
  · rcases (show z = 64 ∨ z = 163 ∨ z = 164 ∨ z = 165 ∨ z = 166 ∨ z = 167 ∨ z = 168 ∨ z = 169 ∨ z = 170 ∨ z = 171 ∨ z = 172 ∨ z = 173 ∨ z = 174 by omega) with rfl | rfl | rfl | rfl | rfl | rfl | rfl | rfl | rfl | rfl | rfl | rfl | rfl <;> exact dep_cl h _ (by decide)
def PWt : fr_S := [(57, 57, none)]
theorem JWt_K {m M : rf_m} (h : dep PWt m M) (j : JWt m) : JWt M := by
  unfold JWt at *
  rw [dep_c h 57 (by decide)]
  exact j
def PSus : fr_S := [(184, 184, some 1), (186, 186, none), (206, 206, some 116), (206, 206, some 17), (282, 282, none)]
theorem JSus_K {m M : rf_m} (h : dep PSus m M) (j : JSus m) : JSus M := by
  unfold JSus at *
  rw [dep_k h 184 1 (by decide), dep_c h 186 (by decide), dep_k h 206 116 (by decide), dep_k h 206 17 (by decide), dep_c h 282 (by decide)]
  exact j
theorem JTow_m {a b : Nat} {m : rf_m} (h : JTow a m) (hab : a ≤ b) : JTow b m := ⟨h.1, Nat.le_trans h.2.1 hab, h.2.2⟩
def PJW : fr_S := [(206, 206, some 39)]
theorem JW_K {c : Nat} {w : rf_w} {m M : rf_m} (h : dep PJW m M) (jw : JW c w m) : JW c w M := by
  obtain ⟨a1, a2, a3, a4, a5⟩ := jw
  refine ⟨a1, a2, a3, ?_, ?_⟩
  · rw [dep_k h 206 39 (by decide)]; exact a4
  · rw [dep_k h 206 39 (by decide)]; exact a5
def PLg : fr_S := [(206, 206, some 17), (206, 206, some 18), (225, 225, none), (306, 0, none)]
theorem JLg_K {c : Nat} {w : rf_w} {m M : rf_m} (js : JStr c w m) (h : dep PLg m M) (jl : JLg w m) : JLg w M := by
  intro l hl i hi
  rw [dep_k h 206 18 (by decide)] at hi
  have el : M.1 l = m.1 l := by
    obtain ⟨l', len, j1, j2, j3, _⟩ := js
    have : l' = l := by rw [hl] at j1; exact (Option.some.inj j1).symm
    subst this
    rcases j3 with q | q
    · rw [q]; exact dep_c h 225 (by decide)
    · refine funext fun k => (h l' k ?_).1
      refine List.any_eq_true.mpr ⟨(306, 0, none), by decide, ?_⟩
      unfold fr_e
      rw [Nat.ble_eq_true_of_le q]
      rfl
  rw [el, dep_k h 206 17 (by decide)]
  exact jl l hl i hi
/-- the whole -/
def JJ (c : Nat) (w : rf_w) (m : rf_m) : Prop := JD m ∧ JT m ∧ JCell m ∧ JTow c m ∧ JHaze m ∧ JMass m ∧ JParty m ∧ JBase m ∧ JArc m ∧ JSight m ∧ JLevel m ∧ JNet m ∧ JFeed m ∧ JTell m ∧ JGuilt m ∧ JCost m ∧ JAdj m ∧ JWt m ∧ JSus m ∧ JCnt c w m ∧ JCache w m ∧ JW c w m ∧ JLg w m
theorem num_of {c : Nat} {w : rf_w} {m : rf_m} (j : JJ c w m) : JNum m := by
  obtain ⟨jD, jt, jcell, jtow, jhaze, jmass, jparty, jbase, jarc, jsight, jlevel, jnet, jfeed, jtell, jguilt, jcost, jadj, jwt, jsus, J, jc, jw, jl⟩ := j
  obtain ⟨hcc, jr, js, ju, ja, jm, jd⟩ := J
  obtain ⟨u, _, s1, s2, _⟩ := jsus
  exact ⟨jm.1, ja.1, jr.1, ju.1, jbase.1, jnet.1, jnet.2.2.1, jparty.1, jsight.1, jlevel.1, s1.trans s2.symm, jD.1, jfeed.1⟩
end PBCore
