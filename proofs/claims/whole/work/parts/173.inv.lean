section PBJ
/-! the invariant's pieces (written by wip/tool/gen_inv.py out of inv.src) -/
/-- x is within -/
def iv (a b x : Int32) : Prop := a ≤ x ∧ x ≤ b
/-- an angle looks from one to the other -/
def btw (fr to : Nat → Int32) (a x y : Int32) : Prop := (fr a.toNatClampNeg = x ∧ to a.toNatClampNeg = y) ∨ (fr a.toNatClampNeg = y ∧ to a.toNatClampNeg = x)
/-- three angles make a triangle -/
def tri (at_ fr to : Nat → Int32) (n a b c : Int32) : Prop := (0 ≤ a ∧ a < n) ∧ (0 ≤ b ∧ b < n) ∧ (0 ≤ c ∧ c < n) ∧ at_ a.toNatClampNeg ≠ at_ b.toNatClampNeg ∧ at_ b.toNatClampNeg ≠ at_ c.toNatClampNeg ∧ at_ c.toNatClampNeg ≠ at_ a.toNatClampNeg ∧ btw fr to a (at_ b.toNatClampNeg) (at_ c.toNatClampNeg) ∧ btw fr to b (at_ a.toNatClampNeg) (at_ c.toNatClampNeg) ∧ btw fr to c (at_ a.toNatClampNeg) (at_ b.toNatClampNeg)
/-- the tower that was told last for a mark up to a day -/
def lastT (f g h : Nat → Int32) : Nat → Int32 → Int32 → Int32
  | 0, _, _ => 0
  | t + 1, k, d => if f t = k ∧ g t ≤ d then h t else lastT f g h t k d
def JD (m : rf_m) : Prop :=
  m.1 0 10 = m.1 206 5 ∧ iv 0 9999 (m.1 206 5)
def PD : fr_S := [(0, 0, some 10), (206, 206, some 5)]
theorem JD_dep {m m' : rf_m} (h : dep PD m m') (j : JD m) : JD m' := by
  unfold JD at *
  simp only [dep_k h 0 10 (by decide), dep_k h 206 5 (by decide)]
  exact j
theorem JD_fr {S : fr_S} {m m' : rf_m} (h : fr S m m') (hd : fr_dis PD S = true) (j : JD m) : JD m' := JD_dep (dep_of h hd) j
def JT (m : rf_m) : Prop :=
  m.1 0 11 = m.1 206 1 ∧ m.1 0 12 = m.1 206 3 ∧ m.1 206 2 = (if m.1 206 1 = 4 then m.1 0 13 else -1)
def PT : fr_S := [(0, 0, some 11), (0, 0, some 12), (0, 0, some 13), (206, 206, some 1), (206, 206, some 2), (206, 206, some 3)]
theorem JT_dep {m m' : rf_m} (h : dep PT m m') (j : JT m) : JT m' := by
  unfold JT at *
  simp only [dep_k h 0 11 (by decide), dep_k h 0 12 (by decide), dep_k h 0 13 (by decide), dep_k h 206 1 (by decide), dep_k h 206 2 (by decide), dep_k h 206 3 (by decide)]
  exact j
theorem JT_fr {S : fr_S} {m m' : rf_m} (h : fr S m m') (hd : fr_dis PT S = true) (j : JT m) : JT m' := JT_dep (dep_of h hd) j
def JCell (m : rf_m) : Prop :=
  m.1 2 = m.1 207 ∧ (∀ i, iv 0 2000 (m.1 207 i)) ∧ m.1 3 = m.1 208 ∧ (∀ i, iv 0 90 (m.1 208 i))
def PCell : fr_S := [(2, 2, none), (3, 3, none), (207, 207, none), (208, 208, none)]
theorem JCell_dep {m m' : rf_m} (h : dep PCell m m') (j : JCell m) : JCell m' := by
  unfold JCell at *
  simp only [dep_c h 2 (by decide), dep_c h 3 (by decide), dep_c h 207 (by decide), dep_c h 208 (by decide)]
  exact j
theorem JCell_fr {S : fr_S} {m m' : rf_m} (h : fr S m m') (hd : fr_dis PCell S = true) (j : JCell m) : JCell m' := JCell_dep (dep_of h hd) j
def JMark (m : rf_m) : Prop :=
  m.1 1 4 = m.1 206 4 ∧ iv 0 30 (m.1 206 4) ∧ m.1 4 = m.1 209 ∧ (∀ i, iv 0 1023 (m.1 209 i)) ∧ m.1 5 = m.1 214
def PMark : fr_S := [(4, 4, none), (5, 5, none), (209, 209, none), (214, 214, none), (1, 1, some 4), (206, 206, some 4)]
theorem JMark_dep {m m' : rf_m} (h : dep PMark m m') (j : JMark m) : JMark m' := by
  unfold JMark at *
  simp only [dep_c h 4 (by decide), dep_c h 5 (by decide), dep_c h 209 (by decide), dep_c h 214 (by decide), dep_k h 1 4 (by decide), dep_k h 206 4 (by decide)]
  exact j
theorem JMark_fr {S : fr_S} {m m' : rf_m} (h : fr S m m') (hd : fr_dis PMark S = true) (j : JMark m) : JMark m' := JMark_dep (dep_of h hd) j
def JTow (c : Nat) (m : rf_m) : Prop :=
  0 ≤ m.1 1 9 ∧ (m.1 1 9).toNatClampNeg ≤ c ∧ (∀ i, iv 0 99 (m.1 8 i)) ∧ (∀ k d, k < 30 → d < 10000 → m.1 210 (10000 * k + d) = lastT (m.1 6) (m.1 7) (m.1 8) (m.1 1 9).toNatClampNeg (Int32.ofNat k) (Int32.ofNat d))
def PTow : fr_S := [(6, 6, none), (7, 7, none), (8, 8, none), (210, 210, none), (1, 1, some 9)]
theorem JTow_dep {c : Nat} {m m' : rf_m} (h : dep PTow m m') (j : JTow c m) : JTow c m' := by
  unfold JTow at *
  simp only [dep_c h 6 (by decide), dep_c h 7 (by decide), dep_c h 8 (by decide), dep_c h 210 (by decide), dep_k h 1 9 (by decide)]
  exact j
theorem JTow_fr {c : Nat} {S : fr_S} {m m' : rf_m} (h : fr S m m') (hd : fr_dis PTow S = true) (j : JTow c m) : JTow c m' := JTow_dep (dep_of h hd) j
def JHaze (m : rf_m) : Prop :=
  m.1 1 12 = m.1 206 6 ∧ iv 0 200 (m.1 206 6) ∧ m.1 10 = m.1 213 ∧ (∀ i, iv 0 32 (m.1 213 i)) ∧ (∀ i, iv 0 9999 (m.1 211 i)) ∧ (∀ i, iv 0 23 (m.1 212 i)) ∧ (∀ i, m.1 9 i = m.1 211 i * 24 + m.1 212 i)
def PHaze : fr_S := [(9, 9, none), (10, 10, none), (211, 211, none), (212, 212, none), (213, 213, none), (1, 1, some 12), (206, 206, some 6)]
theorem JHaze_dep {m m' : rf_m} (h : dep PHaze m m') (j : JHaze m) : JHaze m' := by
  unfold JHaze at *
  simp only [dep_c h 9 (by decide), dep_c h 10 (by decide), dep_c h 211 (by decide), dep_c h 212 (by decide), dep_c h 213 (by decide), dep_k h 1 12 (by decide), dep_k h 206 6 (by decide)]
  exact j
theorem JHaze_fr {S : fr_S} {m m' : rf_m} (h : fr S m m') (hd : fr_dis PHaze S = true) (j : JHaze m) : JHaze m' := JHaze_dep (dep_of h hd) j
def JMass (m : rf_m) : Prop :=
  m.1 1 5 = m.1 206 137 ∧ iv 0 12 (m.1 206 137) ∧ m.1 11 = m.1 301 ∧ (∀ i, iv 0 1023 (m.1 301 i)) ∧ m.1 12 = m.1 302 ∧ (∀ i, iv 0 1000000 (m.1 302 i))
def PMass : fr_S := [(11, 11, none), (12, 12, none), (301, 301, none), (302, 302, none), (1, 1, some 5), (206, 206, some 137)]
theorem JMass_dep {m m' : rf_m} (h : dep PMass m m') (j : JMass m) : JMass m' := by
  unfold JMass at *
  simp only [dep_c h 11 (by decide), dep_c h 12 (by decide), dep_c h 301 (by decide), dep_c h 302 (by decide), dep_k h 1 5 (by decide), dep_k h 206 137 (by decide)]
  exact j
theorem JMass_fr {S : fr_S} {m m' : rf_m} (h : fr S m m') (hd : fr_dis PMass S = true) (j : JMass m) : JMass m' := JMass_dep (dep_of h hd) j
def JParty (m : rf_m) : Prop :=
  m.1 26 5 = m.1 206 15 ∧ iv 0 8 (m.1 206 15) ∧ m.1 27 = m.1 215
def PParty : fr_S := [(27, 27, none), (215, 215, none), (26, 26, some 5), (206, 206, some 15)]
theorem JParty_dep {m m' : rf_m} (h : dep PParty m m') (j : JParty m) : JParty m' := by
  unfold JParty at *
  simp only [dep_c h 27 (by decide), dep_c h 215 (by decide), dep_k h 26 5 (by decide), dep_k h 206 15 (by decide)]
  exact j
theorem JParty_fr {S : fr_S} {m m' : rf_m} (h : fr S m m') (hd : fr_dis PParty S = true) (j : JParty m) : JParty m' := JParty_dep (dep_of h hd) j
def JAng (m : rf_m) : Prop :=
  m.1 26 6 = m.1 206 16 ∧ iv 0 80 (m.1 206 16) ∧ m.1 28 = m.1 217 ∧ m.1 29 = m.1 218 ∧ m.1 30 = m.1 219 ∧ (∀ i, i < (m.1 206 16).toNatClampNeg → (0 ≤ m.1 217 i ∧ m.1 217 i < m.1 206 4) ∧ (0 ≤ m.1 218 i ∧ m.1 218 i < m.1 206 4) ∧ (0 ≤ m.1 219 i ∧ m.1 219 i < m.1 206 4) ∧ m.1 217 i ≠ m.1 218 i ∧ m.1 217 i ≠ m.1 219 i ∧ m.1 218 i ≠ m.1 219 i)
def PAng : fr_S := [(28, 28, none), (29, 29, none), (30, 30, none), (217, 217, none), (218, 218, none), (219, 219, none), (26, 26, some 6), (206, 206, some 4), (206, 206, some 16)]
theorem JAng_dep {m m' : rf_m} (h : dep PAng m m') (j : JAng m) : JAng m' := by
  unfold JAng at *
  simp only [dep_c h 28 (by decide), dep_c h 29 (by decide), dep_c h 30 (by decide), dep_c h 217 (by decide), dep_c h 218 (by decide), dep_c h 219 (by decide), dep_k h 26 6 (by decide), dep_k h 206 4 (by decide), dep_k h 206 16 (by decide)]
  exact j
theorem JAng_fr {S : fr_S} {m m' : rf_m} (h : fr S m m') (hd : fr_dis PAng S = true) (j : JAng m) : JAng m' := JAng_dep (dep_of h hd) j
def JBase (m : rf_m) : Prop :=
  m.1 41 1 = m.1 206 55 ∧ iv 0 6 (m.1 206 55) ∧ m.1 41 2 = m.1 206 56 ∧ iv 0 50 (m.1 206 56) ∧ m.1 44 = m.1 238 ∧ m.1 42 = m.1 239 ∧ m.1 45 = m.1 240 ∧ m.1 46 = m.1 241 ∧ m.1 47 = m.1 242 ∧ (∀ i, iv 0 40 (m.1 239 i)) ∧ (∀ i, i < (m.1 206 55).toNatClampNeg → (0 ≤ m.1 236 i ∧ m.1 236 i < m.1 206 4) ∧ (0 ≤ m.1 237 i ∧ m.1 237 i < m.1 206 4) ∧ m.1 236 i ≠ m.1 237 i ∧ m.1 43 i = (if m.1 236 i ≤ m.1 237 i then m.1 236 i * 32 + m.1 237 i else m.1 237 i * 32 + m.1 236 i)) ∧ (∀ i j, i < 6 → j < (m.1 239 i).toNatClampNeg → iv 1000 100000 (m.1 240 (40 * i + j)) ∧ iv (-20) 60 (m.1 241 (40 * i + j)) ∧ iv 0 999 (m.1 242 (40 * i + j)) ∧ m.1 242 (40 * i + j) < m.1 240 (40 * i + j))
def PBase : fr_S := [(42, 42, none), (43, 43, none), (44, 44, none), (45, 45, none), (46, 46, none), (47, 47, none), (236, 236, none), (237, 237, none), (238, 238, none), (239, 239, none), (240, 240, none), (241, 241, none), (242, 242, none), (41, 41, some 1), (41, 41, some 2), (206, 206, some 4), (206, 206, some 55), (206, 206, some 56)]
theorem JBase_dep {m m' : rf_m} (h : dep PBase m m') (j : JBase m) : JBase m' := by
  unfold JBase at *
  simp only [dep_c h 42 (by decide), dep_c h 43 (by decide), dep_c h 44 (by decide), dep_c h 45 (by decide), dep_c h 46 (by decide), dep_c h 47 (by decide), dep_c h 236 (by decide), dep_c h 237 (by decide), dep_c h 238 (by decide), dep_c h 239 (by decide), dep_c h 240 (by decide), dep_c h 241 (by decide), dep_c h 242 (by decide), dep_k h 41 1 (by decide), dep_k h 41 2 (by decide), dep_k h 206 4 (by decide), dep_k h 206 55 (by decide), dep_k h 206 56 (by decide)]
  exact j
theorem JBase_fr {S : fr_S} {m m' : rf_m} (h : fr S m m') (hd : fr_dis PBase S = true) (j : JBase m) : JBase m' := JBase_dep (dep_of h hd) j
def JArc (m : rf_m) : Prop :=
  m.1 41 3 = m.1 206 138 ∧ iv 0 30 (m.1 206 138) ∧ m.1 48 = m.1 303 ∧ (∀ i, iv 0 90 (m.1 303 i)) ∧ m.1 49 = m.1 304 ∧ (∀ i, iv 0 1000000 (m.1 304 i))
def PArc : fr_S := [(48, 48, none), (49, 49, none), (303, 303, none), (304, 304, none), (41, 41, some 3), (206, 206, some 138)]
theorem JArc_dep {m m' : rf_m} (h : dep PArc m m') (j : JArc m) : JArc m' := by
  unfold JArc at *
  simp only [dep_c h 48 (by decide), dep_c h 49 (by decide), dep_c h 303 (by decide), dep_c h 304 (by decide), dep_k h 41 3 (by decide), dep_k h 206 138 (by decide)]
  exact j
theorem JArc_fr {S : fr_S} {m m' : rf_m} (h : fr S m m') (hd : fr_dis PArc S = true) (j : JArc m) : JArc m' := JArc_dep (dep_of h hd) j
def JSight (m : rf_m) : Prop :=
  m.1 193 0 = m.1 206 126 ∧ iv 0 20 (m.1 206 126) ∧ m.1 194 = m.1 289 ∧ m.1 195 = m.1 290 ∧ m.1 196 = m.1 291 ∧ (∀ i, iv 0 12959999 (m.1 291 i)) ∧ (∀ i, i < (m.1 206 126).toNatClampNeg → (0 ≤ m.1 289 i ∧ m.1 289 i < m.1 206 4) ∧ (0 ≤ m.1 290 i ∧ m.1 290 i < m.1 206 4) ∧ m.1 289 i ≠ m.1 290 i)
def PSight : fr_S := [(194, 194, none), (195, 195, none), (196, 196, none), (289, 289, none), (290, 290, none), (291, 291, none), (193, 193, some 0), (206, 206, some 4), (206, 206, some 126)]
theorem JSight_dep {m m' : rf_m} (h : dep PSight m m') (j : JSight m) : JSight m' := by
  unfold JSight at *
  simp only [dep_c h 194 (by decide), dep_c h 195 (by decide), dep_c h 196 (by decide), dep_c h 289 (by decide), dep_c h 290 (by decide), dep_c h 291 (by decide), dep_k h 193 0 (by decide), dep_k h 206 4 (by decide), dep_k h 206 126 (by decide)]
  exact j
theorem JSight_fr {S : fr_S} {m m' : rf_m} (h : fr S m m') (hd : fr_dis PSight S = true) (j : JSight m) : JSight m' := JSight_dep (dep_of h hd) j
def JLevel (m : rf_m) : Prop :=
  m.1 193 1 = m.1 206 136 ∧ iv 0 60 (m.1 206 136) ∧ m.1 202 = m.1 298 ∧ m.1 203 = m.1 299 ∧ m.1 204 = m.1 300 ∧ (∀ i, iv (-1000000) 1000000 (m.1 300 i))
def PLevel : fr_S := [(202, 202, none), (203, 203, none), (204, 204, none), (298, 298, none), (299, 299, none), (300, 300, none), (193, 193, some 1), (206, 206, some 136)]
theorem JLevel_dep {m m' : rf_m} (h : dep PLevel m m') (j : JLevel m) : JLevel m' := by
  unfold JLevel at *
  simp only [dep_c h 202 (by decide), dep_c h 203 (by decide), dep_c h 204 (by decide), dep_c h 298 (by decide), dep_c h 299 (by decide), dep_c h 300 (by decide), dep_k h 193 1 (by decide), dep_k h 206 136 (by decide)]
  exact j
theorem JLevel_fr {S : fr_S} {m m' : rf_m} (h : fr S m m') (hd : fr_dis PLevel S = true) (j : JLevel m) : JLevel m' := JLevel_dep (dep_of h hd) j
def JNet (m : rf_m) : Prop :=
  m.1 50 0 = m.1 206 64 ∧ iv 0 30 (m.1 206 64) ∧ m.1 50 1 = m.1 206 65 ∧ iv 0 12 (m.1 206 65) ∧ m.1 51 = m.1 243 ∧ m.1 52 = m.1 244 ∧ m.1 53 = m.1 245 ∧ m.1 54 = m.1 246 ∧ 0 ≤ m.1 50 7 ∧ (∀ i, iv 0 9999 (m.1 244 i)) ∧ (∀ i, iv 0 6 (m.1 246 i)) ∧ (∀ t, t < (m.1 206 64).toNatClampNeg → tri (m.1 217) (m.1 218) (m.1 219) (m.1 206 16) (m.1 243 (3 * t)) (m.1 243 (3 * t + 1)) (m.1 243 (3 * t + 2))) ∧ (∀ r i, r < (m.1 206 65).toNatClampNeg → i < (m.1 246 r).toNatClampNeg → 0 ≤ m.1 245 (6 * r + i) ∧ m.1 245 (6 * r + i) < m.1 206 16)
def PNet : fr_S := [(51, 51, none), (52, 52, none), (53, 53, none), (54, 54, none), (217, 217, none), (218, 218, none), (219, 219, none), (243, 243, none), (244, 244, none), (245, 245, none), (246, 246, none), (50, 50, some 0), (50, 50, some 1), (50, 50, some 7), (206, 206, some 16), (206, 206, some 64), (206, 206, some 65)]
theorem JNet_dep {m m' : rf_m} (h : dep PNet m m') (j : JNet m) : JNet m' := by
  unfold JNet at *
  simp only [dep_c h 51 (by decide), dep_c h 52 (by decide), dep_c h 53 (by decide), dep_c h 54 (by decide), dep_c h 217 (by decide), dep_c h 218 (by decide), dep_c h 219 (by decide), dep_c h 243 (by decide), dep_c h 244 (by decide), dep_c h 245 (by decide), dep_c h 246 (by decide), dep_k h 50 0 (by decide), dep_k h 50 1 (by decide), dep_k h 50 7 (by decide), dep_k h 206 16 (by decide), dep_k h 206 64 (by decide), dep_k h 206 65 (by decide)]
  exact j
theorem JNet_fr {S : fr_S} {m m' : rf_m} (h : fr S m m') (hd : fr_dis PNet S = true) (j : JNet m) : JNet m' := JNet_dep (dep_of h hd) j
def JFeed (m : rf_m) : Prop :=
  m.1 13 2 = m.1 206 44 ∧ iv 0 300 (m.1 206 44) ∧ (∀ i, m.1 15 i = m.1 234 i &&& 255)
def PFeed : fr_S := [(15, 15, none), (234, 234, none), (13, 13, some 2), (206, 206, some 44)]
theorem JFeed_dep {m m' : rf_m} (h : dep PFeed m m') (j : JFeed m) : JFeed m' := by
  unfold JFeed at *
  simp only [dep_c h 15 (by decide), dep_c h 234 (by decide), dep_k h 13 2 (by decide), dep_k h 206 44 (by decide)]
  exact j
theorem JFeed_fr {S : fr_S} {m m' : rf_m} (h : fr S m m') (hd : fr_dis PFeed S = true) (j : JFeed m) : JFeed m' := JFeed_dep (dep_of h hd) j
def JTell (m : rf_m) : Prop :=
  ((m.1 206 110 = -1 ∧ m.1 175 1 = 0 ∧ m.1 175 2 = -1 ∧ m.1 175 3 = -1) ∨ (iv 0 6 (m.1 206 110) ∧ m.1 175 1 = m.1 206 110 ∧ m.1 175 2 = m.1 206 111 ∧ m.1 175 3 = m.1 206 112 ∧ (∀ i, i < (m.1 206 110).toNatClampNeg → m.1 176 i = m.1 278 i)))
def PTell : fr_S := [(176, 176, none), (278, 278, none), (175, 175, some 1), (175, 175, some 2), (175, 175, some 3), (206, 206, some 110), (206, 206, some 111), (206, 206, some 112)]
theorem JTell_dep {m m' : rf_m} (h : dep PTell m m') (j : JTell m) : JTell m' := by
  unfold JTell at *
  simp only [dep_c h 176 (by decide), dep_c h 278 (by decide), dep_k h 175 1 (by decide), dep_k h 175 2 (by decide), dep_k h 175 3 (by decide), dep_k h 206 110 (by decide), dep_k h 206 111 (by decide), dep_k h 206 112 (by decide)]
  exact j
theorem JTell_fr {S : fr_S} {m m' : rf_m} (h : fr S m m') (hd : fr_dis PTell S = true) (j : JTell m) : JTell m' := JTell_dep (dep_of h hd) j
def JGuilt (m : rf_m) : Prop :=
  iv 0 12 (m.1 206 117) ∧ m.1 184 2 = m.1 206 117 ∧ m.1 184 3 = m.1 206 118 ∧ (∀ i, i < (m.1 206 117).toNatClampNeg → m.1 185 i = m.1 284 i)
def PGuilt : fr_S := [(185, 185, none), (284, 284, none), (184, 184, some 2), (184, 184, some 3), (206, 206, some 117), (206, 206, some 118)]
theorem JGuilt_dep {m m' : rf_m} (h : dep PGuilt m m') (j : JGuilt m) : JGuilt m' := by
  unfold JGuilt at *
  simp only [dep_c h 185 (by decide), dep_c h 284 (by decide), dep_k h 184 2 (by decide), dep_k h 184 3 (by decide), dep_k h 206 117 (by decide), dep_k h 206 118 (by decide)]
  exact j
theorem JGuilt_fr {S : fr_S} {m m' : rf_m} (h : fr S m m') (hd : fr_dis PGuilt S = true) (j : JGuilt m) : JGuilt m' := JGuilt_dep (dep_of h hd) j
def JCost (m : rf_m) : Prop :=
  m.2 55 0 = m.2 206 89
def PCost : fr_S := [(55, 55, some 0), (206, 206, some 89)]
theorem JCost_dep {m m' : rf_m} (h : dep PCost m m') (j : JCost m) : JCost m' := by
  unfold JCost at *
  simp only [dep_kl h 55 0 (by decide), dep_kl h 206 89 (by decide)]
  exact j
theorem JCost_fr {S : fr_S} {m m' : rf_m} (h : fr S m m') (hd : fr_dis PCost S = true) (j : JCost m) : JCost m' := JCost_dep (dep_of h hd) j
end PBJ
