/-! the class's recount -/
section PBRecount
noncomputable def kpS (w : rf_w) (m : rf_m) (d : Int32) (a : Nat) (s : List Nat) (r : Nat) : List Nat := @ite _ (keptP w m d a r) (Classical.propDecidable _) (s ++ [r]) s
noncomputable def kpl (w : rf_w) (m : rf_m) (d : Int32) (a : Nat) (l : List Nat) : List Nat := l.foldl (kpS w m d a) []
def smL (m : rf_m) (l : List Nat) : Int32 := l.foldl (fun x r => x + m.1 221 r) 0
def loL (m : rf_m) (l : List Nat) : Int32 := l.foldl (fun x r => if m.1 221 r < x then m.1 221 r else x) 12960000
def hiL (m : rf_m) (l : List Nat) : Int32 := l.foldl (fun x r => if x < m.1 221 r then m.1 221 r else x) (-1)
theorem kpl_snoc {w : rf_w} {m : rf_m} {d : Int32} {a : Nat} {l : List Nat} {r : Nat} : kpl w m d a (l ++ [r]) = kpS w m d a (kpl w m d a l) r := by unfold kpl; rw [List.foldl_append]; rfl
theorem kpS_t {w : rf_w} {m : rf_m} {d : Int32} {a : Nat} {s : List Nat} {r : Nat} (h : keptP w m d a r) : kpS w m d a s r = s ++ [r] := if_pos h
theorem kpS_f {w : rf_w} {m : rf_m} {d : Int32} {a : Nat} {s : List Nat} {r : Nat} (h : ¬ keptP w m d a r) : kpS w m d a s r = s := if_neg h
theorem smL_snoc {m : rf_m} {l : List Nat} {r : Nat} : smL m (l ++ [r]) = smL m l + m.1 221 r := by unfold smL; rw [List.foldl_append]; rfl
theorem loL_snoc {m : rf_m} {l : List Nat} {r : Nat} : loL m (l ++ [r]) = if m.1 221 r < loL m l then m.1 221 r else loL m l := by unfold loL; rw [List.foldl_append]; rfl
theorem hiL_snoc {m : rf_m} {l : List Nat} {r : Nat} : hiL m (l ++ [r]) = if hiL m l < m.1 221 r then m.1 221 r else hiL m l := by unfold hiL; rw [List.foldl_append]; rfl
theorem kpl_len {w : rf_w} {m : rf_m} {d : Int32} {a : Nat} {l : List Nat} : ∀ i, i ≤ l.length → (kpl w m d a (l.take i)).length ≤ i := by
  intro i
  induction i with
  | zero => intro _; simp [kpl]
  | succ i ih =>
    intro h
    rw [take_snoc (by omega), kpl_snoc]
    have := ih (by omega)
    by_cases q : keptP w m d a (l[i]'(by omega))
    · rw [kpS_t q, List.length_append]; simp; omega
    · rw [kpS_f q]; omega
/-- the kept of an angle, as known on a day -/
noncomputable def kpt (w : rf_w) (m : rf_m) (d : Int32) (a : Nat) : List Nat := kpl w m d a (rdl m a)
noncomputable def meanV (w : rf_w) (m : rf_m) (d : Int32) (a : Nat) : Int32 := if (kpt w m d a).length = 0 then -2 else smL m (kpt w m d a) / Int32.ofNat (kpt w m d a).length
noncomputable def sprV (w : rf_w) (m : rf_m) (d : Int32) (a : Nat) : Int32 := if (kpt w m d a).length = 0 then -2 else hiL m (kpt w m d a) - loL m (kpt w m d a)
noncomputable def loV (w : rf_w) (m : rf_m) (d : Int32) (a : Nat) : Int32 := if (kpt w m d a).length = 0 then -2 else loL m (kpt w m d a)
noncomputable def hiV (w : rf_w) (m : rf_m) (d : Int32) (a : Nat) : Int32 := if (kpt w m d a).length = 0 then -2 else hiL m (kpt w m d a)
/-- m1 is m but for what the class keeps of its counting -/
def bas (m m1 : rf_m) : Prop := (∀ c, c ≠ 18 → c ≠ 25 → c ≠ 31 → c ≠ 32 → c ≠ 34 → c ≠ 35 → c ≠ 40 → m1.1 c = m.1 c) ∧ (∀ r, r < 1200 → ∀ k, k < 5 → m1.1 32 (9 * r + k) = m.1 32 (9 * r + k)) ∧ (∀ a, a < 80 → m1.1 34 (9 * a + 6) = m.1 34 (9 * a + 6))
/-- the facts of a reading are as judged -/
def fact4 (w : rf_w) (m m1 : rf_m) (d : Int32) (a r : Nat) : Prop := m1.1 32 (9 * r + 5) = svV w m r d ∧ m1.1 32 (9 * r + 6) = strV m d a r ∧ m1.1 32 (9 * r + 7) = bi (keptP w m d a r) ∧ m1.1 32 (9 * r + 8) = offV m d a r
/-- the tallies of an angle are as counted -/
def tal (w : rf_w) (m m1 : rf_m) (d : Int32) (a : Nat) : Prop := m1.1 31 a = meanV w m d a ∧ m1.1 34 (9 * a + 1) = sprV w m d a ∧ m1.1 34 (9 * a + 2) = loV w m d a ∧ m1.1 34 (9 * a + 3) = hiV w m d a ∧ m1.1 34 (9 * a + 4) = Int32.ofNat (kpt w m d a).length ∧ m1.1 34 (9 * a + 5) = Int32.ofNat (srt m d (rdl m a)).length ∧ m1.1 34 (9 * a + 7) = midV m d a ∧ m1.1 34 (9 * a + 8) = smL m (kpt w m d a)
theorem rec_fin {w : rf_w} {m1 : rf_m} {a : Nat} {seen mid kept sum lo hi : Int32} {n : Nat} (ha : a < 80) (hk : kept = Int32.ofNat n) (hn : n < 100) : ∃ m2, (if kept ≤ 0 then g_X3_recount_173 w (Int32.ofNat a) seen mid kept sum lo hi 0 m1 else g_X3_recount_173 w (Int32.ofNat a) seen mid kept sum lo hi 1 m1) = some m2 ∧ (∀ c, c ≠ 31 → c ≠ 34 → c ≠ 40 → m2.1 c = m1.1 c) ∧ m2.1 31 = pu (m1.1 31) a (if n = 0 then -2 else sum / kept) ∧ m2.1 40 = pu (m1.1 40) a 0 ∧ m2.1 34 = pu (pu (pu (pu (pu (pu (pu (m1.1 34) (9 * a + 1) (if n = 0 then -2 else hi - lo)) (9 * a + 2) (if n = 0 then -2 else lo)) (9 * a + 3) (if n = 0 then -2 else hi)) (9 * a + 4) kept) (9 * a + 5) seen) (9 * a + 7) mid) (9 * a + 8) sum := by
  have E : ∀ k, k < 9 → Int32.ofNat a * 9 + Int32.ofNat k = Int32.ofNat (9 * a + k) := fun k hk => a9_6 ha k hk
  have E1 : Int32.ofNat a * 9 + 1 = Int32.ofNat (9 * a + 1) := E 1 (by omega)
  have E2 : Int32.ofNat a * 9 + 2 = Int32.ofNat (9 * a + 2) := E 2 (by omega)
  have E3 : Int32.ofNat a * 9 + 3 = Int32.ofNat (9 * a + 3) := E 3 (by omega)
  have E4 : Int32.ofNat a * 9 + 4 = Int32.ofNat (9 * a + 4) := E 4 (by omega)
  have E5 : Int32.ofNat a * 9 + 5 = Int32.ofNat (9 * a + 5) := E 5 (by omega)
  have E7 : Int32.ofNat a * 9 + 7 = Int32.ofNat (9 * a + 7) := E 7 (by omega)
  have E8 : Int32.ofNat a * 9 + 8 = Int32.ofNat (9 * a + 8) := E 8 (by omega)
  have nb : vp_nar .boolean 0 = 0 := by decide
  have o1 : ¬ (1 : Int32) = 0 := by decide
  have fin : ∀ s0 mean spr l h, (s0 = 0 → spr = (-2 : Int32) ∧ l = (-2 : Int32) ∧ h = (-2 : Int32)) → (¬ s0 = 0 → spr = hi - lo ∧ l = lo ∧ h = hi) → ∃ m2, g_X3_recount_195 w (Int32.ofNat a) seen mid kept sum lo hi s0 (Int32.ofNat a) mean m1 = some m2 ∧ (∀ c, c ≠ 31 → c ≠ 34 → c ≠ 40 → m2.1 c = m1.1 c) ∧ m2.1 31 = pu (m1.1 31) a mean ∧ m2.1 40 = pu (m1.1 40) a 0 ∧ m2.1 34 = pu (pu (pu (pu (pu (pu (pu (m1.1 34) (9 * a + 1) spr) (9 * a + 2) l) (9 * a + 3) h) (9 * a + 4) kept) (9 * a + 5) seen) (9 * a + 7) mid) (9 * a + 8) sum := by
    intro s0 mean spr l h h0 h1
    unfold g_X3_recount_195 g_X3_recount_221 g_X3_recount_244 g_X3_recount_267
    rw [E1, E2, E3, E4, E5, E7, E8]
    have G : ∀ k, k < 9 → rf_in (Int32.ofNat (9 * a + k)) 720 = true := fun k _ => gof (by omega) (by decide)
    have TT : ∀ k, k < 9 → (Int32.ofNat (9 * a + k)).toNatClampNeg = 9 * a + k := fun k _ => tn_of (by omega)
    rw [gof ha (by decide), G 1 (by omega), G 2 (by omega), G 3 (by omega), G 4 (by omega), G 5 (by omega), G 7 (by omega), G 8 (by omega), TT 1 (by omega), TT 2 (by omega), TT 3 (by omega), TT 4 (by omega), TT 5 (by omega), TT 7 (by omega), TT 8 (by omega), tn_of (by omega), nb]
    simp only [g_t]
    by_cases z : s0 = 0
    · obtain ⟨rfl, rfl, rfl⟩ := h0 z
      rw [if_pos z, if_pos z, if_pos z]
      refine ⟨_, rfl, fun c q1 q2 q3 => ?_, ?_, ?_, ?_⟩
      · simp only [rf_i_c, q1, q2, q3, if_false]
      · simp [rf_i_c]
      · simp [rf_i_c]
      · simp [rf_i_c]
    · obtain ⟨rfl, rfl, rfl⟩ := h1 z
      rw [if_neg z, if_neg z, if_neg z]
      refine ⟨_, rfl, fun c q1 q2 q3 => ?_, ?_, ?_, ?_⟩
      · simp only [rf_i_c, q1, q2, q3, if_false]
      · simp [rf_i_c]
      · simp [rf_i_c]
      · simp [rf_i_c]
  by_cases z : n = 0
  · have hz : kept ≤ 0 := by rw [hk, z]; decide
    rw [if_pos hz, if_pos z, if_pos z, if_pos z, if_pos z]
    unfold g_X3_recount_173
    rw [if_pos rfl]
    exact fin 0 (-2) (-2) (-2) (-2) (fun _ => ⟨rfl, rfl, rfl⟩) (fun q => absurd rfl q)
  · have hz : ¬ kept ≤ 0 := by rw [hk]; exact nle (i := 0) (by omega) (by omega)
    have hnz : rf_nz kept = true := nz_ne (fun q => hz (by rw [q]; decide))
    rw [if_neg hz, if_neg z, if_neg z, if_neg z, if_neg z]
    unfold g_X3_recount_173
    rw [if_neg o1, hnz, g_t]
    exact fin 1 (sum / kept) (hi - lo) lo hi (fun q => absurd q o1) (fun _ => ⟨rfl, rfl, rfl⟩)
end PBRecount
