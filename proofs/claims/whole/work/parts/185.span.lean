/-! lengths of bases and their spans -/
section PBSpan
theorem uni {F : Option (Int32 × rf_m)} {m : rf_m} {G : rf_m → Option (Int32 × rf_m)} {C : rf_m → Prop} {Q : Int32 → Prop} (h : ∀ M, C M → ∃ v, F = some (v, m) ∧ G M = some (v, M) ∧ Q v) (h0 : C m) : ∃ v, F = some (v, m) ∧ (∀ M, C M → G M = some (v, M)) ∧ Q v := by
  obtain ⟨v, a, b, c⟩ := h m h0
  refine ⟨v, a, fun M hM => ?_, c⟩
  obtain ⟨v', a', b', _⟩ := h M hM
  rw [a] at a'
  rw [(Prod.mk.inj (Option.some.inj a')).1]
  exact b'
/-- M has the bases of m -/
def bM (m M : rf_m) : Prop := M.1 206 55 = m.1 206 55 ∧ M.1 206 56 = m.1 206 56 ∧ M.1 236 = m.1 236 ∧ M.1 237 = m.1 237 ∧ M.1 239 = m.1 239 ∧ M.1 240 = m.1 240 ∧ M.1 241 = m.1 241 ∧ M.1 242 = m.1 242
theorem bM_refl (m : rf_m) : bM m m := ⟨rfl, rfl, rfl, rfl, rfl, rfl, rfl, rfl⟩
theorem ivI {a b x : Int32} (h : iv a b x) : a.toInt ≤ x.toInt ∧ x.toInt ≤ b.toInt := ⟨i_le.mp h.1, i_le.mp h.2⟩
/-- what a bar gives -/
def brt (L g h r : Int32) : Int32 := L + L * g * (h - 15) / 100000 - r * r / (2 * L)
theorem brt_I {L g h r : Int32} (hL : iv 1000 100000 L) (hg : iv 0 50 g) (hh : iv (-20) 60 h) (hr : iv 0 999 r) (hrl : r < L) : 1 ≤ (brt L g h r).toInt ∧ (brt L g h r).toInt ≤ 102500 := by
  obtain ⟨L1, L2⟩ := ivI hL
  obtain ⟨g1, g2⟩ := ivI hg
  obtain ⟨h1, h2⟩ := ivI hh
  obtain ⟨r1, r2⟩ := ivI hr
  rw [i_lt] at hrl
  have L1' : 1000 ≤ L.toInt := L1
  have L2' : L.toInt ≤ 100000 := L2
  have g1' : 0 ≤ g.toInt := g1
  have g2' : g.toInt ≤ 50 := g2
  have h1' : -20 ≤ h.toInt := h1
  have h2' : h.toInt ≤ 60 := h2
  have r1' : 0 ≤ r.toInt := r1
  have r2' : r.toInt ≤ 999 := r2
  clear L1 L2 g1 g2 h1 h2 r1 r2 hL hg hh hr
  have c15 : (15 : Int32).toInt = 15 := rfl
  have c2 : (2 : Int32).toInt = 2 := rfl
  have c5 : (100000 : Int32).toInt = 100000 := rfl
  have e1 : (h - 15).toInt = h.toInt - 15 := by rw [subI (by rw [c15]; omega) (by rw [c15]; omega), c15]
  have b1 : L.toInt * g.toInt ≤ L.toInt * 50 := Int.mul_le_mul_of_nonneg_left g2' (by omega)
  have b2 : 0 ≤ L.toInt * g.toInt := Int.mul_nonneg (by omega) g1'
  have e2 : (L * g).toInt = L.toInt * g.toInt := mulI (by omega) (by omega)
  have b3 : L.toInt * g.toInt * (h.toInt - 15) ≤ L.toInt * g.toInt * 45 := Int.mul_le_mul_of_nonneg_left (by omega) b2
  have b4 : L.toInt * g.toInt * (-35) ≤ L.toInt * g.toInt * (h.toInt - 15) := Int.mul_le_mul_of_nonneg_left (by omega) b2
  have e3 : (L * g * (h - 15)).toInt = L.toInt * g.toInt * (h.toInt - 15) := by rw [mulI (by rw [e2, e1]; omega) (by rw [e2, e1]; omega), e2, e1]
  have e4 : (L * g * (h - 15) / 100000).toInt = (L.toInt * g.toInt * (h.toInt - 15)).tdiv 100000 := by rw [divI (by decide), e3, c5]
  obtain ⟨q1, q2, _, _⟩ := tdiv_pos (a := L.toInt * g.toInt * (h.toInt - 15)) (b := 100000) (by decide)
  have b5 : r.toInt * r.toInt ≤ 999 * L.toInt := Int.mul_le_mul r2' (by omega) r1' (by omega)
  have b6 : 0 ≤ r.toInt * r.toInt := Int.mul_nonneg r1' r1'
  have e5 : (r * r).toInt = r.toInt * r.toInt := mulI (by omega) (by omega)
  have e6 : (2 * L).toInt = 2 * L.toInt := by rw [mulI (by rw [c2]; omega) (by rw [c2]; omega), c2]
  have p6 : 0 < 2 * L := by rw [i_lt, i_0, e6]; omega
  have e7 : (r * r / (2 * L)).toInt = r.toInt * r.toInt / (2 * L.toInt) := by rw [divI p6, e5, e6, Int.tdiv_eq_ediv_of_nonneg b6]
  have b7 : 0 ≤ r.toInt * r.toInt / (2 * L.toInt) := Int.ediv_nonneg b6 (by omega)
  have b8 : r.toInt * r.toInt / (2 * L.toInt) < 500 := by
    rw [Int.ediv_lt_iff_lt_mul (by omega)]; omega
  generalize (L.toInt * g.toInt * (h.toInt - 15)).tdiv 100000 = T at *
  generalize L.toInt * g.toInt * (h.toInt - 15) = P at *
  generalize L.toInt * g.toInt = A at *
  generalize r.toInt * r.toInt / (2 * L.toInt) = U at *
  have e8 : (L + L * g * (h - 15) / 100000).toInt = L.toInt + T := by rw [addI (by rw [e4]; omega) (by rw [e4]; omega), e4]
  have e9 : (brt L g h r).toInt = L.toInt + T - U := by
    unfold brt
    rw [subI (by rw [e8, e7]; omega) (by rw [e8, e7]; omega), e8, e7]
  rw [e9]
  omega
theorem len_eq {w : rf_w} {m M : rf_m} {b : Int32} (jb : JBase m) (hb : ib b (m.1 206 55)) (hM : bM m M) : ∃ v, g_X6_lengthOf w m b = some (v, m) ∧ g_X14_lengthOf w M b = some (v, M) ∧ ((m.1 239 b.toNatClampNeg).toInt ≤ v.toInt ∧ v.toInt ≤ 102500 * (m.1 239 b.toNatClampNeg).toInt) := by
  obtain ⟨c1, c2, c3, c4, c5, c6, c7, c8, c9, ca, cb, cc⟩ := jb
  obtain ⟨q1, q2, q3, q4, q5, q6, q7, q8⟩ := hM
  have g : rf_in b 6 = true := gin hb.1 (by grind [iv, ib]) (by decide)
  have hb6 : b.toNatClampNeg < 6 := tn_lt hb.1 (by grind [iv, ib]) (by decide)
  have k0 := ca b.toNatClampNeg
  have hk : (m.1 239 b.toNatClampNeg).toNatClampNeg ≤ 40 := tn_le k0.1 k0.2 (by decide)
  have kI := tn_toInt k0.1
  have e0 : b * 40 = Int32.ofNat (40 * b.toNatClampNeg) := by rw [Int32.ofNat_mul, of_tn hb.1]; exact Int32.mul_comm _ _
  have e0' : 40 * b = Int32.ofNat (40 * b.toNatClampNeg) := by rw [Int32.ofNat_mul, of_tn hb.1]; rfl
  have e1 : b * 40 + m.1 239 b.toNatClampNeg = Int32.ofNat (40 * b.toNatClampNeg + (m.1 239 b.toNatClampNeg).toNatClampNeg) := by rw [Int32.ofNat_add, of_tn k0.1, e0]
  have e1' : 40 * b + m.1 239 b.toNatClampNeg = Int32.ofNat (40 * b.toNatClampNeg + (m.1 239 b.toNatClampNeg).toNatClampNeg) := by rw [Int32.ofNat_add, of_tn k0.1, e0']
  have main := rel_loop (Fc := fun n i (s : Int32) => g_X6_lengthOf_7 w n b s i m) (Fr := fun n i (s : Int32) => g_X14_lengthOf_7 w n b s i M) (P := fun x z => ∃ v, x = some (v, m) ∧ z = some (v, M) ∧ ((m.1 239 b.toNatClampNeg).toInt ≤ v.toInt ∧ v.toInt ≤ 102500 * (m.1 239 b.toNatClampNeg).toInt)) (I := fun i s => 40 * b.toNatClampNeg ≤ i ∧ (i - 40 * b.toNatClampNeg : Nat) ≤ s.toInt ∧ s.toInt ≤ 102500 * (i - 40 * b.toNatClampNeg : Nat)) (R := 40 * b.toNatClampNeg + (m.1 239 b.toNatClampNeg).toNatClampNeg) (fun n s hs => ?_) (fun n i s hi hs => ?_) rf_fuel (40 * b.toNatClampNeg) 0 (by omega) (by unfold rf_fuel; omega) (by rw [Nat.sub_self, i_0]; omega)
  · unfold g_X6_lengthOf g_X14_lengthOf
    rw [e0, e0']
    exact main
  · show ∃ v, g_X6_lengthOf_7_b w _ b s _ m = _ ∧ g_X14_lengthOf_7_b w _ b s _ M = _ ∧ _
    unfold g_X6_lengthOf_7_b g_X14_lengthOf_7_b
    rw [g, g_t, g_t, q5, c6, e1, e1', if_pos (Int32.le_refl _), if_pos (Int32.le_refl _)]
    refine ⟨s, rfl, rfl, ?_⟩
    omega
  · refine Or.inr ?_
    show ∃ s' : Int32, _ ∧ g_X6_lengthOf_7_b w (g_X6_lengthOf_7 w n) b s _ m = _ ∧ g_X14_lengthOf_7_b w (g_X14_lengthOf_7 w n) b s _ M = _
    have g3 : rf_in (Int32.ofNat i) 240 = true := gof (by omega) (by decide)
    have t : (Int32.ofNat i).toNatClampNeg = i := tn_of (by omega)
    have h1 : ¬ Int32.ofNat (40 * b.toNatClampNeg + (m.1 239 b.toNatClampNeg).toNatClampNeg) ≤ Int32.ofNat i := nle hi (by omega)
    obtain ⟨d1, d2, d3, d4⟩ := cc b.toNatClampNeg (i - 40 * b.toNatClampNeg) hb6 (by omega)
    rw [show 40 * b.toNatClampNeg + (i - 40 * b.toNatClampNeg) = i by omega] at d1 d2 d3 d4
    have bt := brt_I d1 c4 d2 d3 d4
    have d1' := ivI d1
    have L1 : 1000 ≤ (m.1 240 i).toInt := d1'.1
    have L2 : (m.1 240 i).toInt ≤ 100000 := d1'.2
    have z1 : ¬ m.1 240 i ≤ 0 := by rw [i_le, i_0]; omega
    have c2' : (2 : Int32).toInt = 2 := rfl
    have e6 : (2 * m.1 240 i).toInt = 2 * (m.1 240 i).toInt := by rw [mulI (by rw [c2']; omega) (by rw [c2']; omega), c2']
    have z2 : rf_nz (2 * m.1 240 i) = true := nz_of (by rw [i_lt, i_0, e6]; omega)
    unfold g_X6_lengthOf_7_b g_X14_lengthOf_7_b
    rw [g, g_t, g_t, q5, c6, e1, e1', if_neg h1, if_neg h1, g3, t, q6, q7, q8, q2, c7, c8, c9, c3]
    simp only [g_t, rf_vi, g_X6_lengthOf_80, of_succ, z1, z2, if_false]
    refine ⟨s + brt (m.1 240 i) (m.1 206 56) (m.1 241 i) (m.1 242 i), ?_, rfl, rfl⟩
    have e7 : (s + brt (m.1 240 i) (m.1 206 56) (m.1 241 i) (m.1 242 i)).toInt = s.toInt + (brt (m.1 240 i) (m.1 206 56) (m.1 241 i) (m.1 242 i)).toInt := addI (by omega) (by omega)
    rw [e7]
    omega
theorem twin_eq {w : rf_w} {m M : rf_m} {b : Int32} (jb : JBase m) (jm : JMark m) (hb : ib b (m.1 206 55)) (hM : bM m M) : ∃ v, g_X6_twinOf w m b = some (v, m) ∧ g_X14_twinOf w M b = some (v, M) ∧ (v = -1 ∨ ib v (m.1 206 55)) := by
  obtain ⟨c1, c2, c3, c4, c5, c6, c7, c8, c9, ca, cb, cc⟩ := jb
  obtain ⟨q1, q2, q3, q4, q5, q6, q7, q8⟩ := hM
  have m2 := jm.2.1
  have g : rf_in b 6 = true := gin hb.1 (by grind [iv, ib]) (by decide)
  have hbi : b.toNatClampNeg < (m.1 206 55).toNatClampNeg := tn_lt2 hb.1 hb.2
  have hR := of_tn c2.1
  have hb6 : (m.1 206 55).toNatClampNeg ≤ 6 := tn_le c2.1 c2.2 (by decide)
  obtain ⟨y1, y2, y3, y4⟩ := cb b.toNatClampNeg hbi
  refine rel_loop (Fc := fun n i (s : Unit) => g_X6_twinOf_2 w n b i m) (Fr := fun n i (s : Unit) => g_X14_twinOf_2 w n b i M) (P := fun x z => ∃ v, x = some (v, m) ∧ z = some (v, M) ∧ (v = -1 ∨ ib v (m.1 206 55))) (I := fun _ _ => True) (R := (m.1 206 55).toNatClampNeg) (fun n s _ => ?_) (fun n i s hi _ => ?_) rf_fuel 0 () (by omega) (by unfold rf_fuel; omega) trivial
  · show ∃ v, g_X6_twinOf_2_b w _ b _ m = _ ∧ g_X14_twinOf_2_b w _ b _ M = _ ∧ _
    unfold g_X6_twinOf_2_b g_X14_twinOf_2_b
    have hA : m.1 41 1 ≤ m.1 206 55 := by rw [c1]; exact Int32.le_refl _
    have hB : M.1 206 55 ≤ m.1 206 55 := by rw [q1]; exact Int32.le_refl _
    rw [hR, if_pos hA, if_pos hB]
    exact ⟨-1, rfl, rfl, Or.inl rfl⟩
  · have h1 : ¬ m.1 206 55 ≤ Int32.ofNat i := by rw [← hR]; exact nle hi (by omega)
    have gi : rf_in (Int32.ofNat i) 6 = true := gof (by omega) (by decide)
    have t : (Int32.ofNat i).toNatClampNeg = i := tn_of (by omega)
    obtain ⟨z1, z2, z3, z4⟩ := cb i hi
    have iff : m.1 43 i = m.1 43 b.toNatClampNeg ↔ isOfP (m.1 236) (m.1 237) i (m.1 236 b.toNatClampNeg) (m.1 237 b.toNatClampNeg) := by
      rw [z4, y4, ← sd_le, ← sd_le]
      exact sd_iff (by unfold ib iv at *; grind) (by unfold ib iv at *; grind) (by unfold ib iv at *; grind) (by unfold ib iv at *; grind)
    show (∃ v, g_X6_twinOf_2_b w (g_X6_twinOf_2 w n) b _ m = _ ∧ g_X14_twinOf_2_b w (g_X14_twinOf_2 w n) b _ M = _ ∧ _) ∨ (∃ s' : Unit, True ∧ g_X6_twinOf_2_b w (g_X6_twinOf_2 w n) b _ m = _ ∧ g_X14_twinOf_2_b w (g_X14_twinOf_2 w n) b _ M = _)
    unfold g_X6_twinOf_2_b g_X14_twinOf_2_b
    rw [c1, q1, if_neg h1, if_neg h1, g, gi, t, X14_isOf gi, t, q3, q4]
    simp only [g_t, rf_b, g_X6_twinOf_32, g_X14_twinOf_37, of_succ]
    by_cases e : Int32.ofNat i = b
    · rw [if_pos e, if_pos e]
      exact Or.inr ⟨(), trivial, rfl, rfl⟩
    · rw [if_neg e, if_neg e]
      by_cases hP : isOfP (m.1 236) (m.1 237) i (m.1 236 b.toNatClampNeg) (m.1 237 b.toNatClampNeg)
      · rw [bi_t hP, if_pos (iff.mpr hP), if_neg (show ¬ (1 : Int32) = 0 by decide)]
        refine Or.inl ⟨_, rfl, rfl, Or.inr ⟨of_nn (by omega), ?_⟩⟩
        rw [← hR]
        exact (of_lt (by omega) (by omega)).mpr hi
      · rw [bi_f hP, if_neg (fun q => hP (iff.mp q)), if_pos rfl]
        exact Or.inr ⟨(), trivial, rfl, rfl⟩
/-- torn: the spans don't meet -/
theorem torn_iff {l k a b : Int} : (max (l - a) (k - b) ≤ min (l + a) (k + b)) ↔ ((l - k ≤ a + b ∧ k - l ≤ a + b) ∧ 0 ≤ a ∧ 0 ≤ b) := by omega
theorem torn_eq {w : rf_w} {m M : rf_m} {b c : Int32} (jb : JBase m) (hb : ib b (m.1 206 55)) (hc : ib c (m.1 206 55)) (hM : bM m M) : ∃ v, g_X6_areTorn w m b c = some (v, m) ∧ g_X14_isTorn w M b c = some (v, M) ∧ (v = 0 ∨ v = 1) := by
  have ca := jb.2.2.2.2.2.2.2.2.2.1
  have c6 := jb.2.2.2.2.2.1
  have c2 := jb.2.1
  obtain ⟨l, l1, l2, l3⟩ := len_eq (w := w) jb hb hM
  obtain ⟨k, k1, k2, k3⟩ := len_eq (w := w) jb hc hM
  have q5 := hM.2.2.2.2.1
  have gb : rf_in b 6 = true := gin hb.1 (by grind [iv, ib]) (by decide)
  have gc : rf_in c 6 = true := gin hc.1 (by grind [iv, ib]) (by decide)
  have a1 := ivI (ca b.toNatClampNeg)
  have a2 := ivI (ca c.toNatClampNeg)
  have a1' : 0 ≤ (m.1 239 b.toNatClampNeg).toInt ∧ (m.1 239 b.toNatClampNeg).toInt ≤ 40 := a1
  have a2' : 0 ≤ (m.1 239 c.toNatClampNeg).toInt ∧ (m.1 239 c.toNatClampNeg).toInt ≤ 40 := a2
  have e1 : (l - k).toInt = l.toInt - k.toInt := subI (by omega) (by omega)
  have e2 : (m.1 239 b.toNatClampNeg + m.1 239 c.toNatClampNeg).toInt = (m.1 239 b.toNatClampNeg).toInt + (m.1 239 c.toNatClampNeg).toInt := addI (by omega) (by omega)
  have e3 : (l - m.1 239 b.toNatClampNeg).toInt = l.toInt - (m.1 239 b.toNatClampNeg).toInt := subI (by omega) (by omega)
  have e4 : (k - m.1 239 c.toNatClampNeg).toInt = k.toInt - (m.1 239 c.toNatClampNeg).toInt := subI (by omega) (by omega)
  have e5 : (l + m.1 239 b.toNatClampNeg).toInt = l.toInt + (m.1 239 b.toNatClampNeg).toInt := addI (by omega) (by omega)
  have e6 : (k + m.1 239 c.toNatClampNeg).toInt = k.toInt + (m.1 239 c.toNatClampNeg).toInt := addI (by omega) (by omega)
  have ea : (ab (l - k)).toInt = if 0 ≤ l.toInt - k.toInt then l.toInt - k.toInt else -(l.toInt - k.toInt) := by
    unfold ab
    by_cases h : (0 : Int32) ≤ l - k
    · have h' := h
      rw [i_le, i_0, e1] at h'
      rw [if_pos h, if_pos h', e1]
    · have h' := h
      rw [i_le, i_0, e1] at h'
      rw [if_neg h, if_neg h', Int32.toInt_neg, bm32 (by rw [e1]; omega) (by rw [e1]; omega), e1]
  have em : (if l - m.1 239 b.toNatClampNeg < k - m.1 239 c.toNatClampNeg then k - m.1 239 c.toNatClampNeg else l - m.1 239 b.toNatClampNeg).toInt = max (l.toInt - (m.1 239 b.toNatClampNeg).toInt) (k.toInt - (m.1 239 c.toNatClampNeg).toInt) := by
    split
    · rename_i h; rw [i_lt, e3, e4] at h; rw [e4]; omega
    · rename_i h; rw [i_lt, e3, e4] at h; rw [e3]; omega
  have en : (if k + m.1 239 c.toNatClampNeg < l + m.1 239 b.toNatClampNeg then k + m.1 239 c.toNatClampNeg else l + m.1 239 b.toNatClampNeg).toInt = min (l.toInt + (m.1 239 b.toNatClampNeg).toInt) (k.toInt + (m.1 239 c.toNatClampNeg).toInt) := by
    split
    · rename_i h; rw [i_lt, e5, e6] at h; rw [e6]; omega
    · rename_i h; rw [i_lt, e5, e6] at h; rw [e5]; omega
  have iff : (ab (l - k) ≤ m.1 239 b.toNatClampNeg + m.1 239 c.toNatClampNeg) ↔ ((if l - m.1 239 b.toNatClampNeg < k - m.1 239 c.toNatClampNeg then k - m.1 239 c.toNatClampNeg else l - m.1 239 b.toNatClampNeg) ≤ (if k + m.1 239 c.toNatClampNeg < l + m.1 239 b.toNatClampNeg then k + m.1 239 c.toNatClampNeg else l + m.1 239 b.toNatClampNeg)) := by
    rw [i_le, i_le, ea, em, en, e2, torn_iff]
    split <;> omega
  have hc' : ∀ v, g_X6_areTorn w m b c = some (v, m) ↔ wp (g_X6_areTorn w m b c) (fun r => r = (v, m)) := fun v => wp_eq.symm
  have hr' : ∀ v, g_X14_isTorn w M b c = some (v, M) ↔ wp (g_X14_isTorn w M b c) (fun r => r = (v, M)) := fun v => wp_eq.symm
  simp only [hc', hr']
  unfold g_X6_areTorn g_X14_isTorn
  simp only [wp_b, wp_g, wp_ite, wp_some, l1, l2, k1, k2, gb, gc, abs_eq, max_eq, min_eq, q5, c6, true_and]
  by_cases h : ab (l - k) ≤ m.1 239 b.toNatClampNeg + m.1 239 c.toNatClampNeg
  · have h2 := iff.mp h
    exact ⟨0, ⟨fun _ => rfl, fun n => absurd h n⟩, ⟨fun _ => rfl, fun n => absurd h2 n⟩, Or.inl rfl⟩
  · have h2 := fun x => h (iff.mpr x)
    exact ⟨1, ⟨fun n => absurd n h, fun _ => rfl⟩, ⟨fun n => absurd n h2, fun _ => rfl⟩, Or.inr rfl⟩
theorem mxI {a b : Int32} : (if a < b then b else a).toInt = max a.toInt b.toInt := by
  split
  · rename_i h; rw [i_lt] at h; omega
  · rename_i h; rw [i_lt] at h; omega
theorem mnI {a b : Int32} : (if b < a then b else a).toInt = min a.toInt b.toInt := by
  split
  · rename_i h; rw [i_lt] at h; omega
  · rename_i h; rw [i_lt] at h; omega
theorem span_eq {w : rf_w} {m : rf_m} {b : Int32} (jb : JBase m) (jm : JMark m) (hb : ib b (m.1 206 55)) : ∃ lo hi, g_X6_leastOf w m b = some (lo, m) ∧ g_X6_mostOf w m b = some (hi, m) ∧ (∀ M, bM m M → g_X14_spanOf w M b 0 = some (lo, M) ∧ g_X14_spanOf w M b 1 = some (hi, M)) ∧ 0 ≤ lo.toInt ∧ lo.toInt ≤ hi.toInt ∧ hi.toInt ≤ 5000000 := by
  have ca := jb.2.2.2.2.2.2.2.2.2.1
  have c6 := jb.2.2.2.2.2.1
  have c2 := jb.2.1
  obtain ⟨l, l1, l2, l3⟩ := uni (fun M hM => len_eq (w := w) jb hb hM) (bM_refl m)
  obtain ⟨t, t1, t2, t3⟩ := uni (fun M hM => twin_eq (w := w) jb jm hb hM) (bM_refl m)
  have gb : rf_in b 6 = true := gin hb.1 (by grind [iv, ib]) (by decide)
  have a1' : 0 ≤ (m.1 239 b.toNatClampNeg).toInt ∧ (m.1 239 b.toNatClampNeg).toInt ≤ 40 := ivI (ca b.toNatClampNeg)
  have e3 : (l - m.1 239 b.toNatClampNeg).toInt = l.toInt - (m.1 239 b.toNatClampNeg).toInt := subI (by omega) (by omega)
  have e5 : (l + m.1 239 b.toNatClampNeg).toInt = l.toInt + (m.1 239 b.toNatClampNeg).toInt := addI (by omega) (by omega)
  have W : ∀ (o : Option (Int32 × rf_m)) (v : Int32) (M : rf_m), o = some (v, M) ↔ wp o (fun r => r = (v, M)) := fun o v M => wp_eq.symm
  have o1 : ¬ (1 : Int32) = 0 := by decide
  simp only [W]
  unfold g_X6_leastOf g_X6_mostOf g_X14_spanOf g_X14_spanOf_37 g_X14_spanOf_78
  rcases t3 with rfl | ht
  · refine ⟨l - m.1 239 b.toNatClampNeg, l + m.1 239 b.toNatClampNeg, ?_, ?_, fun M hM => ?_, by omega, by omega, by omega⟩
    · simp only [wp_b, wp_g, wp_ite, wp_some, wp_vi, l1, t1, gb, c6, true_implies, not_true, false_implies, and_true, true_and]
    · simp only [wp_b, wp_g, wp_ite, wp_some, wp_vi, l1, t1, gb, c6, true_implies, not_true, false_implies, and_true, true_and]
    · have q5 := hM.2.2.2.2.1
      simp only [wp_b, wp_g, wp_ite, wp_some, wp_vi, l2 M hM, t2 M hM, gb, q5, o1, true_implies, not_true, not_false_eq_true, false_implies, and_true, true_and]
  · have gt : rf_in t 6 = true := gin ht.1 (by grind [iv, ib]) (by decide)
    have tn1 : ¬ t = -1 := by intro e; rw [e] at ht; exact absurd ht.1 (by decide)
    obtain ⟨k, k1, k2, k3⟩ := uni (fun M hM => len_eq (w := w) jb ht hM) (bM_refl m)
    obtain ⟨v, v1, v2, v3⟩ := uni (fun M hM => torn_eq (w := w) jb hb ht hM) (bM_refl m)
    have a2' : 0 ≤ (m.1 239 t.toNatClampNeg).toInt ∧ (m.1 239 t.toNatClampNeg).toInt ≤ 40 := ivI (ca t.toNatClampNeg)
    have e4 : (k - m.1 239 t.toNatClampNeg).toInt = k.toInt - (m.1 239 t.toNatClampNeg).toInt := subI (by omega) (by omega)
    have e6 : (k + m.1 239 t.toNatClampNeg).toInt = k.toInt + (m.1 239 t.toNatClampNeg).toInt := addI (by omega) (by omega)
    rcases v3 with rfl | rfl
    · have hnt : max (l.toInt - (m.1 239 b.toNatClampNeg).toInt) (k.toInt - (m.1 239 t.toNatClampNeg).toInt) ≤ min (l.toInt + (m.1 239 b.toNatClampNeg).toInt) (k.toInt + (m.1 239 t.toNatClampNeg).toInt) := by
        have h := v2 m (bM_refl m)
        rw [W] at h
        unfold g_X14_isTorn at h
        simp only [wp_b, wp_g, wp_ite, wp_some, l2 m (bM_refl m), k2 m (bM_refl m), gb, gt, max_eq, min_eq, true_and] at h
        apply Decidable.byContradiction
        intro hc
        have h2 := h.2 (by rw [i_le, mxI, mnI, e3, e4, e5, e6]; exact hc)
        exact absurd (Prod.mk.inj h2).1 (by decide)
      refine ⟨(if l - m.1 239 b.toNatClampNeg < k - m.1 239 t.toNatClampNeg then k - m.1 239 t.toNatClampNeg else l - m.1 239 b.toNatClampNeg), (if k + m.1 239 t.toNatClampNeg < l + m.1 239 b.toNatClampNeg then k + m.1 239 t.toNatClampNeg else l + m.1 239 b.toNatClampNeg), by
        simp only [wp_b, wp_g, wp_ite, wp_some, wp_vi, l1, t1, k1, v1, gb, gt, tn1, c6, max_eq, true_implies, not_true, not_false_eq_true, false_implies, and_true, true_and], by
        simp only [wp_b, wp_g, wp_ite, wp_some, wp_vi, l1, t1, k1, v1, gb, gt, tn1, c6, min_eq, true_implies, not_true, not_false_eq_true, false_implies, and_true, true_and], fun M hM => ?_, ?_, ?_, ?_⟩
      · have q5 := hM.2.2.2.2.1
        simp only [wp_b, wp_g, wp_ite, wp_some, wp_vi, l2 M hM, t2 M hM, k2 M hM, v2 M hM, gb, gt, tn1, q5, o1, max_eq, min_eq, true_implies, not_true, not_false_eq_true, false_implies, and_true, true_and]
      · rw [mxI, e3, e4]; omega
      · rw [mxI, mnI, e3, e4, e5, e6]; exact hnt
      · rw [mnI, e5, e6]; omega
    · refine ⟨(if k - m.1 239 t.toNatClampNeg < l - m.1 239 b.toNatClampNeg then k - m.1 239 t.toNatClampNeg else l - m.1 239 b.toNatClampNeg), (if l + m.1 239 b.toNatClampNeg < k + m.1 239 t.toNatClampNeg then k + m.1 239 t.toNatClampNeg else l + m.1 239 b.toNatClampNeg), by
        simp only [wp_b, wp_g, wp_ite, wp_some, wp_vi, l1, t1, k1, v1, gb, gt, tn1, c6, o1, min_eq, true_implies, not_true, not_false_eq_true, false_implies, and_true, true_and], by
        simp only [wp_b, wp_g, wp_ite, wp_some, wp_vi, l1, t1, k1, v1, gb, gt, tn1, c6, o1, max_eq, true_implies, not_true, not_false_eq_true, false_implies, and_true, true_and], fun M hM => ?_, ?_, ?_, ?_⟩
      · have q5 := hM.2.2.2.2.1
        have z1 : ¬ (0 : Int32) = 1 := by decide
        simp only [wp_b, wp_g, wp_ite, wp_some, wp_vi, l2 M hM, t2 M hM, k2 M hM, v2 M hM, gb, gt, tn1, q5, o1, z1, max_eq, min_eq, true_implies, not_true, not_false_eq_true, false_implies, and_true, true_and]
      · rw [mnI, e3, e4]; omega
      · rw [mxI, mnI, e3, e4, e5, e6]; omega
      · rw [mxI, e5, e6]; omega
theorem k23 {w : rf_w} {m : rf_m} {y : Nat → Int32} (jb : JBase m) (jm : JMark m) : wp (g_lc_23 w m y) (fun r => r.1 = w) := by
  have c1 := jb.1
  have c2 := jb.2.1
  have c6 := jb.2.2.2.2.2.1
  have q0 : (rf_i m 206 0 0).1 206 55 = m.1 206 55 := rfl
  have q5 : (rf_i m 206 0 0).1 239 = m.1 239 := rfl
  unfold g_lc_23 g_X11_baseOf g_X14_baseOf
  by_cases h1 : ib (y 1) (m.1 206 55)
  · have gb : rf_in (y 1) 6 = true := gin h1.1 (by grind [iv, ib]) (by decide)
    have hM : bM m (rf_i m 206 0 0) := ⟨rfl, rfl, rfl, rfl, rfl, rfl, rfl, rfl⟩
    obtain ⟨l, l1, l2, l3⟩ := len_eq (w := w) jb h1 hM
    obtain ⟨lo, hi, s1, s2, s3, _⟩ := span_eq (w := w) jb jm h1
    have s4 := s3 _ hM
    obtain ⟨t, t1, t2, t3⟩ := twin_eq (w := w) jb jm h1 hM
    by_cases a0 : y 2 = 0
    · simp [wp_b, wp_g, wp_ite, wp_some, X6_isBase, X14_isBase, bi_eq0, c1, q0, h1, a0, l1, l2]
    · by_cases a1 : y 2 = 1
      · simp [wp_b, wp_g, wp_ite, wp_some, X6_isBase, X14_isBase, bi_eq0, c1, q0, q5, h1, a1, gb, c6]
      · by_cases a2 : y 2 = 2
        · simp [wp_b, wp_g, wp_ite, wp_some, X6_isBase, X14_isBase, bi_eq0, c1, q0, h1, a2, s1, s4.1]
        · by_cases a3 : y 2 = 3
          · simp [wp_b, wp_g, wp_ite, wp_some, X6_isBase, X14_isBase, bi_eq0, c1, q0, h1, a3, s2, s4.2]
          · by_cases a4 : y 2 = 4
            · rcases t3 with rfl | ht
              · simp [wp_b, wp_g, wp_ite, wp_some, X6_isBase, X14_isBase, bi_eq0, c1, q0, h1, a4, t1, t2, g_X6_laidAgain]
              · have tn1 : ¬ t = -1 := by intro e; rw [e] at ht; exact absurd ht.1 (by decide)
                obtain ⟨v, v1, v2, v3⟩ := torn_eq (w := w) jb h1 ht hM
                by_cases v0 : v = 0 <;> simp [wp_b, wp_g, wp_ite, wp_some, X6_isBase, X14_isBase, bi_eq0, c1, q0, h1, a4, t1, t2, tn1, v1, v2, v0, g_X6_laidAgain]
            · simp [wp_b, wp_g, wp_ite, wp_some, X6_isBase, X14_isBase, bi_eq0, c1, q0, h1, a0, a1, a2, a3, a4]
  · simp [wp_b, wp_g, wp_ite, wp_some, X6_isBase, X14_isBase, bi_eq0, c1, q0, h1]
theorem k21 {w : rf_w} {m : rf_m} {y : Nat → Int32} (jt : JT m) (jbase : JBase m) : wp (g_lc_21 w m y) (fun r => r.1 = w ∧ JT r.2 ∧ JBase r.2) := by
  unfold g_lc_21 g_X11_bar g_X14_bar
  obtain ⟨t1, t2, t3⟩ := jt
  obtain ⟨c1, c2, c3, c4, c5, c6, c7, c8, c9, ca, cb, cc⟩ := jbase
  by_cases h1 : ib (y 1) (m.1 206 55)
  · by_cases h2 : iv 1000 100000 (y 2)
    · by_cases h3 : iv (-20) 60 (y 3)
      · by_cases h4 : iv 0 999 (y 4)
        · by_cases h5 : y 4 < y 2
          · have gb : rf_in (y 1) 6 = true := gin h1.1 (by grind [iv, ib]) (by decide)
            have hb6 : (y 1).toNatClampNeg < 6 := tn_lt h1.1 (by grind [iv, ib]) (by decide)
            have k0 := ca (y 1).toNatClampNeg
            have hk : (m.1 239 (y 1).toNatClampNeg).toNatClampNeg ≤ 40 := tn_le k0.1 k0.2 (by decide)
            have h5' : ¬ y 2 ≤ y 4 := by clear ca cb cc; grind
            by_cases h6 : m.1 239 (y 1).toNatClampNeg = 40
            · have hx : ¬ m.1 239 (y 1).toNatClampNeg < 40 := by rw [h6]; decide
              have hx2 : 40 ≤ m.1 239 (y 1).toNatClampNeg := by rw [h6]; decide
              simp [wp_b, wp_bv, wp_g, wp_ite, wp_some, wp_vi, wp_vl, X11_isCell, X11_isWithin, X11_isDay, X11_isHour, X11_isTime, X5_isMark, X5_isPair, X3_isParty, X3_isAngle, X3_isReading, X6_isBase, X7_isTriangle, X14_isCell, X14_in, X14_isMark, X14_isDay, X14_isHour, X14_isParty, X14_isAngle, X14_isReading, X14_isBase, X14_isTriangle, g_X11_denied, g_X11_granted, g_X11_refused, g_X11_answered, g_X14_denied, g_X14_granted, g_X14_refused, g_X14_done, bi_eq0, bi_01, rf01_0, rf01_1, rf_i_c, rf_i_l, pu, h1, h2, h3, h4, h5, h5', eq_true h6, hx, hx2, gb, JT, JBase, t1, t2, c1, c3, c5, c6, c7, c8, c9]
              exact ⟨c2, c4, ca, cb, cc⟩
            · have hx : m.1 239 (y 1).toNatClampNeg < 40 := by clear ca cb cc; grind [iv]
              have hx2 : ¬ 40 ≤ m.1 239 (y 1).toNatClampNeg := by clear ca cb cc; grind [iv]
              have hk2 : (m.1 239 (y 1).toNatClampNeg).toNatClampNeg < 40 := tn_lt k0.1 hx (by decide)
              have e1 : y 1 * 40 + m.1 239 (y 1).toNatClampNeg = Int32.ofNat (40 * (y 1).toNatClampNeg + (m.1 239 (y 1).toNatClampNeg).toNatClampNeg) := by rw [Int32.ofNat_add, of_tn k0.1, Int32.ofNat_mul, of_tn h1.1, Int32.mul_comm]; rfl
              have e2 : 40 * y 1 + m.1 239 (y 1).toNatClampNeg = Int32.ofNat (40 * (y 1).toNatClampNeg + (m.1 239 (y 1).toNatClampNeg).toNatClampNeg) := by rw [Int32.ofNat_add, of_tn k0.1, Int32.ofNat_mul, of_tn h1.1]; rfl
              have g2 : rf_in (y 1 * 40 + m.1 239 (y 1).toNatClampNeg) 240 = true := by rw [e1]; exact gof (by omega) (by decide)
              have g3 : rf_in (40 * y 1 + m.1 239 (y 1).toNatClampNeg) 240 = true := by rw [e2]; exact gof (by omega) (by decide)
              have t : (y 1 * 40 + m.1 239 (y 1).toNatClampNeg).toNatClampNeg = 40 * (y 1).toNatClampNeg + (m.1 239 (y 1).toNatClampNeg).toNatClampNeg := by rw [e1]; exact tn_of (by omega)
              have t' : (40 * y 1 + m.1 239 (y 1).toNatClampNeg).toNatClampNeg = 40 * (y 1).toNatClampNeg + (m.1 239 (y 1).toNatClampNeg).toNatClampNeg := by rw [e2]; exact tn_of (by omega)
              have hs : (m.1 239 (y 1).toNatClampNeg + 1).toNatClampNeg = (m.1 239 (y 1).toNatClampNeg).toNatClampNeg + 1 := tn_succ k0.1 (by clear ca cb cc; grind)
              simp [wp_b, wp_bv, wp_g, wp_ite, wp_some, wp_vi, wp_vl, X11_isCell, X11_isWithin, X11_isDay, X11_isHour, X11_isTime, X5_isMark, X5_isPair, X3_isParty, X3_isAngle, X3_isReading, X6_isBase, X7_isTriangle, X14_isCell, X14_in, X14_isMark, X14_isDay, X14_isHour, X14_isParty, X14_isAngle, X14_isReading, X14_isBase, X14_isTriangle, g_X11_denied, g_X11_granted, g_X11_refused, g_X11_answered, g_X14_denied, g_X14_granted, g_X14_refused, g_X14_done, bi_eq0, bi_01, rf01_0, rf01_1, rf_i_c, rf_i_l, pu, h1, h2, h3, h4, h5, h5', h6, hx, hx2, gb, g2, g3, t, t', g_X6_addBar, JT, JBase, t1, t2, c1, c3, c5, c6, c7, c8, c9]
              refine ⟨c2, c4, fun i => ?_, cb, fun i j hi hj => ?_⟩
              · split
                · clear ca cb cc; grind [iv]
                · exact ca i
              · by_cases ei : i = (y 1).toNatClampNeg
                · subst ei
                  rw [if_pos rfl, hs] at hj
                  by_cases ej : j = (m.1 239 (y 1).toNatClampNeg).toNatClampNeg
                  · subst ej
                    simp only [if_true]
                    exact ⟨h2, h3, h4, h5⟩
                  · rw [if_neg (by omega), if_neg (by omega), if_neg (by omega)]
                    exact cc _ j hi (by omega)
                · rw [if_neg ei] at hj
                  have kj := ca i
                  have hkj : (m.1 239 i).toNatClampNeg ≤ 40 := tn_le kj.1 kj.2 (by decide)
                  rw [if_neg (by omega), if_neg (by omega), if_neg (by omega)]
                  exact cc i j hi hj
          · have h5' : y 2 ≤ y 4 := by clear ca cb cc; grind
            simp [wp_b, wp_bv, wp_g, wp_ite, wp_some, wp_vi, wp_vl, X11_isCell, X11_isWithin, X11_isDay, X11_isHour, X11_isTime, X5_isMark, X5_isPair, X3_isParty, X3_isAngle, X3_isReading, X6_isBase, X7_isTriangle, X14_isCell, X14_in, X14_isMark, X14_isDay, X14_isHour, X14_isParty, X14_isAngle, X14_isReading, X14_isBase, X14_isTriangle, g_X11_denied, g_X11_granted, g_X11_refused, g_X11_answered, g_X14_denied, g_X14_granted, g_X14_refused, g_X14_done, bi_eq0, bi_01, rf01_0, rf01_1, rf_i_c, rf_i_l, pu, h1, h2, h3, h4, h5, h5', JT, JBase, t1, t2, c1, c3, c5, c6, c7, c8, c9]
            exact ⟨c2, c4, ca, cb, cc⟩
        · simp [wp_b, wp_bv, wp_g, wp_ite, wp_some, wp_vi, wp_vl, X11_isCell, X11_isWithin, X11_isDay, X11_isHour, X11_isTime, X5_isMark, X5_isPair, X3_isParty, X3_isAngle, X3_isReading, X6_isBase, X7_isTriangle, X14_isCell, X14_in, X14_isMark, X14_isDay, X14_isHour, X14_isParty, X14_isAngle, X14_isReading, X14_isBase, X14_isTriangle, g_X11_denied, g_X11_granted, g_X11_refused, g_X11_answered, g_X14_denied, g_X14_granted, g_X14_refused, g_X14_done, bi_eq0, bi_01, rf01_0, rf01_1, rf_i_c, rf_i_l, pu, h1, h2, h3, h4, JT, JBase, t1, t2, c1, c3, c5, c6, c7, c8, c9]
          exact ⟨c2, c4, ca, cb, cc⟩
      · simp [wp_b, wp_bv, wp_g, wp_ite, wp_some, wp_vi, wp_vl, X11_isCell, X11_isWithin, X11_isDay, X11_isHour, X11_isTime, X5_isMark, X5_isPair, X3_isParty, X3_isAngle, X3_isReading, X6_isBase, X7_isTriangle, X14_isCell, X14_in, X14_isMark, X14_isDay, X14_isHour, X14_isParty, X14_isAngle, X14_isReading, X14_isBase, X14_isTriangle, g_X11_denied, g_X11_granted, g_X11_refused, g_X11_answered, g_X14_denied, g_X14_granted, g_X14_refused, g_X14_done, bi_eq0, bi_01, rf01_0, rf01_1, rf_i_c, rf_i_l, pu, h1, h2, h3, JT, JBase, t1, t2, c1, c3, c5, c6, c7, c8, c9]
        exact ⟨c2, c4, ca, cb, cc⟩
    · simp [wp_b, wp_bv, wp_g, wp_ite, wp_some, wp_vi, wp_vl, X11_isCell, X11_isWithin, X11_isDay, X11_isHour, X11_isTime, X5_isMark, X5_isPair, X3_isParty, X3_isAngle, X3_isReading, X6_isBase, X7_isTriangle, X14_isCell, X14_in, X14_isMark, X14_isDay, X14_isHour, X14_isParty, X14_isAngle, X14_isReading, X14_isBase, X14_isTriangle, g_X11_denied, g_X11_granted, g_X11_refused, g_X11_answered, g_X14_denied, g_X14_granted, g_X14_refused, g_X14_done, bi_eq0, bi_01, rf01_0, rf01_1, rf_i_c, rf_i_l, pu, h1, h2, JT, JBase, t1, t2, c1, c3, c5, c6, c7, c8, c9]
      exact ⟨c2, c4, ca, cb, cc⟩
  · simp [wp_b, wp_bv, wp_g, wp_ite, wp_some, wp_vi, wp_vl, X11_isCell, X11_isWithin, X11_isDay, X11_isHour, X11_isTime, X5_isMark, X5_isPair, X3_isParty, X3_isAngle, X3_isReading, X6_isBase, X7_isTriangle, X14_isCell, X14_in, X14_isMark, X14_isDay, X14_isHour, X14_isParty, X14_isAngle, X14_isReading, X14_isBase, X14_isTriangle, g_X11_denied, g_X11_granted, g_X11_refused, g_X11_answered, g_X14_denied, g_X14_granted, g_X14_refused, g_X14_done, bi_eq0, bi_01, rf01_0, rf01_1, rf_i_c, rf_i_l, pu, h1, JT, JBase, t1, t2, c1, c3, c5, c6, c7, c8, c9]
    exact ⟨c2, c4, ca, cb, cc⟩
end PBSpan
