/-! read: the call -/
section PBReadZ
theorem ref_read {w : rf_w} {M : rf_m} {a1 a2 a3 a4 : Int32} : h_X14_read_28 w a1 a2 a3 a4 M = @ite _ (¬ ib a3 24 ∨ wv a2 = -1) (Classical.propDecidable _) (some (-1, rf_i (rf_i M 206 1 2) 206 2 (-1))) (g_X14_read_99 w a1 a3 a4 (wv a2) M) := by
  have o1 : ¬ (1 : Int32) = 0 := by decide
  have o2 : ¬ (-2 : Int32) = -1 := by decide
  have rf : ∀ X : rf_m, rf_b (g_X14_refused w X 2) (fun y0 m0 => some (y0, m0)) = some (-1, rf_i (rf_i X 206 1 2) 206 2 (-1)) := fun _ => rfl
  unfold h_X14_read_28 g_X14_read_32
  rcases whole_rel (a := a2) with ⟨q1, q2⟩ | ⟨q1, q2, q3⟩ | ⟨q1, q2, q3⟩
  · have c0 : ¬ Op.cmpValue (FP.fcmp a2.toUInt32 a2.toUInt32) .l = 0 := fun z => fcmp_a.mp z q1
    rw [if_neg c0, q2]
    unfold g_X14_read_50 g_X14_read_78
    rw [X14_isHour, b_sm]
    by_cases h : ib a3 24
    · have nz : ¬ (¬ ib a3 24 ∨ (-2 : Int32) = -1) := fun z => z.elim (fun q => q h) o2
      rw [bi_t h, if_neg o1, if_pos rfl, if_neg c0, if_neg nz]
    · rw [bi_f h, if_pos rfl, rf, if_pos (Or.inl h)]
  · have c0 : Op.cmpValue (FP.fcmp a2.toUInt32 a2.toUInt32) .l = 0 := fcmp_a.mpr q1
    rw [if_pos c0, if_pos (Or.inr q2)]
    unfold g_X14_read_50 g_X14_read_78
    rw [X14_isHour, b_sm]
    by_cases h : ib a3 24
    · rw [bi_t h, if_neg o1]
      by_cases z : FP.f2i a2.toUInt32 = -2
      · rw [if_pos z, if_pos c0, if_pos z, rf]
      · rw [if_neg z, X14_in, b_sm, bi_f q3, if_pos rfl, rf]
    · rw [bi_f h, if_pos rfl, rf]
  · have c0 : Op.cmpValue (FP.fcmp a2.toUInt32 a2.toUInt32) .l = 0 := fcmp_a.mpr q1
    have nm1 : ¬ wv a2 = -1 := fun z => by rw [z] at q2; exact absurd q2.1 (by decide)
    have nm2 : ¬ wv a2 = -2 := fun z => by rw [z] at q2; exact absurd q2.1 (by decide)
    rw [if_pos c0, q3]
    unfold g_X14_read_50 g_X14_read_78
    rw [X14_isHour, b_sm]
    by_cases h : ib a3 24
    · have nz : ¬ (¬ ib a3 24 ∨ wv a2 = -1) := fun z => z.elim (fun q => q h) nm1
      rw [bi_t h, if_neg o1, if_neg nm2, X14_in, b_sm, bi_t q2, if_neg o1, if_pos c0, if_neg nm2, if_neg nz]
    · rw [bi_f h, if_pos rfl, rf, if_pos (Or.inl h)]
def no8 (w : rf_w) (m : rf_m) (a f h p e : Int32) : Prop := g_X11_read w m a f h p = some (-1, rf_i m 0 11 e) ∧ g_X14_read_0 w a f h p (rf_i m 0 11 e) = some (-1, dnM m e)
theorem wv_rng {a : Int32} (h : wv a ≠ -1) : wv a = -2 ∨ iv 0 12959999 (wv a) := by
  rcases whole_rel (a := a) with ⟨q1, q2⟩ | ⟨q1, q2, q3⟩ | ⟨q1, q2, q3⟩
  · exact Or.inl q2
  · exact absurd q2 h
  · exact Or.inr q2
theorem read_no {c : Nat} {w : rf_w} {m : rf_m} {a f h p : Int32} (J : JCnt c w m) (jp : JParty m) (hh : ¬ (ib a (m.1 206 16) ∧ ib p (m.1 206 15) ∧ ib h 24 ∧ wv f ≠ -1 ∧ m.1 206 17 ≠ 1200 ∧ (rdl m a.toNatClampNeg).length ≠ 20)) : ∃ e, e ≠ 4 ∧ no8 w m a f h p e := by
  obtain ⟨hc, j, js, ju, ja, jm, jd⟩ := J
  have o1 : ¬ (1 : Int32) = 0 := by decide
  have h80 := ang80 ja
  have i1 : ∀ e : Int32, (rf_i (rf_i m 0 11 e) 206 0 0).1 206 16 = m.1 206 16 := fun _ => rfl
  have i2 : ∀ e : Int32, (rf_i (rf_i m 0 11 e) 206 0 0).1 206 15 = m.1 206 15 := fun _ => rfl
  have i3 : ∀ e : Int32, (rf_i (rf_i m 0 11 e) 206 0 0).1 206 17 = m.1 206 17 := fun _ => rfl
  have i4 : ∀ e : Int32, (rf_i (rf_i m 0 11 e) 206 0 0).1 220 = m.1 220 := fun _ => rfl
  have rc : ∀ e : Int32, rf_b (g_X11_refused w m e) (fun y1 m1 => some (y1, m1)) = some (-1, rf_i m 0 11 e) := fun _ => rfl
  have rr : ∀ e : Int32, rf_b (g_X14_refused w (rf_i (rf_i m 0 11 e) 206 0 0) e) (fun y1 m1 => some (y1, m1)) = some (-1, dnM m e) := fun _ => rfl
  have r2 : some ((-1 : Int32), rf_i (rf_i (rf_i (rf_i m 0 11 2) 206 0 0) 206 1 2) 206 2 (-1)) = some (-1, dnM m 2) := rfl
  by_cases h1 : ib a (m.1 206 16)
  · by_cases h2 : ib p (m.1 206 15)
    · have er : Int32.ofNat a.toNatClampNeg = a := of_tn h1.1
      have hA := tn_lt2 h1.1 h1.2
      by_cases h3 : ¬ ib h 24 ∨ wv f = -1
      · refine ⟨2, by decide, ?_, ?_⟩
        · unfold g_X11_read
          rw [X3_isAngle, ja.1, b_sm, bi_t h1, if_neg o1, X3_isParty, jp.1, b_sm, bi_t h2, if_neg o1, whole_c, b_sm, X11_isHour, b_sm]
          by_cases h4 : ib h 24
          · have h5 : wv f = -1 := by rcases h3 with z | z; exact absurd h4 z; exact z
            rw [bi_t h4, if_neg o1, if_pos h5, rc]
          · rw [bi_f h4, if_pos rfl, rc]
        · unfold g_X14_read_0
          rw [X14_isAngle, i1, b_sm, bi_t h1, if_neg o1, X14_isParty, i2, b_sm, bi_t h2, if_neg o1, ref_read, if_pos h3, r2]
      · have h4 : ib h 24 := Classical.byContradiction fun q => h3 (Or.inl q)
        have h5 : ¬ wv f = -1 := fun q => h3 (Or.inr q)
        have hx := j.2.2.2 a.toNatClampNeg (by omega)
        have a6 : a * 9 + 6 = Int32.ofNat (9 * a.toNatClampNeg + 6) := by
          have := nine (n := a.toNatClampNeg) (k := 6) (by omega) (by omega)
          rw [er] at this
          exact this
        refine ⟨3, by decide, ?_, ?_⟩
        · unfold g_X11_read g_X3_hasRoomFor
          rw [X3_isAngle, ja.1, b_sm, bi_t h1, if_neg o1, X3_isParty, jp.1, b_sm, bi_t h2, if_neg o1, whole_c, b_sm, X11_isHour, b_sm, bi_t h4, if_neg o1, if_neg h5, j.1]
          by_cases h6 : (1200 : Int32) ≤ m.1 206 17
          · rw [if_pos h6, b_sm, if_pos rfl, rc]
          · have h7 : m.1 206 17 ≠ 1200 := fun q => h6 (by rw [q]; exact Int32.le_refl _)
            have h8 : (rdl m a.toNatClampNeg).length = 20 := Classical.byContradiction fun q => hh ⟨h1, h2, h4, h5, h7, q⟩
            have h9 : (20 : Int32) ≤ Int32.ofNat (rdl m a.toNatClampNeg).length := by rw [h8]; decide
            rw [if_neg h6, a6, gof (by omega) (by decide), g_t, tn_of (by omega), hx.1, if_pos h9, b_sm, if_pos rfl, rc]
        · unfold g_X14_read_0
          rw [X14_isAngle, i1, b_sm, bi_t h1, if_neg o1, X14_isParty, i2, b_sm, bi_t h2, if_neg o1, ref_read, if_neg h3]
          unfold g_X14_read_99
          rw [i3]
          by_cases h6 : m.1 206 17 = 1200
          · rw [if_pos h6, rr]
          · have h8 : (rdl m a.toNatClampNeg).length = 20 := Classical.byContradiction fun q => hh ⟨h1, h2, h4, h5, h6, q⟩
            have ro := readingsOf_r (w := w) (M := rf_i (rf_i m 0 11 3) 206 0 0) (a := a.toNatClampNeg) j (i3 3) (i4 3)
            rw [er] at ro
            have t20 : Int32.ofNat 20 = 20 := by decide
            rw [if_neg h6, ro, b_sm, h8, if_pos t20, rr]
    · refine ⟨1, by decide, ?_, ?_⟩
      · unfold g_X11_read
        rw [X3_isAngle, ja.1, b_sm, bi_t h1, if_neg o1, X3_isParty, jp.1, b_sm, bi_f h2, if_pos rfl, rc]
      · unfold g_X14_read_0
        rw [X14_isAngle, i1, b_sm, bi_t h1, if_neg o1, X14_isParty, i2, b_sm, bi_f h2, if_pos rfl, rr]
  · refine ⟨1, by decide, ?_, ?_⟩
    · unfold g_X11_read
      rw [X3_isAngle, ja.1, b_sm, bi_f h1, if_pos rfl, rc]
    · unfold g_X14_read_0
      rw [X14_isAngle, i1, b_sm, bi_f h1, if_pos rfl, rr]
def raM (m : rf_m) (n a x : Nat) (v h p : Int32) : rf_m := arM (rf_i (rf_i (adM m n a x v h p (m.1 0 10)) 0 11 0) 206 0 0) n a v h p
theorem ra_c {m : rf_m} {n a x : Nat} {v h p : Int32} : (∀ z, z ≠ 0 → z ≠ 26 → z ≠ 32 → z ≠ 33 → z ≠ 34 → z ≠ 36 → z ≠ 40 → z ≠ 206 → z ≠ 216 → (z < 220 ∨ 224 < z) → (raM m n a x v h p).1 z = m.1 z) ∧ (raM m n a x v h p).2 = m.2 := by
  refine ⟨fun z h1 h2 h3 h4 h5 h6 h7 h8 h9 h10 => ?_, rfl⟩
  have q0 : z ≠ 220 := by omega
  have q1 : z ≠ 221 := by omega
  have q2 : z ≠ 222 := by omega
  have q3 : z ≠ 223 := by omega
  have q4 : z ≠ 224 := by omega
  unfold raM arM adM
  simp only [rf_i_c, h1, h2, h3, h4, h5, h6, h7, h8, h9, q0, q1, q2, q3, q4, if_false]
theorem ra_F {m : rf_m} {n a x : Nat} {v h p : Int32} (jD : JD m) : redF m (raM m n a x v h p) n a x v h p := by
  have sn : Int32.ofNat n + 1 = Int32.ofNat (n + 1) := of_succ
  have sx : Int32.ofNat x + 1 = Int32.ofNat (x + 1) := of_succ
  have d := jD.1
  refine ⟨ra_c.1, ?_, ?_, ?_, ?_, ?_, ?_, ?_, ?_, ?_, ?_, ?_, fun k k1 k2 => ?_, ?_, ?_, fun k k1 k2 k3 k4 => ?_, ?_⟩ <;> (unfold raM arM adM; simp only [rf_i_c, Nat.reduceEqDiff, if_true, if_false, pu_at, sn, sx, d])
  · rw [pu_ne (show 5 ≠ 0 by decide)]
  · rw [pu_ne k2, pu_ne k1]
  · rw [pu_ne (by decide), pu_at]
  · rw [pu_ne k3, pu_ne k2, pu_ne k4, pu_ne k1]
  · rw [pu_ne (by decide), pu_ne (by decide), pu_at]
/-- what a reading may change -/
def fr8 (m M : rf_m) : Prop := (∀ z, z ≠ 0 → z ≠ 26 → z ≠ 32 → z ≠ 33 → z ≠ 34 → z ≠ 36 → z ≠ 40 → z ≠ 206 → z ≠ 216 → (z < 220 ∨ 224 < z) → M.1 z = m.1 z) ∧ (∀ k, k ≠ 11 → M.1 0 k = m.1 0 k) ∧ (∀ k, k ≠ 7 → k ≠ 19 → M.1 26 k = m.1 26 k) ∧ (∀ k, k ≠ 0 → k ≠ 1 → k ≠ 2 → k ≠ 17 → M.1 206 k = m.1 206 k) ∧ m.1 206 17 ≤ M.1 206 17 ∧ M.2 = m.2
theorem dn_8 {m : rf_m} {v : Int32} : fr8 m (dnM m v) := by
  refine ⟨fun z h1 h2 h3 h4 h5 h6 h7 h8 h9 h10 => dn_0 z h1 h8, fun k hk => ?_, fun k _ _ => by rw [dn_0 26 (by decide) (by decide)], fun k h0 h1 h2 _ => dn_206 k h0 h1 h2, by rw [dn_206 17 (by decide) (by decide) (by decide)]; exact Int32.le_refl _, rfl⟩
  unfold dnM
  simp only [rf_i_c, Nat.reduceEqDiff, if_true, if_false, pu_ne hk]
theorem rf_b_assoc {α β : Type} {o : Option (α × rf_m)} {g : α → rf_m → Option rf_m} {k : α → rf_m → Option β} {v : α} {M : rf_m} (h : rf_b o (fun x m1 => rf_bv (g x m1) fun m2 => some (x, m2)) = some (v, M)) : rf_b o (fun x m1 => rf_bv (g x m1) fun m2 => k x m2) = k v M := by
  cases o with
  | none => cases h
  | some q =>
    rw [b_sm] at h ⊢
    cases e : g q.1 q.2 with
    | none => rw [e] at h; cases h
    | some r =>
      rw [e, bv_sm] at h
      cases h
      rw [bv_sm]
theorem read_yes {c : Nat} {w : rf_w} {m : rf_m} {a f h p : Int32} (J : JCnt c w m) (jp : JParty m) (jD : JD m) (h1 : ib a (m.1 206 16)) (h2 : ib p (m.1 206 15)) (h3 : ib h 24) (h4 : wv f ≠ -1) (h5 : m.1 206 17 ≠ 1200) (h6 : (rdl m a.toNatClampNeg).length ≠ 20) : g_X11_read w m a f h p = some (m.1 206 17, rf_i (adM m (m.1 206 17).toNatClampNeg a.toNatClampNeg (rdl m a.toNatClampNeg).length (wv f) h p (m.1 0 10)) 0 11 0) ∧ g_X14_read_0 w a f h p (rf_i (adM m (m.1 206 17).toNatClampNeg a.toNatClampNeg (rdl m a.toNatClampNeg).length (wv f) h p (m.1 0 10)) 0 11 0) = some (m.1 206 17, raM m (m.1 206 17).toNatClampNeg a.toNatClampNeg (rdl m a.toNatClampNeg).length (wv f) h p) := by
  obtain ⟨hc, j, js, ju, ja, jm, jd⟩ := J
  have o1 : ¬ (1 : Int32) = 0 := by decide
  have h80 := ang80 ja
  have hA := tn_lt2 h1.1 h1.2
  have er : Int32.ofNat a.toNatClampNeg = a := of_tn h1.1
  have en : Int32.ofNat (m.1 206 17).toNatClampNeg = m.1 206 17 := of_tn j.2.1.1
  have hn := tn_le j.2.1.1 j.2.1.2 (by decide)
  have hn2 : (m.1 206 17).toNatClampNeg < 1200 := by
    have : (m.1 206 17).toNatClampNeg ≠ 1200 := fun q => h5 (by rw [← en, q]; rfl)
    have hn : (m.1 206 17).toNatClampNeg ≤ 1200 := hn
    omega
  have hx := j.2.2.2 a.toNatClampNeg (by omega)
  have hx20 : (rdl m a.toNatClampNeg).length < 20 := by have := hx.2.1; omega
  have a6 : a * 9 + 6 = Int32.ofNat (9 * a.toNatClampNeg + 6) := by
    have := nine (n := a.toNatClampNeg) (k := 6) (by omega) (by omega)
    rw [er] at this
    exact this
  have g6 : ¬ (1200 : Int32) ≤ m.1 206 17 := fun q => h5 (Int32.le_antisymm j.2.1.2 q)
  have g7 : ¬ (20 : Int32) ≤ Int32.ofNat (rdl m a.toNatClampNeg).length := fun q => by
    have := (of_le (a := 20) (by omega) (by omega)).mp q
    omega
  generalize hX : rf_i (adM m (m.1 206 17).toNatClampNeg a.toNatClampNeg (rdl m a.toNatClampNeg).length (wv f) h p (m.1 0 10)) 0 11 0 = X
  constructor
  · have ad := addR_c (w := w) (v := wv f) (h := h) (p := p) (n := (m.1 206 17).toNatClampNeg) (by rw [j.1, en]) hn2 (by omega) hx.1 hx20
    rw [er] at ad
    unfold g_X11_read g_X3_hasRoomFor
    rw [X3_isAngle, ja.1, b_sm, bi_t h1, if_neg o1, X3_isParty, jp.1, b_sm, bi_t h2, if_neg o1, whole_c, b_sm, X11_isHour, b_sm, bi_t h3, if_neg o1, if_neg h4, j.1, if_neg g6, a6, gof (by omega) (by decide), g_t, tn_of (by omega), hx.1, if_neg g7, b_sm, if_neg o1]
    have ad2 := rf_b_assoc (g := fun y7 m7 => g_X3_sign w m7 y7 h p (m7.1 0 10)) (k := fun y7 m8 => rf_b (g_X11_answered w m8 y7) fun y9 m9 => some (y9, m9)) ad
    refine ad2.trans ?_
    show some (Int32.ofNat (m.1 206 17).toNatClampNeg, _) = _
    rw [en, hX]
  · unfold g_X14_read_0
    have i1 : (rf_i X 206 0 0).1 206 16 = m.1 206 16 := by rw [← hX]; rfl
    have i2 : (rf_i X 206 0 0).1 206 15 = m.1 206 15 := by rw [← hX]; rfl
    have i3 : (rf_i X 206 0 0).1 206 17 = m.1 206 17 := by rw [← hX]; rfl
    have i4 : (rf_i X 206 0 0).1 220 = m.1 220 := by rw [← hX]; rfl
    have nz : ¬ (¬ ib h 24 ∨ wv f = -1) := fun z => z.elim (fun q => q h3) h4
    have ar := addR_r (w := w) (M := rf_i X 206 0 0) (v := wv f) (h := h) (p := p) (a := a.toNatClampNeg) j i3 i4 en.symm hn2 hx20
    rw [er, en] at ar
    rw [X14_isAngle, i1, b_sm, bi_t h1, if_neg o1, X14_isParty, i2, b_sm, bi_t h2, if_neg o1, ref_read, if_neg nz, ar, ← hX]
    rfl
theorem k8 {c : Nat} {w : rf_w} {m : rf_m} {y : Nat → Int32} (J : JCnt c w m) (jc : JCache w m) (jl : JLg w m) (jt : JT m) (jp : JParty m) (jD : JD m) : wp (g_lc_8 w m y) (fun r => r.1 = w ∧ JCnt c w r.2 ∧ JCache w r.2 ∧ JT r.2 ∧ fr8 m r.2 ∧ JLg w r.2) := by
  unfold g_lc_8
  by_cases h : ib (y 1) (m.1 206 16) ∧ ib (y 4) (m.1 206 15) ∧ ib (y 3) 24 ∧ wv (y 2) ≠ -1 ∧ m.1 206 17 ≠ 1200 ∧ (rdl m (y 1).toNatClampNeg).length ≠ 20
  · obtain ⟨h1, h2, h3, h4, h5, h6⟩ := h
    obtain ⟨e1, e2⟩ := read_yes J jp jD h1 h2 h3 h4 h5 h6
    rw [e1, b_sm, e2, b_sm, decide_eq_true rfl, g_t, wp_some]
    have J' := J
    obtain ⟨hc, j, js, ju, ja, jm, jd⟩ := J'
    have h80 := ang80 ja
    have hA := tn_lt2 h1.1 h1.2
    have en : Int32.ofNat (m.1 206 17).toNatClampNeg = m.1 206 17 := of_tn j.2.1.1
    have hn2 : (m.1 206 17).toNatClampNeg < 1200 := by
      have : (m.1 206 17).toNatClampNeg ≠ 1200 := fun q => h5 (by rw [← en, q]; rfl)
      have hn : (m.1 206 17).toNatClampNeg ≤ 1200 := tn_le j.2.1.1 j.2.1.2 (by decide)
      omega
    have hx := j.2.2.2 (y 1).toNatClampNeg (by omega)
    have F := ra_F (m := m) (n := (m.1 206 17).toNatClampNeg) (a := (y 1).toNatClampNeg) (x := (rdl m (y 1).toNatClampNeg).length) (v := wv (y 2)) (h := y 3) (p := y 4) jD
    have iP : iv 0 7 (y 4) := ⟨h2.1, by have h8 := jp.2.1.2; have h9 := h2.2; grind⟩
    have q := red_cnt J jc jl rfl hn2 (by omega) rfl (by have := hx.2.1; omega) (by rw [of_tn h1.1]; exact h1) (wv_rng h4) (ib_iv3.mpr h3) iP jD.2 F
    refine ⟨rfl, q.1, q.2.1, ?_, ?_, q.2.2⟩
    · obtain ⟨t1, t2, t3⟩ := jt
      refine ⟨?_, ?_, ?_⟩ <;> (unfold raM arM adM; simp only [rf_i_c, Nat.reduceEqDiff, if_true, if_false])
      · rw [pu_at, pu_ne (by decide), pu_at]
      · rw [pu_ne (by decide), pu_ne (by decide), pu_ne (by decide), pu_ne (by decide), pu_ne (by decide)]; exact t2
      · have : ¬ (0 : Int32) = 4 := by decide
        rw [pu_at, pu_ne (by decide), pu_at, if_neg this]
    · have F' := F
      obtain ⟨f0, _, _, _, _, _, _, _, _, _, _, _, f26, _, _, f206, f17⟩ := F'
      refine ⟨f0, fun k hk => ?_, f26, f206, ?_, rfl⟩
      · unfold raM arM adM
        simp only [rf_i_c, Nat.reduceEqDiff, if_true, if_false, pu_ne hk]
      · rw [f17, ← en, tn_of (by omega)]
        exact (of_le (by omega) (by omega)).mpr (by omega)
  · obtain ⟨e, he, e1, e2⟩ := read_no J jp h
    obtain ⟨q1, q2, q3⟩ := dn_fin (v := e) J jc jt he
    rw [e1, b_sm, e2, b_sm, decide_eq_true rfl, g_t, wp_some]
    refine ⟨rfl, q1, q2, q3, dn_8, ?_⟩
    intro l hl i hi
    rw [dn_206 18 (by decide) (by decide) (by decide)] at hi
    obtain ⟨l0, _, j1, _, j3, _⟩ := J.2.2.1
    have e0 : l0 = l := by rw [hl] at j1; exact (Option.some.inj j1).symm
    show ib ((dnM m e).1 l (3 * i)) ((dnM m e).1 206 17)
    rw [dn_0 l (by omega) (by omega), dn_206 17 (by decide) (by decide) (by decide)]
    exact jl l hl i hi
end PBReadZ
