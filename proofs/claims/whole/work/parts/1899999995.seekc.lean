/-! chains: what the class seeks -/
section PBSeekC
theorem bM_e {m X M : rf_m} (e : ∀ z, (236 ≤ z ∧ z ≤ 242) → X.1 z = m.1 z) (e6 : ∀ k, k = 55 ∨ k = 56 → X.1 206 k = m.1 206 k) : bM X M ↔ bM m M := by
  unfold bM
  rw [e 236 (by omega), e 237 (by omega), e 239 (by omega), e 240 (by omega), e 241 (by omega), e 242 (by omega), e6 55 (by omega), e6 56 (by omega)]
/-- the cells of bases and marks -/
def bEq (m X : rf_m) : Prop := (∀ z, z = 1 ∨ z = 4 ∨ z = 5 ∨ (41 ≤ z ∧ z ≤ 47) ∨ z = 209 ∨ z = 214 ∨ (236 ≤ z ∧ z ≤ 242) → X.1 z = m.1 z) ∧ X.1 206 = m.1 206
theorem span_x {w : rf_w} {m X : rf_m} {b lo hi : Int32} (jb : JBase m) (jm : JMark m) (hb : ib b (m.1 206 55)) (he : bEq m X) (hsp : ∀ M, bM m M → g_X14_spanOf w M b 0 = some (lo, M) ∧ g_X14_spanOf w M b 1 = some (hi, M)) : g_X6_leastOf w X b = some (lo, X) ∧ g_X6_mostOf w X b = some (hi, X) := by
  have jbX := JB_e (X := X) jb (fun z hz => he.1 z (by omega)) (fun k _ => by rw [he.2])
  have jmX := JM_e (X := X) jm (fun z hz => he.1 z (by omega)) (by rw [he.2])
  obtain ⟨lo', hi', k1, k2, k3, _⟩ := span_eq (w := w) jbX jmX (by rw [he.2]; exact hb)
  have hm := k3 m ((bM_e (fun z hz => he.1 z (by omega)) (fun k _ => by rw [he.2])).mpr (bM_refl m))
  have hm2 := hsp m (bM_refl m)
  rw [hm.1, hm.2] at hm2
  obtain ⟨e1, e2⟩ := hm2
  injection e1 with e1
  injection e2 with e2
  injection e1 with e1 _
  injection e2 with e2 _
  rw [← e1, ← e2]
  exact ⟨k1, k2⟩
/-- what seeking may change -/
def skF (X X' : rf_m) : Prop := (∀ z, (z < 175 ∨ 182 < z) → X'.1 z = X.1 z) ∧ ∀ z, z ≠ 175 → X'.2 z = X.2 z
def tlN (X X' : rf_m) : Prop := X'.1 176 = X.1 176 ∧ ∀ k, k = 1 ∨ k = 2 ∨ k = 3 → X'.1 175 k = X.1 175 k
def tlY (E : chE) (X' : rf_m) (q : List (Nat × Nat)) : Prop := q.length ≤ 6 ∧ X'.1 175 1 = Int32.ofNat q.length ∧ rnE E q = some (eGo E, (X'.1 175 2).toInt, (X'.1 175 3).toInt) ∧ stO (eGo E, (X'.1 175 2).toInt, (X'.1 175 3).toInt) ∧ ∀ j (h : j < q.length), X'.1 176 j = Int32.ofNat q[j].1
theorem env_st {w : rf_w} {m : rf_m} {L go s : Int32} {lo hi : Int} : eSt (envE w m L go s lo hi) = (s, lo, hi) := rfl
theorem seek_c {c : Nat} {w : rf_w} {m X : rf_m} {b side L lo hi : Int32} (J : JCnt c w m) (jn : JNet m) (jb : JBase m) (h : clA w m X) (he : bEq m X) (h50 : X.1 50 0 = m.1 206 64) (hb : ib b (m.1 206 55)) (hsp : ∀ M, bM m M → g_X14_spanOf w M b 0 = some (lo, M) ∧ g_X14_spanOf w M b 1 = some (hi, M)) (h0 : 0 ≤ lo.toInt) (h1 : lo.toInt ≤ hi.toInt) (h2 : hi.toInt ≤ 5000000) : ∃ X', skF X X' ∧ ((¬ (fl (fun t => wlI (tmF w m t) L 3 0 ≠ 0) (m.1 206 64).toNatClampNeg).length ≤ 8 ∧ g_X4_seek w X b side L = some (7, X') ∧ tlN X X') ∨ ((fl (fun t => wlI (tmF w m t) L 3 0 ≠ 0) (m.1 206 64).toNatClampNeg).length ≤ 8 ∧ ∃ B, srP (envE w m L side (m.1 43 b.toNatClampNeg) lo.toInt hi.toInt) [] none B ∧ ((B = none ∧ g_X4_seek w X b side L = some (5, X') ∧ tlN X X') ∨ ∃ q, B = some q ∧ g_X4_seek w X b side L = some (0, X') ∧ tlY (envE w m L side (m.1 43 b.toNatClampNeg) lo.toInt hi.toInt) X' q))) := by
  have ja := J.2.2.2.2.1
  have jm := J.2.2.2.2.2.1
  have o1 : ¬ (1 : Int32) = 0 := by decide
  obtain ⟨X1, g1, g2⟩ := gather_c (L := L) J jn h h50
  rcases g2 with ⟨l8, g3, g4⟩ | ⟨l8, g3⟩
  · -- the search
    have hA : ∀ t, t ∈ fl (fun t => wlI (tmF w m t) L 3 0 ≠ 0 ∧ abP w m t) (m.1 206 64).toNatClampNeg ↔ (t < (m.1 206 64).toNatClampNeg ∧ wlI (tmF w m t) L 3 0 ≠ 0 ∧ abP w m t) := fun t => fl_mem
    have hA8 : (fl (fun t => wlI (tmF w m t) L 3 0 ≠ 0 ∧ abP w m t) (m.1 206 64).toNatClampNeg).length ≤ 8 := Nat.le_trans (fl_imp (fun _ q => q.1) _) l8
    have hAn := fl_nd (P := fun t => wlI (tmF w m t) L 3 0 ≠ 0 ∧ abP w m t) (n := (m.1 206 64).toNatClampNeg)
    generalize hAA : fl (fun t => wlI (tmF w m t) L 3 0 ≠ 0 ∧ abP w m t) (m.1 206 64).toNatClampNeg = A at *
    have rng : ∀ j, j < 3 * A.length → 1 ≤ (X1.1 179 j).toInt ∧ (X1.1 179 j).toInt ≤ (X1.1 180 j).toInt ∧ (X1.1 180 j).toInt ≤ 1000000 := fun j hj => by
      have e : j = 3 * (j / 3) + j % 3 := by omega
      have l : j / 3 < A.length := by omega
      have i3 : j % 3 < 3 := Nat.mod_lt _ (by decide)
      obtain ⟨q1, q2, q3⟩ := (g4.2 (j / 3) l).2 (j % 3) i3
      rw [← e] at q2 q3
      rw [q2, q3]
      have hc := ((hA A[j / 3]).mp (List.getElem_mem l)).2.2 (j % 3) i3
      exact sin_rng J hc
    obtain ⟨X2, s1, s2, s3, s4, s5, s6, s7⟩ := shrink_c (w := w) g4.1 hA8 rng
    generalize hE : envE w m L side (m.1 43 b.toNatClampNeg) lo.toInt hi.toInt = E at *
    have hSh : eShr E (X2.2 175 12).toInt := by
      refine ⟨s5, s6, fun t hab o i o3 i3 => ?_⟩
      rw [← hE, env_ab] at hab
      obtain ⟨a, ha, ea⟩ := List.getElem_of_mem ((hA t).mpr hab)
      have := s7 a ha o i o3 i3
      obtain ⟨k1, k2⟩ := g4.2 a ha
      rw [(k2 o o3).2.2, (k2 i i3).2.1, ea] at this
      rw [← hE, env_sm, env_sl]
      exact this
    generalize hsh : (X2.2 175 12).toInt = sh at *
    generalize hX3 : rf_i (rf_i X2 175 18 side) 175 15 (-1) = X3
    have x3z : ∀ z, z ≠ 175 → X3.1 z = X1.1 z := fun z hz => by rw [← hX3, rf_i_c, if_neg hz, rf_i_c, if_neg hz, s2]
    have x3c : X3.1 175 = pu (pu (X1.1 175) 18 side) 15 (-1) := by rw [← hX3, rf_i_c, if_pos rfl, rf_i_c, if_pos rfl, s2]
    have x3l : X3.2 = X2.2 := by rw [← hX3, rf_i_l, rf_i_l]
    have he3 : bEq m X3 := ⟨fun z hz => by rw [x3z z (by omega), g1.1 z (by omega) (by omega)]; exact he.1 z hz, by rw [x3z 206 (by decide), g1.1 206 (by decide) (by omega)]; exact he.2⟩
    obtain ⟨sp1, sp2⟩ := span_x jb jm hb he3 hsp
    have h6 : ib b 6 := ⟨hb.1, by have a := hb.2; have d := jb.2.1.2; clear jb jn; grind⟩
    have sa : g_X6_sideAt w X3 b = some (m.1 43 b.toNatClampNeg, X3) := by
      unfold g_X6_sideAt
      rw [gin (N := 6) h6.1 h6.2 (by decide), g_t, he3.1 43 (by omega)]
    have st3 : chS w m X3 A side sh := by
      refine ⟨by rw [x3c, pu_ne (by decide), pu_ne (by decide)]; exact g4.1, by rw [x3c, pu_ne (by decide), pu_at], by rw [x3l]; exact hsh, fun a ha => ?_⟩
      rw [x3z 177 (by decide), x3z 178 (by decide), x3z 179 (by decide), x3z 180 (by decide)]
      exact g4.2 a ha
    have hd := dfs_c (w := w) (m := m) (L := L) (go := side) (s0 := m.1 43 b.toNatClampNeg) (lo0 := lo.toInt) (hi0 := hi.toInt) (sh := sh) (A := A) J jn hA hA8 hAn (by rw [hE]; exact hSh)
    rw [hE] at hd
    have est : eSt E = (m.1 43 b.toNatClampNeg, lo.toInt, hi.toInt) := by rw [← hE, env_st]
    obtain ⟨X4, B, d1, d2, d3, d4, d5⟩ := hd 16 [] X3 none 0 (m.1 43 b.toNatClampNeg) (Int32.toInt64 lo) (Int32.toInt64 hi) (by decide) ⟨by decide, fun x hx => by cases hx⟩ (by simp) (fun x hx => by cases hx) (by rw [i2l, i2l]; show some (eSt E) = _; rw [est]) (by rw [i2l, i2l]; exact ⟨h0, h1, by show hi.toInt ≤ 1000000000; omega⟩) st3 (fun u hu => by rw [bt_0]; simp) (fun j hj => absurd hj (Nat.not_lt_zero j)) (by show X3.1 175 15 = -1; rw [x3c, pu_at]) (fun q hq => by cases hq)
    have d1 : g_X4_extend w 16 X3 0 0 (m.1 43 b.toNatClampNeg) (Int32.toInt64 lo) (Int32.toInt64 hi) = some X4 := d1
    have seekE : g_X4_seek w X b side L = (if (X4.1 175 15) = ((-1)) then some (5, X4) else rf_g (rf_cg 0 0 6 12 6) (some (0, rf_i (rf_i (rf_i (rf_ci X4 182 176 0 0 6) 175 1 ((rf_ci X4 182 176 0 0 6).1 175 15)) 175 2 (Int64.toInt32 ((rf_i (rf_ci X4 182 176 0 0 6) 175 1 ((rf_ci X4 182 176 0 0 6).1 175 15)).2 175 16))) 175 3 (Int64.toInt32 ((rf_i (rf_i (rf_ci X4 182 176 0 0 6) 175 1 ((rf_ci X4 182 176 0 0 6).1 175 15)) 175 2 (Int64.toInt32 ((rf_i (rf_ci X4 182 176 0 0 6) 175 1 ((rf_ci X4 182 176 0 0 6).1 175 15)).2 175 16))).2 175 17))))) := by
      unfold g_X4_seek
      rw [g3, b_sm, if_neg o1, s1, bv_sm, hX3, sa, b_sm, sp1, b_sm, sp2, b_sm, d1, bv_sm]
    have fX4 : ∀ z, (z < 175 ∨ 182 < z) → X4.1 z = X.1 z := fun z hz => by rw [d2.1 z (by omega) (by omega) (by omega), x3z z (by omega), g1.1 z (by omega) (by omega)]
    have fL4 : ∀ z, z ≠ 175 → X4.2 z = X.2 z := fun z hz => by rw [d2.2.2.1 z hz, x3l, s3 z hz, g1.2.2]
    have f176 : X4.1 176 = X.1 176 := by rw [d2.1 176 (by decide) (by decide) (by decide), x3z 176 (by decide), g1.1 176 (by decide) (by omega)]
    have fk : ∀ k, k = 1 ∨ k = 2 ∨ k = 3 → X4.1 175 k = X.1 175 k := fun k hk => by rw [d2.2.1 k (by omega), x3c, pu_ne (by omega), pu_ne (by omega), g1.2.1 k (by omega)]
    cases B with
    | none =>
      have n1 : X4.1 175 15 = -1 := d4
      rw [if_pos n1] at seekE
      exact ⟨X4, ⟨fX4, fL4⟩, Or.inr ⟨l8, none, d5, Or.inl ⟨rfl, seekE, f176, fk⟩⟩⟩
    | some q =>
      obtain ⟨b1, b2, b3, b4, b5⟩ := d4
      have lq : q.length ≤ 6 := b3.1
      have n1 : ¬ X4.1 175 15 = -1 := by
        rw [b1]
        intro z
        have := i_eq.mp z
        rw [ofI (by omega)] at this
        have k : (-1 : Int32).toInt = -1 := by decide
        omega
      have cg : rf_cg 0 0 6 12 6 = true := by decide
      rw [if_neg n1, cg, g_t] at seekE
      have cz : ∀ z, z ≠ 176 → (rf_ci X4 182 176 0 0 6).1 z = X4.1 z := fun z hz => by
        funext k
        show (if z = 176 then _ else X4.1 z k) = _
        rw [if_neg hz]
      have c2 : ∀ j, j < 6 → (rf_ci X4 182 176 0 0 6).1 176 j = X4.1 182 j := fun j hj => by
        show (if (176 : Nat) = 176 then va_cpy (X4.1 182) (X4.1 176) (0 : Int32).toNatClampNeg (0 : Int32).toNatClampNeg (6 : Int32).toNatClampNeg j else X4.1 176 j) = _
        have t0 : (0 : Int32).toNatClampNeg = 0 := by decide
        have t6 : (6 : Int32).toNatClampNeg = 6 := by decide
        rw [if_pos rfl, t0, t6]
        unfold va_cpy
        rw [if_pos (by omega), Nat.sub_zero, Nat.zero_add]
      have cl : (rf_ci X4 182 176 0 0 6).2 = X4.2 := rfl
      generalize rf_ci X4 182 176 0 0 6 = Y at *
      have y15 : Y.1 175 15 = Int32.ofNat q.length := by rw [cz 175 (by decide)]; exact b1
      rw [rf_i_l, rf_i_l, rf_i_l, cl, y15] at seekE
      generalize hZ : rf_i (rf_i (rf_i Y 175 1 (Int32.ofNat q.length)) 175 2 (Int64.toInt32 (X4.2 175 16))) 175 3 (Int64.toInt32 (X4.2 175 17)) = Z at seekE
      have zz : ∀ z, z ≠ 175 → Z.1 z = Y.1 z := fun z hz => by rw [← hZ, rf_i_c, if_neg hz, rf_i_c, if_neg hz, rf_i_c, if_neg hz]
      have z5 : Z.1 175 = pu (pu (pu (Y.1 175) 1 (Int32.ofNat q.length)) 2 (Int64.toInt32 (X4.2 175 16))) 3 (Int64.toInt32 (X4.2 175 17)) := by rw [← hZ, rf_i_c, if_pos rfl, rf_i_c, if_pos rfl, rf_i_c, if_pos rfl]
      have zl : Z.2 = X4.2 := by rw [← hZ, rf_i_l, rf_i_l, rf_i_l, cl]
      have o5 := b5
      obtain ⟨x1, x2, x3⟩ := b5
      have x1 : 0 ≤ (X4.2 175 16).toInt := x1
      have x2 : (X4.2 175 16).toInt ≤ (X4.2 175 17).toInt := x2
      have x3 : (X4.2 175 17).toInt ≤ 1000000000 := x3
      have v2 : (Z.1 175 2).toInt = (X4.2 175 16).toInt := by rw [z5, pu_ne (by decide), pu_at, l2i (by omega) (by omega)]
      have v3 : (Z.1 175 3).toInt = (X4.2 175 17).toInt := by rw [z5, pu_at, l2i (by omega) (by omega)]
      refine ⟨Z, ⟨fun z hz => by rw [zz z (by omega), cz z (by omega)]; exact fX4 z hz, fun z hz => by rw [zl]; exact fL4 z hz⟩, Or.inr ⟨l8, some q, d5, Or.inr ⟨q, rfl, seekE, lq, by rw [z5, pu_ne (by decide), pu_ne (by decide), pu_at], by rw [v2, v3]; exact b2, by rw [v2, v3]; exact o5, fun j hj => ?_⟩⟩⟩
      rw [zz 176 (by decide), c2 j (by omega)]
      exact (b4 j hj).1
  · refine ⟨X1, ⟨fun z hz => g1.1 z (by omega) (by omega), fun z _ => by rw [g1.2.2]⟩, Or.inl ⟨l8, ?_, g1.1 176 (by decide) (by omega), fun k hk => g1.2.1 k (by omega)⟩⟩
    unfold g_X4_seek
    rw [g3, b_sm, if_pos rfl]
end PBSeekC
