/-! angle and pass: what they leave of the counting -/
section PBK7
/-- an angle is told, N were -/
def anY (m M : rf_m) (N : Nat) : Prop := (∀ z, z ≠ 0 → z ≠ 26 → z ≠ 28 → z ≠ 29 → z ≠ 30 → z ≠ 40 → z ≠ 206 → z ≠ 217 → z ≠ 218 → z ≠ 219 → M.1 z = m.1 z) ∧ (∀ k, k ≠ 6 → k ≠ 19 → M.1 26 k = m.1 26 k) ∧ (∀ k, k ≠ 0 → k ≠ 1 → k ≠ 2 → k ≠ 16 → M.1 206 k = m.1 206 k) ∧ M.1 26 19 = 1 ∧ M.1 40 = pu (m.1 40) N 1 ∧ M.1 206 16 = Int32.ofNat (N + 1) ∧ ∃ x, M.1 217 = pu (m.1 217) N x
/-- none is told -/
def anN (m M : rf_m) : Prop := (∀ z, z ≠ 0 → z ≠ 206 → M.1 z = m.1 z) ∧ ∀ k, k ≠ 0 → k ≠ 1 → k ≠ 2 → M.1 206 k = m.1 206 k
theorem anN_dn {m : rf_m} {v : Int32} : anN m (dnM m v) := ⟨fun z h0 h6 => dn_0 z h0 h6, fun k h0 h1 h2 => dn_206 k h0 h1 h2⟩
theorem k7x {w : rf_w} {m : rf_m} {y : Nat → Int32} (jmark : JMark m) (jang : JAng m) : wp (g_lc_7 w m y) (fun r => anN m r.2 ∨ anY m r.2 (m.1 206 16).toNatClampNeg) := by
  have o1 : ¬ (1 : Int32) = 0 := by decide
  obtain ⟨c1, c2, _⟩ := jang
  have k1 := jmark.1
  have hN := of_tn c2.1
  have h80 : (m.1 206 16).toNatClampNeg ≤ 80 := tn_le c2.1 c2.2 (by decide)
  generalize hNv : (m.1 206 16).toNatClampNeg = N at *
  have r4 : (rf_i m 206 0 0).1 206 4 = m.1 206 4 := rfl
  -- refused alike
  have no : ∀ (v x : Int32), g_X11_angle w m (y 1) (y 2) (y 3) = some (x, rf_i m 0 11 v) → g_X14_angle w (rf_i m 0 11 v) (y 1) (y 2) (y 3) = some (x, dnM m v) → wp (g_lc_7 w m y) (fun r => anN m r.2 ∨ anY m r.2 N) := by
    intro v x e1 e2
    unfold g_lc_7
    rw [e1, b_sm, e2, b_sm, decide_eq_true rfl, g_t, wp_some]
    exact Or.inl anN_dn
  have r4' : ∀ v : Int32, (rf_i (rf_i m 0 11 v) 206 0 0).1 206 4 = m.1 206 4 := fun _ => rfl
  have r16' : ∀ v : Int32, (rf_i (rf_i m 0 11 v) 206 0 0).1 206 16 = m.1 206 16 := fun _ => rfl
  by_cases h1 : ib (y 1) (m.1 206 4)
  · by_cases h2 : ib (y 2) (m.1 206 4)
    · by_cases h3 : ib (y 3) (m.1 206 4)
      · have cls : ∀ (o : Option (Int32 × rf_m)), (if y 1 = y 2 then some ((-1 : Int32), rf_i m 0 11 5) else if y 1 = y 3 then some (-1, rf_i m 0 11 5) else if y 2 = y 3 then some (-1, rf_i m 0 11 5) else if m.1 206 16 < 80 then rf_b (g_X3_addAngle w m (y 1) (y 2) (y 3)) fun y7 m7 => some (y7, rf_i m7 0 11 0) else some (-1, rf_i m 0 11 3)) = o → g_X11_angle w m (y 1) (y 2) (y 3) = o := by
          intro o ho
          unfold g_X11_angle g_X11_refused g_X11_answered
          rw [X5_isMark, k1, b_sm, bi_t h1, if_neg o1, X5_isMark, k1, b_sm, bi_t h2, if_neg o1, X5_isMark, k1, b_sm, bi_t h3, if_neg o1, c1]
          exact ho
        have ref : ∀ (A : rf_m) (o : Option (Int32 × rf_m)), A.1 206 4 = m.1 206 4 → (if y 1 = y 2 then some ((-1 : Int32), rf_i (rf_i (rf_i A 206 0 0) 206 1 5) 206 2 (-1)) else if y 1 = y 3 then some (-1, rf_i (rf_i (rf_i A 206 0 0) 206 1 5) 206 2 (-1)) else if y 2 = y 3 then some (-1, rf_i (rf_i (rf_i A 206 0 0) 206 1 5) 206 2 (-1)) else if (rf_i A 206 0 0).1 206 16 = 80 then some (-1, rf_i (rf_i (rf_i A 206 0 0) 206 1 3) 206 2 (-1)) else o) = (if y 1 = y 2 then some ((-1 : Int32), rf_i (rf_i (rf_i A 206 0 0) 206 1 5) 206 2 (-1)) else if y 1 = y 3 then some (-1, rf_i (rf_i (rf_i A 206 0 0) 206 1 5) 206 2 (-1)) else if y 2 = y 3 then some (-1, rf_i (rf_i (rf_i A 206 0 0) 206 1 5) 206 2 (-1)) else if (rf_i A 206 0 0).1 206 16 = 80 then some (-1, rf_i (rf_i (rf_i A 206 0 0) 206 1 3) 206 2 (-1)) else o) := fun _ _ _ => rfl
        by_cases h4 : y 1 = y 2
        · refine no 5 (-1) (cls _ (by rw [if_pos h4])) ?_
          unfold g_X14_angle g_X14_refused
          rw [X14_isMark, r4', b_sm, bi_t h1, if_neg o1, X14_isMark, r4', b_sm, bi_t h2, if_neg o1, X14_isMark, r4', b_sm, bi_t h3, if_neg o1, if_pos h4]
          rfl
        · by_cases h5 : y 1 = y 3
          · refine no 5 (-1) (cls _ (by rw [if_neg h4, if_pos h5])) ?_
            unfold g_X14_angle g_X14_refused
            rw [X14_isMark, r4', b_sm, bi_t h1, if_neg o1, X14_isMark, r4', b_sm, bi_t h2, if_neg o1, X14_isMark, r4', b_sm, bi_t h3, if_neg o1, if_neg h4, if_pos h5]
            rfl
          · by_cases h6 : y 2 = y 3
            · refine no 5 (-1) (cls _ (by rw [if_neg h4, if_neg h5, if_pos h6])) ?_
              unfold g_X14_angle g_X14_refused
              rw [X14_isMark, r4', b_sm, bi_t h1, if_neg o1, X14_isMark, r4', b_sm, bi_t h2, if_neg o1, X14_isMark, r4', b_sm, bi_t h3, if_neg o1, if_neg h4, if_neg h5, if_pos h6]
              rfl
            · by_cases h7 : m.1 206 16 = 80
              · refine no 3 (-1) (cls _ (by rw [if_neg h4, if_neg h5, if_neg h6, if_neg (by rw [h7]; decide)])) ?_
                unfold g_X14_angle g_X14_refused
                rw [X14_isMark, r4', b_sm, bi_t h1, if_neg o1, X14_isMark, r4', b_sm, bi_t h2, if_neg o1, X14_isMark, r4', b_sm, bi_t h3, if_neg o1, if_neg h4, if_neg h5, if_neg h6, r16', if_pos h7]
                rfl
              · -- it is told
                have lt : m.1 206 16 < 80 := by have := c2.2; grind
                have N80 : N < 80 := by
                  have : N ≠ 80 := fun z => h7 (by rw [← hN, z]; rfl)
                  omega
                have g80 : rf_in (Int32.ofNat N) 80 = true := gof N80 (by decide)
                have tN : (Int32.ofNat N).toNatClampNeg = N := tn_of (by omega)
                have nb : vp_nar .boolean 1 = 1 := by decide
                have e6 : m.1 26 6 = Int32.ofNat N := by rw [c1, hN]
                have add : g_X3_addAngle w m (y 1) (y 2) (y 3) = some (Int32.ofNat N, rf_i (rf_i (rf_i (rf_i (rf_i (rf_i m 28 N (y 1)) 29 N (y 2)) 30 N (y 3)) 40 N 1) 26 19 1) 26 6 (Int32.ofNat (N + 1))) := by
                  have a1 : (rf_i m 28 N (y 1)).1 26 6 = Int32.ofNat N := e6
                  have a2 : (rf_i (rf_i m 28 N (y 1)) 29 N (y 2)).1 26 6 = Int32.ofNat N := e6
                  have a3 : (rf_i (rf_i (rf_i m 28 N (y 1)) 29 N (y 2)) 30 N (y 3)).1 26 6 = Int32.ofNat N := e6
                  have a4 : (rf_i (rf_i (rf_i (rf_i (rf_i m 28 N (y 1)) 29 N (y 2)) 30 N (y 3)) 40 N 1) 26 19 1).1 26 6 = Int32.ofNat N := e6
                  have a5 : (rf_i (rf_i (rf_i (rf_i (rf_i (rf_i m 28 N (y 1)) 29 N (y 2)) 30 N (y 3)) 40 N 1) 26 19 1) 26 6 (Int32.ofNat (N + 1))).1 26 6 = Int32.ofNat (N + 1) := rfl
                  unfold g_X3_addAngle g_X3_forget
                  rw [e6, g80, g_t, tN, a1, g80, g_t, tN, a2, g80, g_t, tN, a3, g80, g_t, tN, nb, bv_sm, a4, of_succ, a5, ofm1']
                have e1 := cls _ (by rw [if_neg h4, if_neg h5, if_neg h6, if_pos lt, add, b_sm])
                generalize hX : rf_i (rf_i (rf_i (rf_i (rf_i (rf_i (rf_i m 28 N (y 1)) 29 N (y 2)) 30 N (y 3)) 40 N 1) 26 19 1) 26 6 (Int32.ofNat (N + 1))) 0 11 0 = X at e1
                have x6 : X.1 206 = m.1 206 := by rw [← hX]; rfl
                have xz : ∀ z, z ≠ 0 → z ≠ 26 → z ≠ 28 → z ≠ 29 → z ≠ 30 → z ≠ 40 → X.1 z = m.1 z := fun z q0 q1 q2 q3 q4 q5 => by rw [← hX, rf_i_c, if_neg q0, rf_i_c, if_neg q1, rf_i_c, if_neg q1, rf_i_c, if_neg q5, rf_i_c, if_neg q4, rf_i_c, if_neg q3, rf_i_c, if_neg q2]
                have x26 : X.1 26 = pu (pu (m.1 26) 19 1) 6 (Int32.ofNat (N + 1)) := by rw [← hX, rf_i_c, if_neg (by decide), rf_i_c, if_pos rfl, rf_i_c, if_pos rfl]; rfl
                have x40 : X.1 40 = pu (m.1 40) N 1 := by rw [← hX, rf_i_c, if_neg (by decide), rf_i_c, if_neg (by decide), rf_i_c, if_neg (by decide), rf_i_c, if_pos rfl]; rfl
                clear hX
                have y6 : ∀ k, (rf_i X 206 0 0).1 206 k = pu (m.1 206) 0 0 k := fun k => by rw [rf_i_c, if_pos rfl, x6]
                have y4 : (rf_i X 206 0 0).1 206 4 = m.1 206 4 := by rw [y6, pu_ne (by decide)]
                have y16 : (rf_i X 206 0 0).1 206 16 = Int32.ofNat N := by rw [y6, pu_ne (by decide), hN]
                have n80 : ¬ Int32.ofNat N = 80 := by rw [hN]; exact h7
                have e2 : g_X14_angle w X (y 1) (y 2) (y 3) = some (Int32.ofNat N, rf_i (rf_i (rf_i (rf_i (rf_i (rf_i (rf_i X 206 0 0) 217 N (y 1)) 218 N (y 2)) 219 N (y 3)) 206 16 (Int32.ofNat (N + 1))) 206 1 0) 206 2 (-1)) := by
                  have a1 : (rf_i (rf_i X 206 0 0) 217 N (y 1)).1 206 16 = Int32.ofNat N := y16
                  have a2 : (rf_i (rf_i (rf_i X 206 0 0) 217 N (y 1)) 218 N (y 2)).1 206 16 = Int32.ofNat N := y16
                  have a3 : (rf_i (rf_i (rf_i (rf_i X 206 0 0) 217 N (y 1)) 218 N (y 2)) 219 N (y 3)).1 206 16 = Int32.ofNat N := y16
                  have a5 : (rf_i (rf_i (rf_i (rf_i (rf_i X 206 0 0) 217 N (y 1)) 218 N (y 2)) 219 N (y 3)) 206 16 (Int32.ofNat (N + 1))).1 206 16 = Int32.ofNat (N + 1) := rfl
                  unfold g_X14_angle g_X14_done
                  rw [X14_isMark, y4, b_sm, bi_t h1, if_neg o1, X14_isMark, y4, b_sm, bi_t h2, if_neg o1, X14_isMark, y4, b_sm, bi_t h3, if_neg o1, if_neg h4, if_neg h5, if_neg h6, y16, if_neg n80, g80, g_t, tN, a1, g80, g_t, tN, a2, g80, g_t, tN, a3, of_succ, a5, ofm1', b_sm]
                unfold g_lc_7
                rw [e1, b_sm, e2, b_sm, decide_eq_true rfl, g_t, wp_some]
                right
                refine ⟨fun z q0 q1 q2 q3 q4 q5 q6 q7 q8 q9 => ?_, fun k q1 q2 => ?_, fun k q0 q1 q2 q3 => ?_, ?_, ?_, ?_, y 1, ?_⟩
                · rw [rf_i_c, if_neg q6, rf_i_c, if_neg q6, rf_i_c, if_neg q6, rf_i_c, if_neg q9, rf_i_c, if_neg q8, rf_i_c, if_neg q7, rf_i_c, if_neg q6]
                  exact xz z q0 q1 q2 q3 q4 q5
                · show X.1 26 k = _
                  rw [x26, pu_ne q1, pu_ne q2]
                · rw [rf_i_c, if_pos rfl, pu_ne q2, rf_i_c, if_pos rfl, pu_ne q1, rf_i_c, if_pos rfl, pu_ne q3, rf_i_c, if_neg (by decide), rf_i_c, if_neg (by decide), rf_i_c, if_neg (by decide), rf_i_c, if_pos rfl, pu_ne q0, x6]
                · show X.1 26 19 = _
                  rw [x26, pu_ne (by decide), pu_at]
                · show X.1 40 = _
                  exact x40
                · rw [rf_i_c, if_pos rfl, pu_ne (by decide), rf_i_c, if_pos rfl, pu_ne (by decide), rf_i_c, if_pos rfl, pu_at]
                · rw [rf_i_c, if_neg (by decide), rf_i_c, if_neg (by decide), rf_i_c, if_neg (by decide), rf_i_c, if_neg (by decide), rf_i_c, if_neg (by decide), rf_i_c, if_pos rfl, rf_i_c, if_neg (by decide), xz 217 (by decide) (by decide) (by decide) (by decide) (by decide) (by decide)]
      · refine no 1 (-1) ?_ ?_
        · unfold g_X11_angle g_X11_refused
          rw [X5_isMark, k1, b_sm, bi_t h1, if_neg o1, X5_isMark, k1, b_sm, bi_t h2, if_neg o1, X5_isMark, k1, b_sm, bi_f h3, if_pos rfl]
          rfl
        · unfold g_X14_angle g_X14_refused
          rw [X14_isMark, r4', b_sm, bi_t h1, if_neg o1, X14_isMark, r4', b_sm, bi_t h2, if_neg o1, X14_isMark, r4', b_sm, bi_f h3, if_pos rfl]
          rfl
    · refine no 1 (-1) ?_ ?_
      · unfold g_X11_angle g_X11_refused
        rw [X5_isMark, k1, b_sm, bi_t h1, if_neg o1, X5_isMark, k1, b_sm, bi_f h2, if_pos rfl]
        rfl
      · unfold g_X14_angle g_X14_refused
        rw [X14_isMark, r4', b_sm, bi_t h1, if_neg o1, X14_isMark, r4', b_sm, bi_f h2, if_pos rfl]
        rfl
  · refine no 1 (-1) ?_ ?_
    · unfold g_X11_angle g_X11_refused
      rw [X5_isMark, k1, b_sm, bi_f h1, if_pos rfl]
      rfl
    · unfold g_X14_angle g_X14_refused
      rw [X14_isMark, r4', b_sm, bi_f h1, if_pos rfl]
      rfl
/-- what counting tells of an angle rests on where that angle is alone -/
def eqN (m m' : rf_m) (a : Nat) : Prop := (∀ c, 220 ≤ c ∧ c ≤ 224 → m'.1 c = m.1 c) ∧ m'.1 217 a = m.1 217 a ∧ m'.1 206 17 = m.1 206 17 ∧ m'.1 206 18 = m.1 206 18 ∧ ∀ N d, stkV m' N d = stkV m N d
theorem N_rdl {m m' : rf_m} {a : Nat} (h : eqN m m' a) : rdl m' a = rdl m a := by unfold rdl; rw [h.1 220 (by omega), h.2.2.1]
theorem N_ok {m m' : rf_m} {a : Nat} (h : eqN m m' a) (d : Int32) : okP m' d = okP m d := by funext r; unfold okP; rw [h.1 221 (by omega), h.1 224 (by omega)]
theorem N_srt {m m' : rf_m} {a : Nat} (h : eqN m m' a) (d : Int32) (l : List Nat) : srt m' d l = srt m d l := by
  have : srS m' d = srS m d := by funext s r; unfold srS; rw [N_ok h, h.1 221 (by omega)]
  unfold srt; rw [this]
theorem N_mid {m m' : rf_m} {a : Nat} (h : eqN m m' a) (d : Int32) : midV m' d a = midV m d a := by unfold midV; rw [N_rdl h, N_srt h]
theorem N_nm {m m' : rf_m} {a : Nat} (h : eqN m m' a) (d : Int32) (r : Nat) : nmV m' d a r = nmV m d a r := by
  funext i
  unfold nmV
  rw [N_mid h, N_rdl h, N_srt h, h.1 221 (by omega), h.1 222 (by omega), h.1 223 (by omega), h.2.1]
theorem N_sk {m m' : rf_m} {a : Nat} (h : eqN m m' a) (d : Int32) (r : Nat) : skV m' d a r = skV m d a r := by
  unfold skV
  rw [N_nm h, h.1 224 (by omega), h.2.2.2.2]
theorem N_sv {w : rf_w} {m m' : rf_m} {a : Nat} (h : eqN m m' a) (hlg : m'.1 ((w.2.2 1).getD 0) = m.1 ((w.2.2 1).getD 0)) (r : Nat) (d : Int32) : svV w m' r d = svV w m r d := by
  unfold svV lgR lgD lgI
  rw [hlg, h.2.2.2.1]
theorem N_kp {w : rf_w} {m m' : rf_m} {a : Nat} (h : eqN m m' a) (hlg : m'.1 ((w.2.2 1).getD 0) = m.1 ((w.2.2 1).getD 0)) (d : Int32) (r : Nat) : keptP w m' d a r = keptP w m d a r := by unfold keptP; rw [N_ok h, N_sv h hlg, N_sk h]
theorem N_fre {w : rf_w} {m m' x : rf_m} {a : Nat} (h : eqN m m' a) (hlg : m'.1 ((w.2.2 1).getD 0) = m.1 ((w.2.2 1).getD 0)) (j : fre w m x a) : fre w m' x a := by
  have kt : kpt w m' 9999 a = kpt w m 9999 a := by
    have : kpS w m' 9999 a = kpS w m 9999 a := by funext s r; unfold kpS; rw [N_kp h hlg]
    unfold kpt kpl; rw [N_rdl h, this]
  refine ⟨?_, fun r hr => ?_⟩
  · have := j.1
    unfold tal meanV sprV loV hiV smL loL hiL at this ⊢
    rw [kt, N_rdl h, N_srt h, N_mid h, h.1 221 (by omega)]
    exact this
  · rw [N_rdl h] at hr
    have := j.2 r hr
    unfold fact4 strV offV at this ⊢
    rw [N_sv h hlg, N_sk h, N_kp h hlg, N_ok h, N_mid h, h.1 221 (by omega)]
    exact this
end PBK7
