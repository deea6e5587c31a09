/-! rule: the world behind it, and what it leaves -/
section PBRuleW
variable {w w' : rf_w} {m M : rf_m} {cc R c : Nat}
theorem wr_1 : (rf_wrule w R).1 = w.1 + 3 := rfl
theorem wr_21 {k : Nat} (h : k < w.1) : (rf_wrule w R).2.1 k = w.2.1 k := by
  show (if k = w.1 + 1 + 1 then _ else if k = w.1 + 1 then _ else if k = w.1 then _ else w.2.1 k) = _
  rw [if_neg (by omega), if_neg (by omega), if_neg (by omega)]
theorem wr_new : (rf_wrule w R).2.1 w.1 = some (.inr 12) ∧ (rf_wrule w R).2.1 (w.1 + 1) = some (.inl (.int, 300)) ∧ (rf_wrule w R).2.1 (w.1 + 2) = some (.inl (.int, 300)) := by
  refine ⟨?_, ?_, ?_⟩
  · show (if w.1 = w.1 + 1 + 1 then _ else if w.1 = w.1 + 1 then _ else if w.1 = w.1 then _ else w.2.1 w.1) = _
    rw [if_neg (by omega), if_neg (by omega), if_pos rfl]
  · show (if w.1 + 1 = w.1 + 1 + 1 then _ else if w.1 + 1 = w.1 + 1 then _ else if w.1 + 1 = w.1 then _ else w.2.1 (w.1 + 1)) = _
    rw [if_neg (by omega), if_pos rfl]
  · show (if w.1 + 2 = w.1 + 1 + 1 then _ else if w.1 + 2 = w.1 + 1 then _ else if w.1 + 2 = w.1 then _ else w.2.1 (w.1 + 2)) = _
    rw [if_pos (by omega)]
theorem sh_at {v : rf_w} {k : Nat} : rf_at (rf_sh v) k = bif Nat.ble k 305 then some (rf_s k) else v.2.1 k := rfl
theorem sh_hi {v : rf_w} {k : Nat} (h : 306 ≤ k) : rf_at (rf_sh v) k = v.2.1 k := by
  rw [sh_at]
  have : Nat.ble k 305 = false := by
    cases q : Nat.ble k 305
    · rfl
    · have := Nat.le_of_ble_eq_true q; omega
  rw [this]
  rfl
theorem wr_at {k : Nat} (h : k < w.1) : rf_at (rf_sh (rf_wrule w R)) k = rf_at (rf_sh w) k := by rw [sh_at, sh_at, wr_21 h]
theorem wr_22 {i : Nat} (h0 : i ≠ 0) (hR : i ≠ R + 2) : (rf_wrule w R).2.2 i = w.2.2 i := by
  show (if i = 0 then _ else if i = R + 2 then _ else w.2.2 i) = _
  rw [if_neg h0, if_neg hR]
theorem wr_R : (rf_wrule w R).2.2 (R + 2) = w.2.2 0 := by
  show (if R + 2 = 0 then some w.1 else if R + 2 = R + 2 then w.2.2 0 else w.2.2 (R + 2)) = _
  rw [if_neg (by omega), if_pos rfl]
theorem wr_rob (h : 306 ≤ w.1) : rob (rf_wrule w R) w.1 := by
  obtain ⟨n1, n2, n3⟩ := wr_new (w := w) (R := R)
  have z : ∀ i, rf_Rt (rf_wrule w R) w.1 i = rf_rz (rf_wrule w R) w.1 i := fun i => Rt_hi h
  have z5 : rf_rz (rf_wrule w R) w.1 5 = some (w.1 + 1) := by unfold rf_rz; rw [n1]; rfl
  have z6 : rf_rz (rf_wrule w R) w.1 6 = some (w.1 + 2) := by unfold rf_rz; rw [n1]; rfl
  refine ⟨?_, ?_, ?_, ?_, ?_, Or.inr h⟩
  · unfold rf_isO; rw [sh_hi h, n1]; exact decide_eq_true rfl
  · unfold rf_isR; rw [z, z5]; exact decide_eq_true rfl
  · unfold rf_isA; rw [sh_hi (by omega), n2]; exact decide_eq_true rfl
  · unfold rf_isR; rw [z, z6]; exact decide_eq_true rfl
  · unfold rf_isA; rw [sh_hi (by omega), n3]; exact decide_eq_true rfl
theorem wr_old {k : Nat} (hr : rob w k) (hk : k + 2 < w.1) : rob (rf_wrule w R) k := rob_w hr (fun z hz => wr_at (by omega)) (fun _ => wr_21 (by omega))
theorem wr_al {l : Nat} (h : l < w.1) : rf_al (rf_wrule w R) l = rf_al w l := by
  unfold rf_al
  rw [wr_at h]
/-- the cells of the rules and of the fresh one are different ones -/
theorem jw_inj (jw : JW cc w m) : JInj w m := by
  intro r r' k hr hr' h h'
  by_cases e : r = r'
  · exact e
  · exfalso
    have := jw.2.2.2.2 (r + 2) (r' + 2) k k (Or.inr ⟨by omega, by omega⟩) (Or.inr ⟨by omega, by omega⟩) (by omega) h h'
    omega
/-- what neither reading nor keeping a rule touches -/
def ruF (w w' : rf_w) (m M : rf_m) : Prop := (∀ z, z < 306 → z ≠ 0 → z ≠ 13 → z ≠ 14 → z ≠ 16 → z ≠ 17 → (z < 19 ∨ 24 < z) → z ≠ 26 → z ≠ 40 → z ≠ 206 → (z < 230 ∨ 233 < z) → M.1 z = m.1 z) ∧ (∀ k, k ≠ 11 → k ≠ 12 → k ≠ 13 → M.1 0 k = m.1 0 k) ∧ (∀ k, k ≠ 2 → k ≠ 3 → M.1 13 k = m.1 13 k) ∧ (∀ k, k ≠ 19 → M.1 26 k = m.1 26 k) ∧ (∀ k, (3 < k ∧ k ≠ 39 ∧ k < 44) ∨ 52 < k → M.1 206 k = m.1 206 k) ∧ (∀ z k, z < 306 → z ≠ 14 → z ≠ 16 → z ≠ 17 → ¬ (z = 206 ∧ k = 53) → M.2 z k = m.2 z k) ∧ (∀ l, w.2.2 1 = some l → M.1 l = m.1 l) ∧ w'.2.2 1 = w.2.2 1 ∧ (∀ l, w.2.2 1 = some l → rf_al w' l = rf_al w l)
theorem ru_base (J : JCnt cc w m) (jl : JLg w m) (h : ruF w w' m M) : JRead M ∧ JStr cc w' M ∧ JAng M ∧ JMark M ∧ JDay M ∧ JLg w' M := by
  obtain ⟨h0, _, _, h26, h206, _, hl, w1, wal⟩ := h
  obtain ⟨hcc, j, js, ju, ja, jm, jd⟩ := J
  have g : ∀ z, (z < 306 ∧ z ≠ 0 ∧ z ≠ 13 ∧ z ≠ 14 ∧ z ≠ 16 ∧ z ≠ 17 ∧ (z < 19 ∨ 24 < z) ∧ z ≠ 26 ∧ z ≠ 40 ∧ z ≠ 206 ∧ (z < 230 ∨ 233 < z)) → M.1 z = m.1 z := fun z q => h0 z q.1 q.2.1 q.2.2.1 q.2.2.2.1 q.2.2.2.2.1 q.2.2.2.2.2.1 q.2.2.2.2.2.2.1 q.2.2.2.2.2.2.2.1 q.2.2.2.2.2.2.2.2.1 q.2.2.2.2.2.2.2.2.2.1 q.2.2.2.2.2.2.2.2.2.2
  obtain ⟨l, len, j1, j2, j3, j4, js⟩ := js
  have el : M.1 l = m.1 l := hl l j1
  refine ⟨?_, ⟨l, len, w1.trans j1, (wal l j1).trans j2, j3, j4, ?_⟩, ?_, ?_, ?_, fun l' hl' i hi => ?_⟩
  · unfold JRead rdl at *
    rw [h26 7 (by decide), h206 17 (by decide), h206 16 (by decide), g 220 (by decide), g 221 (by decide), g 222 (by decide), g 223 (by decide), g 224 (by decide), g 32 (by decide), g 33 (by decide), g 34 (by decide)]
    exact j
  · have r1 : lgR M l = lgR m l := by unfold lgR; rw [el]
    have r2 : lgD M l = lgD m l := by unfold lgD; rw [el]
    have r3 : lgI M l = lgI m l := by unfold lgI; rw [el]
    rw [h26 17 (by decide), h206 18 (by decide), h206 17 (by decide), h206 5 (by decide), g 36 (by decide), g 37 (by decide), g 38 (by decide), g 39 (by decide), g 216 (by decide), r1, r2, r3]
    exact js
  · unfold JAng at *
    rw [h26 6 (by decide), h206 16 (by decide), h206 4 (by decide), g 28 (by decide), g 29 (by decide), g 30 (by decide), g 217 (by decide), g 218 (by decide), g 219 (by decide)]
    exact ja
  · unfold JMark at *
    rw [g 1 (by decide), h206 4 (by decide), g 4 (by decide), g 5 (by decide), g 209 (by decide), g 214 (by decide)]
    exact jm
  · unfold JDay at *
    rw [g 224 (by decide), h206 5 (by decide)]
    exact jd
  · have hl'' : w.2.2 1 = some l' := by rw [← w1]; exact hl'
    have : l' = l := by rw [j1] at hl''; exact (Option.some.inj hl'').symm
    subst this
    rw [h206 18 (by decide)] at hi
    rw [el, h206 17 (by decide)]
    exact jl l' j1 i hi
theorem str_m {a b : Nat} (h : JStr a w m) (hab : a ≤ b) : JStr b w m := by
  obtain ⟨l, len, j1, j2, j3, j4, j5, j6, j7, js⟩ := h
  exact ⟨l, len, j1, j2, j3, j4, j5, j6, Nat.le_trans j7 hab, js⟩
theorem fre_w {m1 : rf_m} {a : Nat} (h : w'.2.2 1 = w.2.2 1) (j : fre w m m1 a) : fre w' m m1 a := by
  have s : ∀ r d, svV w' m r d = svV w m r d := fun r d => by unfold svV; rw [h]
  have k : ∀ d a r, keptP w' m d a r = keptP w m d a r := fun d a r => by unfold keptP; rw [s]
  have t : ∀ d a, kpt w' m d a = kpt w m d a := fun d a => by
    have : kpS w' m d a = kpS w m d a := by funext s r; unfold kpS; rw [k]
    unfold kpt kpl; rw [this]
  obtain ⟨j1, j2⟩ := j
  refine ⟨?_, fun r hr => ?_⟩
  · unfold tal meanV sprV loV hiV smL loL hiL at j1 ⊢
    rw [t]
    exact j1
  · have := j2 r hr
    unfold fact4 strV offV at this ⊢
    rw [s, k]
    exact this
/-- the class's keepings stay right where no rule that strikes has come -/
theorem ru_cache (J : JCnt cc w m) (jc : JCache w m) (h : ruF w w' m M) (hs : ∀ N d, stkV M N d = stkV m N d) (h40 : M.1 40 = m.1 40) (h19 : M.1 26 19 = m.1 26 19) : JCache w' M := by
  obtain ⟨h0, _, _, h26, h206, _, hl, w1, wal⟩ := h
  have g : ∀ z, (z < 306 ∧ z ≠ 0 ∧ z ≠ 13 ∧ z ≠ 14 ∧ z ≠ 16 ∧ z ≠ 17 ∧ (z < 19 ∨ 24 < z) ∧ z ≠ 26 ∧ z ≠ 40 ∧ z ≠ 206 ∧ (z < 230 ∨ 233 < z)) → M.1 z = m.1 z := fun z q => h0 z q.1 q.2.1 q.2.2.1 q.2.2.2.1 q.2.2.2.2.1 q.2.2.2.2.2.1 q.2.2.2.2.2.2.1 q.2.2.2.2.2.2.2.1 q.2.2.2.2.2.2.2.2.1 q.2.2.2.2.2.2.2.2.2.1 q.2.2.2.2.2.2.2.2.2.2
  obtain ⟨l, len, j1, _⟩ := J.2.2.1
  have hS : eqS w m M := by
    refine ⟨fun z hz => g z (by omega), h206 17 (by decide), h206 18 (by decide), ?_, hs⟩
    have el : (w.2.2 1).getD 0 = l := by rw [j1]; rfl
    rw [el]
    exact hl l j1
  unfold JCache
  rw [h206 16 (by decide), h40, h19]
  refine ⟨fun a ha hz => ?_, jc.2⟩
  have := fre_of (m2 := M) (jc.1 a ha hz) (g 31 (by decide)) (g 32 (by decide)) (g 34 (by decide))
  refine fre_w w1 ⟨?_, fun r hr => ?_⟩
  · rw [S_tal hS]; exact this.1
  · rw [S_f4 hS]
    rw [S_rdl hS] at hr
    exact this.2 r hr
theorem fst_c {P Q : Nat → Prop} {d : Int32} : ∀ n i, (∀ j, i ≤ j → j < i + n → (P j ↔ Q j)) → fstI P d n i = fstI Q d n i := by
  intro n
  induction n with
  | zero => intro i _; rfl
  | succ n ih =>
    intro i h
    have h0 := h i (Nat.le_refl _) (by omega)
    by_cases p : P i
    · rw [fstI_t p, fstI_t (h0.mp p)]
    · rw [fstI_f p, fstI_f (fun z => p (h0.mpr z))]
      exact ih (i + 1) (fun j h1 h2 => h j (by omega) (by omega))
theorem fst_s {P : Nat → Prop} {d : Int32} : ∀ n i, ¬ P (i + n) → fstI P d (n + 1) i = fstI P d n i := by
  intro n
  induction n with
  | zero => intro i h; have h' : ¬ P i := h; rw [fstI_f h']; unfold fstI; rfl
  | succ n ih =>
    intro i h
    by_cases p : P i
    · rw [fstI_t p, fstI_t p]
    · rw [fstI_f p, fstI_f p]
      exact ih (i + 1) (by rw [show i + 1 + n = i + (n + 1) by omega]; exact h)
theorem runA_d {N : Nat → Int32} {d d' : Nat → Nat × Int} : ∀ n k s, (∀ i, k ≤ i → i < k + n → d i = d' i) → runA d N n k s = runA d' N n k s := by
  intro n
  induction n with
  | zero => intro k s _; rfl
  | succ n ih =>
    intro k s h
    unfold runA
    rw [h k (Nat.le_refl _) (by omega)]
    cases stepA N (d' k) s with
    | none => rfl
    | some s' => exact ih (k + 1) s' (fun i h1 h2 => h i (by omega) (by omega))
/-- the rows of an old rule are as they were -/
def oldR (m M : rf_m) (r : Nat) : Prop := M.1 19 r = m.1 19 r ∧ M.1 20 r = m.1 20 r ∧ M.1 21 r = m.1 21 r ∧ M.1 22 r = m.1 22 r ∧ M.1 23 r = m.1 23 r ∧ ∀ k, k < 160 → M.1 24 (160 * r + k) = m.1 24 (160 * r + k)
theorem old_ok {r k : Nat} (h : rulOK w m r k) (ho : oldR m M r) (h1 : w'.2.2 (r + 2) = w.2.2 (r + 2)) (h2 : rob w' k) (e0 : M.1 k = m.1 k) (e1 : M.1 (k + 1) = m.1 (k + 1)) (e2 : M.1 (k + 2) = m.1 (k + 2)) : rulOK w' M r k := by
  obtain ⟨o1, o2, o3, o4, o5, o6⟩ := ho
  obtain ⟨k1, k2, k3, k4, k5, k6, k7, k8, k9, ka, kb, kc⟩ := h
  have s0 : 0 ≤ m.1 23 r := by have := k7.1; have := k7.2; grind
  have n1 : (m.1 23 r).toNatClampNeg ≤ 160 := tn_le s0 k8 (by decide)
  have n2 : (m.1 22 r).toNatClampNeg ≤ (m.1 23 r).toNatClampNeg := by
    have a := tn_toInt k7.1; have b := tn_toInt s0; have d := i_le.mp k7.2; omega
  unfold rulOK
  rw [h1, e0, e1, e2, o1, o2, o3, o4, o5]
  refine ⟨k1, h2, k3, k4, k5, k6, k7, k8, k9, ka, kb, fun N hN => ?_⟩
  have kd := kc N hN
  have c1 : runA (fun k => dC (M.1 24 (160 * r + k))) N (m.1 22 r).toNatClampNeg 0 [] = runA (fun k => dC (m.1 24 (160 * r + k))) N (m.1 22 r).toNatClampNeg 0 [] := runA_d _ _ _ (fun i _ hi => by show dC (M.1 24 (160 * r + i)) = dC (m.1 24 (160 * r + i)); rw [o6 i (by omega)])
  have c2 : runA (fun k => dC (M.1 24 (160 * r + k))) N ((m.1 23 r).toNatClampNeg - (m.1 22 r).toNatClampNeg) (m.1 22 r).toNatClampNeg [] = runA (fun k => dC (m.1 24 (160 * r + k))) N ((m.1 23 r).toNatClampNeg - (m.1 22 r).toNatClampNeg) (m.1 22 r).toNatClampNeg [] := runA_d _ _ _ (fun i _ hi => by show dC (M.1 24 (160 * r + i)) = dC (m.1 24 (160 * r + i)); rw [o6 i (by omega)])
  rw [c1, c2]
  exact kd
theorem old_due {r : Nat} {N : Nat → Int32} {d : Int32} (h : ∃ k, rulOK w m r k) (ho : oldR m M r) : (dueP M r 1 d ∧ tstP M N r) ↔ (dueP m r 1 d ∧ tstP m N r) := by
  obtain ⟨k, h⟩ := h
  obtain ⟨o1, o2, o3, o4, o5, o6⟩ := ho
  obtain ⟨k1, k2, k3, k4, k5, k6, k7, k8, k9, ka, kb, kc⟩ := h
  have s0 : 0 ≤ m.1 23 r := by have := k7.1; have := k7.2; grind
  have n1 : (m.1 23 r).toNatClampNeg ≤ 160 := tn_le s0 k8 (by decide)
  have n2 : (m.1 22 r).toNatClampNeg ≤ (m.1 23 r).toNatClampNeg := by
    have a := tn_toInt k7.1; have b := tn_toInt s0; have d := i_le.mp k7.2; omega
  unfold dueP tstP
  rw [o1, o2, o3, o4, o5]
  have c2 : runA (fun k => dC (M.1 24 (160 * r + k))) N ((m.1 23 r).toNatClampNeg - (m.1 22 r).toNatClampNeg) (m.1 22 r).toNatClampNeg [] = runA (fun k => dC (m.1 24 (160 * r + k))) N ((m.1 23 r).toNatClampNeg - (m.1 22 r).toNatClampNeg) (m.1 22 r).toNatClampNeg [] := runA_d _ _ _ (fun i _ hi => by show dC (M.1 24 (160 * r + i)) = dC (m.1 24 (160 * r + i)); rw [o6 i (by omega)])
  rw [c2]
/-- the calls that make no rule -/
theorem ru_same (J : JCnt cc w m) (jc : JCache w m) (jw : JW cc w m) (jl : JLg w m) (hc : w.2.2 0 = some c) (h : ruF w w m M) (h13 : M.1 13 3 = m.1 13 3) (h39 : M.1 206 39 = m.1 206 39) (hz : ∀ z, 19 ≤ z → z ≤ 24 → M.1 z = m.1 z) (hob : ∀ z, (z = 230 ∨ z = 231 ∨ z = 232 ∨ 306 ≤ z) → z ≠ c → z ≠ c + 1 → z ≠ c + 2 → M.1 z = m.1 z) (h40 : M.1 40 = m.1 40) (h19 : M.1 26 19 = m.1 26 19) : JCnt cc w M ∧ JCache w M ∧ JW cc w M ∧ JLg w M := by
  obtain ⟨b1, b2, b3, b4, b5, b6⟩ := ru_base J jl h
  have ju := J.2.2.2.1
  have ho : ∀ r, oldR m M r := fun r => ⟨by rw [hz 19 (by decide) (by decide)], by rw [hz 20 (by decide) (by decide)], by rw [hz 21 (by decide) (by decide)], by rw [hz 22 (by decide) (by decide)], by rw [hz 23 (by decide) (by decide)], fun k _ => by rw [hz 24 (by decide) (by decide)]⟩
  refine ⟨⟨J.1, b1, b2, ⟨by rw [h13, h39]; exact ju.1, by rw [h39]; exact ju.2.1, fun r hr => ?_⟩, b3, b4, b5⟩, ?_, ?_, b6⟩
  · rw [h39] at hr
    obtain ⟨k, hk⟩ := ju.2.2 r hr
    have hd := jw.2.2.2.2 0 (r + 2) c k (Or.inl rfl) (Or.inr ⟨by omega, by omega⟩) (by omega) hc hk.1
    have k6 := hk.2.1.2.2.2.2.2
    exact ⟨k, old_ok hk (ho r) rfl hk.2.1 (hob k (by omega) (by omega) (by omega) (by omega)) (hob (k + 1) (by omega) (by omega) (by omega) (by omega)) (hob (k + 2) (by omega) (by omega) (by omega) (by omega))⟩
  · refine ru_cache J jc h (fun N d => ?_) h40 h19
    unfold stkV
    rw [h39]
    exact fst_c _ _ (fun j _ hj => old_due (ju.2.2 j (by omega)) (ho j))
  · obtain ⟨a1, a2, a3, a4, a5⟩ := jw
    refine ⟨a1, a2, a3, ?_, ?_⟩
    · rw [h39]; exact a4
    · rw [h39]; exact a5
end PBRuleW
