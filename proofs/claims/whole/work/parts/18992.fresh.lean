/-! what counting tells doesn't depend on what the class keeps of it; freshening -/
section PBFresh
def eqB (m m' : rf_m) : Prop := (∀ c, (19 ≤ c ∧ c ≤ 24) ∨ c = 217 ∨ (220 ≤ c ∧ c ≤ 225) ∨ 306 ≤ c → m'.1 c = m.1 c) ∧ m'.1 206 17 = m.1 206 17 ∧ m'.1 206 18 = m.1 206 18 ∧ m'.1 206 39 = m.1 206 39
def lOK (w : rf_w) : Prop := (w.2.2 1).getD 0 = 225 ∨ 306 ≤ (w.2.2 1).getD 0
theorem JStr_l {c : Nat} {w : rf_w} {m : rf_m} (j : JStr c w m) : lOK w := by
  obtain ⟨l, len, j1, _, j3, _⟩ := j
  unfold lOK; rw [j1]; exact j3
theorem B_rdl {m m' : rf_m} (h : eqB m m') (a : Nat) : rdl m' a = rdl m a := by unfold rdl; rw [h.1 220 (by omega), h.2.1]
theorem B_ok {m m' : rf_m} (h : eqB m m') (d : Int32) : okP m' d = okP m d := by funext r; unfold okP; rw [h.1 221 (by omega), h.1 224 (by omega)]
theorem B_srt {m m' : rf_m} (h : eqB m m') (d : Int32) (l : List Nat) : srt m' d l = srt m d l := by
  have : srS m' d = srS m d := by funext s r; unfold srS; rw [B_ok h, h.1 221 (by omega)]
  unfold srt; rw [this]
theorem B_mid {m m' : rf_m} (h : eqB m m') (d : Int32) (a : Nat) : midV m' d a = midV m d a := by unfold midV; rw [B_rdl h, B_srt h]
theorem B_nm {m m' : rf_m} (h : eqB m m') (d : Int32) (a r : Nat) : nmV m' d a r = nmV m d a r := by
  funext i
  unfold nmV
  rw [B_mid h, B_rdl h, B_srt h, h.1 221 (by omega), h.1 222 (by omega), h.1 223 (by omega), h.1 217 (by omega)]
theorem B_sk {m m' : rf_m} (h : eqB m m') (d : Int32) (a r : Nat) : skV m' d a r = skV m d a r := by
  unfold skV stkV dueP tstP
  rw [B_nm h, h.1 224 (by omega), h.1 19 (by omega), h.1 20 (by omega), h.1 21 (by omega), h.1 22 (by omega), h.1 23 (by omega), h.1 24 (by omega), h.2.2.2]
theorem B_sv {w : rf_w} {m m' : rf_m} (hl : lOK w) (h : eqB m m') (r : Nat) (d : Int32) : svV w m' r d = svV w m r d := by
  unfold svV lgR lgD lgI
  rw [h.1 _ (by unfold lOK at hl; omega), h.2.2.1]
theorem B_kp {w : rf_w} {m m' : rf_m} (hl : lOK w) (h : eqB m m') (d : Int32) (a r : Nat) : keptP w m' d a r = keptP w m d a r := by unfold keptP; rw [B_ok h, B_sv hl h, B_sk h]
theorem B_kpt {w : rf_w} {m m' : rf_m} (hl : lOK w) (h : eqB m m') (d : Int32) (a : Nat) : kpt w m' d a = kpt w m d a := by
  have : kpS w m' d a = kpS w m d a := by funext s r; unfold kpS; rw [B_kp hl h]
  unfold kpt kpl; rw [B_rdl h, this]
theorem B_tal {w : rf_w} {m m' : rf_m} (hl : lOK w) (h : eqB m m') (x : rf_m) (d : Int32) (a : Nat) : tal w m' x d a = tal w m x d a := by
  unfold tal meanV sprV loV hiV smL loL hiL
  rw [B_kpt hl h, B_rdl h, B_srt h, B_mid h, h.1 221 (by omega)]
theorem B_f4 {w : rf_w} {m m' : rf_m} (hl : lOK w) (h : eqB m m') (x : rf_m) (d : Int32) (a r : Nat) : fact4 w m' x d a r = fact4 w m x d a r := by
  unfold fact4 strV offV
  rw [B_sv hl h, B_sk h, B_kp hl h, B_ok h, B_mid h, h.1 221 (by omega)]
/-- the days of readings -/
def JDay (m : rf_m) : Prop := (∀ i, iv 0 9999 (m.1 224 i)) ∧ m.1 206 5 ≤ 9999
theorem day_ok {m : rf_m} (j : JDay m) : okP m 10000 = okP m 9999 := by
  funext r
  have := j.1 r
  unfold okP
  have e1 : (m.1 224 r ≤ 10000) = True := eq_true (by unfold iv at this; grind)
  have e2 : (m.1 224 r ≤ 9999) = True := eq_true this.2
  rw [e1, e2]
theorem day_srt {m : rf_m} (j : JDay m) (l : List Nat) : srt m 10000 l = srt m 9999 l := by
  have : srS m 10000 = srS m 9999 := by funext s r; unfold srS; rw [day_ok j]
  unfold srt; rw [this]
theorem day_mid {m : rf_m} (j : JDay m) (a : Nat) : midV m 10000 a = midV m 9999 a := by unfold midV; rw [day_srt j]
theorem day_sk {m : rf_m} (j : JDay m) (a r : Nat) : skV m 10000 a r = skV m 9999 a r := by
  have : nmV m 10000 a r = nmV m 9999 a r := by funext i; unfold nmV; rw [day_mid j, day_srt j]
  unfold skV; rw [this]
theorem day_sv {c : Nat} {w : rf_w} {m : rf_m} (j : JDay m) (js : JStr c w m) (r : Nat) : svV w m r 10000 = svV w m r 9999 := by
  obtain ⟨l, len, j1, j2, j3, j4, j5, j6, j7, j8, j9, ja⟩ := js
  have el : (w.2.2 1).getD 0 = l := by rw [j1]; rfl
  unfold svV
  rw [el]
  have key : ∀ s, s ≤ (m.1 206 18).toNatClampNeg → strk (lgR m l) (lgD m l) (lgI m l) (Int32.ofNat r) 10000 s = strk (lgR m l) (lgD m l) (lgI m l) (Int32.ofNat r) 9999 s := by
    intro s
    induction s with
    | zero => intro _; rfl
    | succ s ih =>
      intro hs
      have b := (j9 s (by omega)).2.2.2.1
      have t := j.2
      unfold strk
      rw [ih (by omega)]
      have b1 : lgD m l s ≤ 10000 := by clear j9 ja j; grind
      have b2 : lgD m l s ≤ 9999 := by clear j9 ja j; grind
      by_cases p : lgR m l s = Int32.ofNat r
      · rw [if_pos ⟨p, b1⟩, if_pos ⟨p, b2⟩]
      · rw [if_neg (fun z => p z.1), if_neg (fun z => p z.1)]
  exact key _ (Nat.le_refl _)
theorem day_kp {c : Nat} {w : rf_w} {m : rf_m} (j : JDay m) (js : JStr c w m) (a r : Nat) : keptP w m 10000 a r = keptP w m 9999 a r := by unfold keptP; rw [day_ok j, day_sv j js, day_sk j]
theorem day_kpt {c : Nat} {w : rf_w} {m : rf_m} (j : JDay m) (js : JStr c w m) (a : Nat) : kpt w m 10000 a = kpt w m 9999 a := by
  have : kpS w m 10000 a = kpS w m 9999 a := by funext s r; unfold kpS; rw [day_kp j js]
  unfold kpt kpl; rw [this]
theorem day_go {c : Nat} {w : rf_w} {m : rf_m} (j : JDay m) (js : JStr c w m) (x : rf_m) (a : Nat) : goP w m x 10000 a = goP w m x 9999 a := by
  unfold goP meanV loV hiV
  rw [day_srt j, day_mid j]
  simp only [day_kpt j js]
/-- what the class keeps of its counting is right where it isn't stale -/
def fre (w : rf_w) (m m1 : rf_m) (a : Nat) : Prop := tal w m m1 9999 a ∧ ∀ r, r ∈ rdl m a → fact4 w m m1 9999 a r
def JCache (w : rf_w) (m : rf_m) : Prop := (∀ a, a < (m.1 206 16).toNatClampNeg → m.1 40 a = 0 → fre w m m a) ∧ (m.1 26 19 = 0 → ∀ a, a < (m.1 206 16).toNatClampNeg → m.1 40 a = 0)
/-- m1 is m but for what the class keeps, and that is right -/
def frB (w : rf_w) (m m1 : rf_m) : Prop := bas m m1 ∧ (∀ a, a < (m.1 206 16).toNatClampNeg → m1.1 40 a = 0 → fre w m m1 a)
theorem rds_of {f : Nat → Int32} {a : Int32} : ∀ n r, r < n → f r = a → r ∈ rds f a n := by
  intro n
  induction n with
  | zero => intro r h; omega
  | succ n ih =>
    intro r h e
    unfold rds
    by_cases q : r = n
    · subst q
      rw [if_pos e]
      exact List.mem_append.mpr (Or.inr (List.mem_singleton.mpr rfl))
    · have := ih r (by omega) e
      split
      · exact List.mem_append.mpr (Or.inl this)
      · exact this
theorem rc_fr {w : rf_w} {m m1 m2 : rf_m} {a : Nat} (j : JRead m) (ha : a < 80) (h : frB w m m1) (hr : rcP w m m1 m2 9999 a) : frB w m m2 ∧ m2.1 40 a = 0 ∧ (∀ b, b ≠ a → m2.1 40 b = m1.1 40 b) := by
  obtain ⟨⟨b0, b1, b2⟩, hf⟩ := h
  obtain ⟨r0, r1, r2, r3, r4, r5, r6, r7⟩ := hr
  refine ⟨⟨⟨fun c h1 h2 h3 h4 h5 h6 h7 => by rw [r0 c h1 h2 h3 h4 h5 h6 h7]; exact b0 c h1 h2 h3 h4 h5 h6 h7, fun r hr k hk => by rw [r1 r hr k hk]; exact b1 r hr k hk, fun b hb => ?_⟩, fun b hb hs => ?_⟩, r4, fun b hb => (r2 b hb).2.1⟩
  · by_cases e : b = a
    · rw [e, r3]; exact b2 a ha
    · rw [(r2 b e).2.2 6 (by omega)]; exact b2 b hb
  · by_cases e : b = a
    · rw [e]; exact ⟨r5, r6⟩
    · rw [(r2 b e).2.1] at hs
      obtain ⟨t, f⟩ := hf b hb hs
      have q := (r2 b e).2.2
      refine ⟨?_, fun r hr => ?_⟩
      · unfold tal at t ⊢
        rw [(r2 b e).1, q 1 (by omega), q 2 (by omega), q 3 (by omega), q 4 (by omega), q 5 (by omega), q 7 (by omega), q 8 (by omega)]
        exact t
      · have hh := f r hr
        have hrl := rds_lt _ _ hr
        have hn : (m.1 206 17).toNatClampNeg ≤ 1200 := tn_le j.2.1.1 j.2.1.2 (by decide)
        have hna : r ∉ rdl m a := fun z => by
          have := (rds_lt _ _ z).2
          rw [hrl.2] at this
          have hb2 : b < 2147483648 := by have := Int32.toNatClampNeg_lt (m.1 206 16); omega
          exact e ((of_inj hb2 (by omega)).mp this)
        unfold fact4 at hh ⊢
        rw [r7 r (by omega) hna 5 (by omega), r7 r (by omega) hna 6 (by omega), r7 r (by omega) hna 7 (by omega), r7 r (by omega) hna 8 (by omega)]
        exact hh
end PBFresh
