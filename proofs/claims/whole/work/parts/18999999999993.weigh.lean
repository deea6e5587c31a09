/-! adjust: weights and the normal equations, both sides -/
section PBWeigh
theorem w19_rng (x : Int32) : 1 ≤ (w19 x).toInt ∧ (w19 x).toInt ≤ 9 := by
  have z9 : (9 : Int32).toInt = 9 := rfl
  have z1 : (1 : Int32).toInt = 1 := rfl
  unfold w19
  by_cases h : x < 9
  · rw [if_pos h]
    have h' := i_lt.mp h
    rw [z9] at h'
    by_cases g : 1 < x
    · have g' := i_lt.mp g
      rw [z1] at g'
      rw [if_pos g]
      omega
    · rw [if_neg g, z1]; omega
  · rw [if_neg h]
    have g : (1 : Int32) < 9 := by decide
    rw [if_pos g, z9]; omega
theorem wgt_rng {m : rf_m} {N : Nat → Int32} {d : Int32} : 1 ≤ (wgtV m N d).toInt ∧ (wgtV m N d).toInt ≤ 9 := by
  unfold wgtV
  have key : ∀ n i, 1 ≤ (fstV (fun r => dueP m r 2 d ∧ tstP m N r) (fun r => w19 (tv m N r)) 1 n i).toInt ∧ (fstV (fun r => dueP m r 2 d ∧ tstP m N r) (fun r => w19 (tv m N r)) 1 n i).toInt ≤ 9 := by
    intro n
    induction n with
    | zero =>
      intro i
      have z1 : (1 : Int32).toInt = 1 := rfl
      show 1 ≤ (1 : Int32).toInt ∧ (1 : Int32).toInt ≤ 9
      omega
    | succ n ih =>
      intro i
      by_cases h : dueP m i 2 d ∧ tstP m N i
      · rw [fstV_t h]; exact w19_rng _
      · rw [fstV_f h]; exact ih (i + 1)
  exact key _ _
noncomputable def wI (w : rf_w) (m : rf_m) (t : Nat) : Int32 := wgtV m (nwV w m t) (m.1 206 5)
noncomputable def sI (w : rf_w) (m : rf_m) (t : Nat) : Int := 2520 / (wI w m t).toInt
theorem sI_rng {w : rf_w} {m : rf_m} {t : Nat} : 0 ≤ sI w m t ∧ sI w m t ≤ 2520 := by
  have r := wgt_rng (m := m) (N := nwV w m t) (d := m.1 206 5)
  unfold sI wI
  exact ⟨Int.ediv_nonneg (by decide) (by omega), Int.ediv_le_self _ (by decide)⟩
theorem sI_div {w : rf_w} {m : rf_m} {t : Nat} : (2520 / wI w m t).toInt = sI w m t ∧ ¬ wI w m t ≤ 0 ∧ rf_nz (wI w m t) = true := by
  have r : 1 ≤ (wI w m t).toInt ∧ (wI w m t).toInt ≤ 9 := wgt_rng (m := m) (N := nwV w m t) (d := m.1 206 5)
  have z : (2520 : Int32).toInt = 2520 := rfl
  refine ⟨?_, fun h => by rw [i_le, i_0] at h; omega, ?_⟩
  · rw [divI (by rw [i_lt, i_0]; omega), z, tdiv_nn (by decide) (by omega)]
    rfl
  · unfold rf_nz
    rw [Bool.not_eq_true', beq_eq_false_iff_ne]
    intro h
    rw [h, i_0] at r
    omega
def mbQ (m : rf_m) (L : List Nat) (i t : Nat) : Prop := ∃ h : i < L.length, mbK m L[i] t
noncomputable def vQ (m : rf_m) (L : List Nat) (t i : Nat) : Int := @ite Int (mbQ m L i t) (Classical.propDecidable _) 1 0
theorem vQ_t {m : rf_m} {L : List Nat} {t i : Nat} (h : mbQ m L i t) : vQ m L t i = 1 := if_pos h
theorem vQ_f {m : rf_m} {L : List Nat} {t i : Nat} (h : ¬ mbQ m L i t) : vQ m L t i = 0 := if_neg h
noncomputable def tQ (w : rf_w) (m : rf_m) (L : List Nat) (i j t : Nat) : Int := sI w m t * (vQ m L t i * vQ m L t j)
noncomputable def aN (w : rf_w) (m : rf_m) (L : List Nat) (j i : Nat) : Int := sm (m.1 206 16).toNatClampNeg (tQ w m L i j)
noncomputable def bN (w : rf_w) (m : rf_m) (L : List Nat) (i : Nat) : Int := if h : i < L.length then - (msK w m L[i]).toInt else 0
theorem tQ_v {w : rf_w} {m : rf_m} {L : List Nat} {i j t : Nat} : (mbQ m L i t → mbQ m L j t → tQ w m L i j t = sI w m t) ∧ (¬ (mbQ m L i t ∧ mbQ m L j t) → tQ w m L i j t = 0) := by
  unfold tQ
  constructor
  · intro h1 h2
    rw [vQ_t h1, vQ_t h2]; omega
  · intro h
    by_cases h1 : mbQ m L i t
    · rw [vQ_f (fun h2 => h ⟨h1, h2⟩)]; omega
    · rw [vQ_f h1]; omega
theorem tQ_rng {w : rf_w} {m : rf_m} {L : List Nat} {i j t : Nat} : 0 ≤ tQ w m L i j t ∧ tQ w m L i j t ≤ 2520 := by
  have r := sI_rng (w := w) (m := m) (t := t)
  by_cases h : mbQ m L i t ∧ mbQ m L j t
  · rw [tQ_v.1 h.1 h.2]; exact r
  · rw [tQ_v.2 h]; omega
theorem sm_rng {f : Nat → Int} : ∀ n, (∀ t, 0 ≤ f t ∧ f t ≤ 2520) → 0 ≤ sm n f ∧ sm n f ≤ 2520 * (n : Int) := by
  intro n
  induction n with
  | zero => intro _; exact ⟨Int.le_refl _, by show (0 : Int) ≤ 2520 * ((0 : Nat) : Int); decide⟩
  | succ n ih =>
    intro h
    obtain ⟨h1, h2⟩ := ih h
    have := h n
    have e : ((n + 1 : Nat) : Int) = (n : Int) + 1 := by omega
    show 0 ≤ sm n f + f n ∧ sm n f + f n ≤ _
    rw [e]
    omega
theorem aN_rng {w : rf_w} {m : rf_m} {L : List Nat} {i j : Nat} (ja : JAng m) : 0 ≤ aN w m L j i ∧ aN w m L j i ≤ 201600 := by
  have h80 := ang80 ja
  have := sm_rng (f := tQ w m L i j) (m.1 206 16).toNatClampNeg (fun t => tQ_rng)
  unfold aN
  omega
theorem nrm_ok {c : Nat} {w : rf_w} {m : rf_m} {L : List Nat} (J : JCnt c w m) (jn : JNet m) (ok : ∀ q, q ∈ L → okK m q ∧ msK w m q ≠ -2147483648) : nrmB (aN w m L) (bN w m L) := by
  refine ⟨fun j i => ?_, fun i => ?_⟩
  · have := aN_rng (w := w) (L := L) (i := i) (j := j) J.2.2.2.2.1
    unfold mg; rw [if_neg (by omega)]; omega
  · unfold bN
    split
    · rename_i h
      obtain ⟨o1, o2⟩ := ok _ (List.getElem_mem h)
      rcases msK_rng J jn o1 with e | e
      · exact absurd e o2
      · rw [mg_neg]; unfold mg; split <;> omega
    · decide
/-- the class's weights -/
def weF (X Y : rf_m) : Prop := (∀ z, z ≠ 18 → z ≠ 57 → Y.1 z = X.1 z) ∧ ∀ z, z ≠ 18 → z ≠ 25 → Y.2 z = X.2 z
theorem fr_wt {m m' : rf_m} (h : fr S_X3_weightOf m m') : ∀ z, z ≠ 18 → z ≠ 25 → m'.2 z = m.2 z := fun z h1 h2 => funext fun k => (h z k (by
  have e : ∀ a : Nat, z ≠ a → (Nat.ble a z && (Nat.beq a 0 || Nat.ble z a)) = false ∨ a = 0 := fun a ha => by
    by_cases q : a ≤ z
    · have : Nat.ble z a = false := by
        cases e : Nat.ble z a with
        | false => rfl
        | true => have := Nat.le_of_ble_eq_true e; omega
      by_cases q0 : a = 0
      · exact Or.inr q0
      · have b0 : Nat.beq a 0 = false := by
          cases e : Nat.beq a 0 with
          | false => rfl
          | true => exact absurd (Nat.eq_of_beq_eq_true e) q0
        rw [this, b0]
        exact Or.inl (by rw [Bool.or_false, Bool.and_false])
    · have : Nat.ble a z = false := by
        cases e : Nat.ble a z with
        | false => rfl
        | true => exact absurd (Nat.le_of_ble_eq_true e) q
      rw [this]
      exact Or.inl (Bool.false_and _)
  rcases e 18 h1 with e1 | e1
  · rcases e 25 h2 with e2 | e2
    · show ((Nat.ble 18 z && (Nat.beq 18 0 || Nat.ble z 18)) && true || ((Nat.ble 25 z && (Nat.beq 25 0 || Nat.ble z 25)) && true || false)) = false
      rw [e1, e2]
      rfl
    · omega
  · omega)).2
theorem keep_18' {m X Y : rf_m} (h : keep m X) (f : weF X Y) : keep m Y := ⟨fun c hc => by rw [f.1 c (by omega) (by omega)]; exact h.1 c hc, fun k hk => by rw [f.1 26 (by decide) (by decide)]; exact h.2.1 k hk, fun k hk => by rw [f.1 206 (by decide) (by decide)]; exact h.2.2.1 k hk, fun r hr k hk => by rw [f.1 32 (by decide) (by decide)]; exact h.2.2.2.1 r hr k hk, fun a ha => by rw [f.1 34 (by decide) (by decide)]; exact h.2.2.2.2 a ha⟩
theorem tal_we {w : rf_w} {m X Y : rf_m} {a : Nat} (h : tal w m X 9999 a) (f : weF X Y) : tal w m Y 9999 a := by
  unfold tal at *
  rw [f.1 31 (by decide) (by decide), f.1 34 (by decide) (by decide)]
  exact h
theorem weigh_c {c : Nat} {w : rf_w} {m X : rf_m} (J : JCnt c w m) (hk : keep m X) (ht : ∀ a, a < (m.1 206 16).toNatClampNeg → tal w m X 9999 a) : ∃ X', g_X0_weigh w X (m.1 206 5) = some X' ∧ weF X X' ∧ (∀ a, a < (m.1 206 16).toNatClampNeg → (X'.1 57 a).toInt = if X.1 56 a = 0 then 2520 else sI w m a) ∧ ∀ a, (m.1 206 16).toNatClampNeg ≤ a → X'.1 57 a = X.1 57 a := by
  obtain ⟨FU, hF, hFb⟩ := fuel_ex
  have ja := J.2.2.2.2.1
  have h80 := ang80 ja
  have hR := of_tn ja.2.1.1
  have key : ∀ r f i (Y : rf_m), i + r = (m.1 206 16).toNatClampNeg → r < f → weF X Y → (∀ a, a < i → (Y.1 57 a).toInt = if X.1 56 a = 0 then 2520 else sI w m a) → (∀ a, (m.1 206 16).toNatClampNeg ≤ a → Y.1 57 a = X.1 57 a) → ∃ X', g_X0_weigh_2 w f (m.1 206 5) (Int32.ofNat i) Y = some X' ∧ weF X X' ∧ (∀ a, a < (m.1 206 16).toNatClampNeg → (X'.1 57 a).toInt = if X.1 56 a = 0 then 2520 else sI w m a) ∧ ∀ a, (m.1 206 16).toNatClampNeg ≤ a → X'.1 57 a = X.1 57 a := by
    intro r
    induction r with
    | zero =>
      intro f i Y hi hf fY hd he
      obtain ⟨f, rfl⟩ : ∃ g, f = g + 1 := ⟨f - 1, by omega⟩
      have e6 : Y.1 26 6 = m.1 206 16 := by rw [fY.1 26 (by decide) (by decide), hk.2.1 6 (by decide)]; exact ja.1
      refine ⟨Y, ?_, fY, fun a ha => hd a (by omega), he⟩
      show g_X0_weigh_2_b w _ _ _ Y = _
      unfold g_X0_weigh_2_b
      rw [e6, show i = (m.1 206 16).toNatClampNeg by omega, hR, if_pos (Int32.le_refl _)]
    | succ r ih =>
      intro f i Y hi hf fY hd he
      obtain ⟨f, rfl⟩ : ∃ g, f = g + 1 := ⟨f - 1, by omega⟩
      have hil : i < (m.1 206 16).toNatClampNeg := by omega
      have e6 : Y.1 26 6 = m.1 206 16 := by rw [fY.1 26 (by decide) (by decide), hk.2.1 6 (by decide)]; exact ja.1
      have nl : ¬ m.1 206 16 ≤ Int32.ofNat i := by rw [← hR]; exact nle hil (by omega)
      have gi : rf_in (Int32.ofNat i) 80 = true := gof (n := i) (by omega) (by decide)
      have ti : (Int32.ofNat i).toNatClampNeg = i := tn_of (by omega)
      have fin : ∀ (Y2 : rf_m) (s : Int32), weF X Y2 → Y2.1 57 = Y.1 57 → s.toInt = (if X.1 56 i = 0 then 2520 else sI w m i) → ∃ X', g_X0_weigh_56 w (g_X0_weigh_2 w f) (m.1 206 5) (Int32.ofNat i) (Int32.ofNat i) s Y2 = some X' ∧ weF X X' ∧ (∀ a, a < (m.1 206 16).toNatClampNeg → (X'.1 57 a).toInt = if X.1 56 a = 0 then 2520 else sI w m a) ∧ ∀ a, (m.1 206 16).toNatClampNeg ≤ a → X'.1 57 a = X.1 57 a := by
        intro Y2 s f2 e57 hs
        unfold g_X0_weigh_56
        rw [gi, g_t, ti, of_succ]
        refine ih f (i + 1) (rf_i Y2 57 i s) (by omega) (by omega) ⟨fun z z1 z2 => by rw [rf_i_c, if_neg z2]; exact f2.1 z z1 z2, f2.2⟩ (fun a ha => ?_) (fun a ha => by rw [rf_i_c, if_pos rfl, pu_ne (by omega), e57]; exact he a ha)
        rw [rf_i_c, if_pos rfl]
        by_cases e : a = i
        · subst e; rw [pu_at]; exact hs
        · rw [pu_ne e, e57]; exact hd a (by omega)
      show ∃ X', g_X0_weigh_2_b w (g_X0_weigh_2 w f) _ _ Y = _ ∧ _
      unfold g_X0_weigh_2_b g_X0_weigh_35
      rw [e6, if_neg nl, gi, g_t, ti, fY.1 56 (by decide) (by decide)]
      by_cases q : X.1 56 i = 0
      · have n1 : ¬ (1 : Int32) ≤ 0 := by decide
        have nz1 : rf_nz 1 = true := by decide
        rw [if_pos q, if_neg n1, nz1, g_t]
        exact fin Y (2520 / 1) fY rfl (by rw [if_pos q]; rfl)
      · obtain ⟨Y2, y1, y2⟩ := weightOf_c (w := w) (m1 := Y) (d := m.1 206 5) J hil (keep_18' hk fY) (tal_we (ht i hil) fY)
        have fr := fg_X3_weightOf y1
        obtain ⟨d1, d2, d3⟩ := sI_div (w := w) (m := m) (t := i)
        have f2 : weF X Y2 := ⟨fun z z1 z2 => by rw [y2 z z1]; exact fY.1 z z1 z2, fun z z1 z2 => by rw [fr_wt fr z z1 z2]; exact fY.2 z z1 z2⟩
        have y1 : g_X3_weightOf w Y (Int32.ofNat i) (m.1 206 5) = some (wI w m i, Y2) := y1
        rw [if_neg q, y1, b_sm, if_neg d2, d3, g_t]
        exact fin Y2 (2520 / wI w m i) f2 (y2 57 (by decide)) (by rw [if_neg q]; exact d1)
  obtain ⟨X', k⟩ := key (m.1 206 16).toNatClampNeg FU 0 X (by omega) (by omega) ⟨fun _ _ _ => rfl, fun _ _ _ => rfl⟩ (fun a ha => by omega) (fun _ _ => rfl)
  refine ⟨X', ?_⟩
  unfold g_X0_weigh
  rw [hF]
  exact k
end PBWeigh
