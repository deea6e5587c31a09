/-! the land: marks, haze (loops by wip/tool/genloop.py) -/
section PBLand
theorem X5_hazeAt_no {w : rf_w} {m : rf_m} {t : Int32} (h : iv 0 200 (m.1 1 12)) (hn : ∀ j, j < (m.1 1 12).toNatClampNeg → ¬ (m.1 9 j = t)) : g_X5_hazeAt w m t = some (-1, m) := by
  have hR := of_tn h.1
  have hb : (m.1 1 12).toNatClampNeg ≤ 200 := tn_le h.1 h.2 (by decide)
  refine find_none (F := fun n i => g_X5_hazeAt_2 w n t i m) (P := fun j => m.1 9 j = t) (R := (m.1 1 12).toNatClampNeg) (fun n => ?_) (fun n i hi hP => ?_) _ 0 (by omega) (by unfold rf_fuel; omega) (fun j _ => hn j)
  · rw [hR]
    simp only [g_X5_hazeAt_2, g_X5_hazeAt_2_b, Int32.le_refl, if_true]
  · have h1 : ¬ m.1 1 12 ≤ Int32.ofNat i := by rw [← hR]; exact nle hi (by omega)
    have g : rf_in (Int32.ofNat i) 200 = true := gof (by omega) (by decide)
    have t : (Int32.ofNat i).toNatClampNeg = i := tn_of (by omega)
    simp only [g_X5_hazeAt_2, g_X5_hazeAt_2_b, h1, g, t, g_t, of_succ, if_false]
    first | rw [if_neg hP] | (repeat' split <;> simp_all)
theorem X5_hazeAt_yes {w : rf_w} {m : rf_m} {t : Int32} {j : Nat} (h : iv 0 200 (m.1 1 12)) (hj : j < (m.1 1 12).toNatClampNeg) (hp : m.1 9 j = t) (hn : ∀ j', j' < j → ¬ (m.1 9 j' = t)) : g_X5_hazeAt w m t = some (Int32.ofNat j, m) := by
  have hR := of_tn h.1
  have hb : (m.1 1 12).toNatClampNeg ≤ 200 := tn_le h.1 h.2 (by decide)
  refine find_some (F := fun n i => g_X5_hazeAt_2 w n t i m) (P := fun j => m.1 9 j = t) (R := (m.1 1 12).toNatClampNeg) (f := fun j => some (Int32.ofNat j, m)) (fun n i hi hP => ?_) (fun n i hi hP => ?_) _ 0 j (by omega) hj (by unfold rf_fuel; omega) hp (fun k _ => hn k)
  · have h1 : ¬ m.1 1 12 ≤ Int32.ofNat i := by rw [← hR]; exact nle hi (by omega)
    have g : rf_in (Int32.ofNat i) 200 = true := gof (by omega) (by decide)
    have t : (Int32.ofNat i).toNatClampNeg = i := tn_of (by omega)
    simp only [g_X5_hazeAt_2, g_X5_hazeAt_2_b, h1, g, t, g_t, of_succ, if_false]
    first | rw [if_pos hP] | (repeat' split <;> simp_all)
  · have h1 : ¬ m.1 1 12 ≤ Int32.ofNat i := by rw [← hR]; exact nle hi (by omega)
    have g : rf_in (Int32.ofNat i) 200 = true := gof (by omega) (by decide)
    have t : (Int32.ofNat i).toNatClampNeg = i := tn_of (by omega)
    simp only [g_X5_hazeAt_2, g_X5_hazeAt_2_b, h1, g, t, g_t, of_succ, if_false]
    first | rw [if_neg hP] | (repeat' split <;> simp_all)

theorem X14_reachOf_no {w : rf_w} {m : rf_m} {a b : Int32} (h : iv 0 200 (m.1 206 6)) (hn : ∀ j, j < (m.1 206 6).toNatClampNeg → ¬ (m.1 211 j = a ∧ m.1 212 j = b)) : g_X14_reachOf w m a b = some (32, m) := by
  have hR := of_tn h.1
  have hb : (m.1 206 6).toNatClampNeg ≤ 200 := tn_le h.1 h.2 (by decide)
  refine find_none (F := fun n i => g_X14_reachOf_2 w n a b i m) (P := fun j => m.1 211 j = a ∧ m.1 212 j = b) (R := (m.1 206 6).toNatClampNeg) (fun n => ?_) (fun n i hi hP => ?_) _ 0 (by omega) (by unfold rf_fuel; omega) (fun j _ => hn j)
  · rw [hR]
    simp only [g_X14_reachOf_2, g_X14_reachOf_2_b, Int32.le_refl, if_true]
  · have h1 : ¬ m.1 206 6 ≤ Int32.ofNat i := by rw [← hR]; exact nle hi (by omega)
    have g : rf_in (Int32.ofNat i) 200 = true := gof (by omega) (by decide)
    have t : (Int32.ofNat i).toNatClampNeg = i := tn_of (by omega)
    simp only [g_X14_reachOf_2, g_X14_reachOf_2_b, g_X14_reachOf_37, h1, g, t, g_t, of_succ, if_false]
    first | rw [if_neg hP] | (repeat' split <;> simp_all)
theorem X14_reachOf_yes {w : rf_w} {m : rf_m} {a b : Int32} {j : Nat} (h : iv 0 200 (m.1 206 6)) (hj : j < (m.1 206 6).toNatClampNeg) (hp : m.1 211 j = a ∧ m.1 212 j = b) (hn : ∀ j', j' < j → ¬ (m.1 211 j' = a ∧ m.1 212 j' = b)) : g_X14_reachOf w m a b = some (m.1 213 j, m) := by
  have hR := of_tn h.1
  have hb : (m.1 206 6).toNatClampNeg ≤ 200 := tn_le h.1 h.2 (by decide)
  refine find_some (F := fun n i => g_X14_reachOf_2 w n a b i m) (P := fun j => m.1 211 j = a ∧ m.1 212 j = b) (R := (m.1 206 6).toNatClampNeg) (f := fun j => some (m.1 213 j, m)) (fun n i hi hP => ?_) (fun n i hi hP => ?_) _ 0 j (by omega) hj (by unfold rf_fuel; omega) hp (fun k _ => hn k)
  · have h1 : ¬ m.1 206 6 ≤ Int32.ofNat i := by rw [← hR]; exact nle hi (by omega)
    have g : rf_in (Int32.ofNat i) 200 = true := gof (by omega) (by decide)
    have t : (Int32.ofNat i).toNatClampNeg = i := tn_of (by omega)
    simp only [g_X14_reachOf_2, g_X14_reachOf_2_b, g_X14_reachOf_37, h1, g, t, g_t, of_succ, if_false]
    first | rw [if_pos hP] | (repeat' split <;> simp_all)
  · have h1 : ¬ m.1 206 6 ≤ Int32.ofNat i := by rw [← hR]; exact nle hi (by omega)
    have g : rf_in (Int32.ofNat i) 200 = true := gof (by omega) (by decide)
    have t : (Int32.ofNat i).toNatClampNeg = i := tn_of (by omega)
    simp only [g_X14_reachOf_2, g_X14_reachOf_2_b, g_X14_reachOf_37, h1, g, t, g_t, of_succ, if_false]
    first | rw [if_neg hP] | (repeat' split <;> simp_all)

theorem X14_haze38_no {w : rf_w} {m : rf_m} {a b c : Int32} (h : iv 0 200 (m.1 206 6)) (hn : ∀ j, j < (m.1 206 6).toNatClampNeg → ¬ (m.1 211 j = a ∧ m.1 212 j = b)) : g_X14_haze_38 w rf_fuel a b c 0 m = g_X14_haze_75 w a b c (m.1 206 6) m := by
  have hR := of_tn h.1
  have hb : (m.1 206 6).toNatClampNeg ≤ 200 := tn_le h.1 h.2 (by decide)
  refine find_none (F := fun n i => g_X14_haze_38 w n a b c i m) (P := fun j => m.1 211 j = a ∧ m.1 212 j = b) (R := (m.1 206 6).toNatClampNeg) (fun n => ?_) (fun n i hi hP => ?_) _ 0 (by omega) (by unfold rf_fuel; omega) (fun j _ => hn j)
  · rw [hR]
    simp only [g_X14_haze_38, g_X14_haze_38_b, Int32.le_refl, if_true]
  · have h1 : ¬ m.1 206 6 ≤ Int32.ofNat i := by rw [← hR]; exact nle hi (by omega)
    have g : rf_in (Int32.ofNat i) 200 = true := gof (by omega) (by decide)
    have t : (Int32.ofNat i).toNatClampNeg = i := tn_of (by omega)
    simp only [g_X14_haze_38, g_X14_haze_38_b, g_X14_haze_69, h1, g, t, g_t, of_succ, if_false]
    first | rw [if_neg hP] | (repeat' split <;> simp_all)
theorem X14_haze38_yes {w : rf_w} {m : rf_m} {a b c : Int32} {j : Nat} (h : iv 0 200 (m.1 206 6)) (hj : j < (m.1 206 6).toNatClampNeg) (hp : m.1 211 j = a ∧ m.1 212 j = b) (hn : ∀ j', j' < j → ¬ (m.1 211 j' = a ∧ m.1 212 j' = b)) : g_X14_haze_38 w rf_fuel a b c 0 m = g_X14_haze_75 w a b c (Int32.ofNat j) m := by
  have hR := of_tn h.1
  have hb : (m.1 206 6).toNatClampNeg ≤ 200 := tn_le h.1 h.2 (by decide)
  refine find_some (F := fun n i => g_X14_haze_38 w n a b c i m) (P := fun j => m.1 211 j = a ∧ m.1 212 j = b) (R := (m.1 206 6).toNatClampNeg) (f := fun j => g_X14_haze_75 w a b c (Int32.ofNat j) m) (fun n i hi hP => ?_) (fun n i hi hP => ?_) _ 0 j (by omega) hj (by unfold rf_fuel; omega) hp (fun k _ => hn k)
  · have h1 : ¬ m.1 206 6 ≤ Int32.ofNat i := by rw [← hR]; exact nle hi (by omega)
    have g : rf_in (Int32.ofNat i) 200 = true := gof (by omega) (by decide)
    have t : (Int32.ofNat i).toNatClampNeg = i := tn_of (by omega)
    simp only [g_X14_haze_38, g_X14_haze_38_b, g_X14_haze_69, h1, g, t, g_t, of_succ, if_false]
    first | rw [if_pos hP] | (repeat' split <;> simp_all)
  · have h1 : ¬ m.1 206 6 ≤ Int32.ofNat i := by rw [← hR]; exact nle hi (by omega)
    have g : rf_in (Int32.ofNat i) 200 = true := gof (by omega) (by decide)
    have t : (Int32.ofNat i).toNatClampNeg = i := tn_of (by omega)
    simp only [g_X14_haze_38, g_X14_haze_38_b, g_X14_haze_69, h1, g, t, g_t, of_succ, if_false]
    first | rw [if_neg hP] | (repeat' split <;> simp_all)

theorem X14_mark20_no {w : rf_w} {m : rf_m} {a : Int32} (h : iv 0 30 (m.1 206 4)) (hn : ∀ j, j < (m.1 206 4).toNatClampNeg → ¬ (m.1 209 j = a)) : g_X14_mark_20 w rf_fuel a 0 m = (if (m.1 206 4) = 30 then rf_b (g_X14_refused w m 3) fun y2 m2 => some (y2, m2) else rf_g (rf_in (m.1 206 4) 30) (rf_b (g_X14_done w (rf_i (rf_i m 209 (Int32.toNatClampNeg (m.1 206 4)) a) 206 4 (((rf_i m 209 (Int32.toNatClampNeg (m.1 206 4)) a).1 206 4) + 1)) (((rf_i (rf_i m 209 (Int32.toNatClampNeg (m.1 206 4)) a) 206 4 (((rf_i m 209 (Int32.toNatClampNeg (m.1 206 4)) a).1 206 4) + 1)).1 206 4) - 1)) fun y1 m1 => some (y1, m1))) := by
  have hR := of_tn h.1
  have hb : (m.1 206 4).toNatClampNeg ≤ 30 := tn_le h.1 h.2 (by decide)
  refine find_none (F := fun n i => g_X14_mark_20 w n a i m) (P := fun j => m.1 209 j = a) (R := (m.1 206 4).toNatClampNeg) (fun n => ?_) (fun n i hi hP => ?_) _ 0 (by omega) (by unfold rf_fuel; omega) (fun j _ => hn j)
  · rw [hR]
    simp only [g_X14_mark_20, g_X14_mark_20_b, Int32.le_refl, if_true]
  · have h1 : ¬ m.1 206 4 ≤ Int32.ofNat i := by rw [← hR]; exact nle hi (by omega)
    have g : rf_in (Int32.ofNat i) 30 = true := gof (by omega) (by decide)
    have t : (Int32.ofNat i).toNatClampNeg = i := tn_of (by omega)
    simp only [g_X14_mark_20, g_X14_mark_20_b, h1, g, t, g_t, of_succ, if_false]
    first | rw [if_neg hP] | (repeat' split <;> simp_all)
theorem X14_mark20_yes {w : rf_w} {m : rf_m} {a : Int32} {j : Nat} (h : iv 0 30 (m.1 206 4)) (hj : j < (m.1 206 4).toNatClampNeg) (hp : m.1 209 j = a) (hn : ∀ j', j' < j → ¬ (m.1 209 j' = a)) : g_X14_mark_20 w rf_fuel a 0 m = rf_b (g_X14_refused w m 5) fun y4 m4 => some (y4, m4) := by
  have hR := of_tn h.1
  have hb : (m.1 206 4).toNatClampNeg ≤ 30 := tn_le h.1 h.2 (by decide)
  refine find_some (F := fun n i => g_X14_mark_20 w n a i m) (P := fun j => m.1 209 j = a) (R := (m.1 206 4).toNatClampNeg) (f := fun j => rf_b (g_X14_refused w m 5) fun y4 m4 => some (y4, m4)) (fun n i hi hP => ?_) (fun n i hi hP => ?_) _ 0 j (by omega) hj (by unfold rf_fuel; omega) hp (fun k _ => hn k)
  · have h1 : ¬ m.1 206 4 ≤ Int32.ofNat i := by rw [← hR]; exact nle hi (by omega)
    have g : rf_in (Int32.ofNat i) 30 = true := gof (by omega) (by decide)
    have t : (Int32.ofNat i).toNatClampNeg = i := tn_of (by omega)
    simp only [g_X14_mark_20, g_X14_mark_20_b, h1, g, t, g_t, of_succ, if_false]
    first | rw [if_pos hP] | (repeat' split <;> simp_all)
  · have h1 : ¬ m.1 206 4 ≤ Int32.ofNat i := by rw [← hR]; exact nle hi (by omega)
    have g : rf_in (Int32.ofNat i) 30 = true := gof (by omega) (by decide)
    have t : (Int32.ofNat i).toNatClampNeg = i := tn_of (by omega)
    simp only [g_X14_mark_20, g_X14_mark_20_b, h1, g, t, g_t, of_succ, if_false]
    first | rw [if_neg hP] | (repeat' split <;> simp_all)

end PBLand
