/-! switches and names (written by wip/tool/gen.py) -/
section RFT
variable {o nL d : Nat} {cc : ByteArray} {sh : rf_Sh} {cells slots pc : Nat} {K : rf_K} {lv : rf_L} {st : List Value} {M : rf_M}
def rf_vi {β : Type} (x : Int32) (k : Int32 → Option β) : Option β := k x
theorem rf_vi_some {β : Type} {x : Int32} {k : Int32 → Option β} {r : β} (h : rf_vi x k = some r) : ∃ y, x = y ∧ k y = some r := ⟨x, rfl, h⟩
theorem rf_vi_top {x y : Int32} (h : x = y) (k : rf_V nL sh K cells slots pc (lv, .int y :: st, M)) : rf_V nL sh K cells slots pc (lv, .int x :: st, M) := by subst h; exact k
def rf_vl {β : Type} (x : Int64) (k : Int64 → Option β) : Option β := k x
theorem rf_vl_some {β : Type} {x : Int64} {k : Int64 → Option β} {r : β} (h : rf_vl x k = some r) : ∃ y, x = y ∧ k y = some r := ⟨x, rfl, h⟩
theorem rf_vl_top {x y : Int64} (h : x = y) (k : rf_V nL sh K cells slots pc (lv, .long y :: st, M)) : rf_V nL sh K cells slots pc (lv, .long x :: st, M) := by subst h; exact k
def rf_tt (cc : ByteArray) (pc : Nat) (z : Int32) (tgt : Nat) : Bool := match decode cc pc with
  | .ok (.tableswitch dflt lo hi offs, _) => if z.toInt < lo ∨ hi < z.toInt then decide ((pc : Int) + dflt = (tgt : Int)) else (match offs[(z.toInt - lo).toNat]? with
    | some off => decide ((pc : Int) + off = (tgt : Int))
    | none => false)
  | _ => false
theorem rf_tabc (C : rf_Ctx o cc nL d sh K) {x z : Int32} (hz : x = z) (tgt : Nat) (hd : rf_tt cc pc z tgt = true) (k : rf_V nL sh K cells slots tgt (lv, st, M)) : rf_V nL sh K cells slots pc (lv, .int x :: st, M) := by
  subst hz
  obtain ⟨p, l, e, R, s, m, args, below, meth, c, D, ad, cad, A, Q⟩ := K
  obtain ⟨hx, hb, hml, hown, hts, hK, hT, hA, hlk, hXs, hdf, hdl, hwf⟩ := C
  intro H locs ls hPw hD hS hl
  unfold rf_tt at hd
  split at hd
  · rename_i dflt lo hi offs len hdec
    split at hd
    · rename_i hout
      exact lv_tableOut hx hb hdec hout (by simpa using hd) (k H locs ls hPw hD hS hl)
    · rename_i hin
      split at hd
      · rename_i off ho
        exact lv_tableIn hx hb hdec (fun h => hin (Or.inl h)) (fun h => hin (Or.inr h)) ho (by simpa using hd) (k H locs ls hPw hD hS hl)
      · cases hd
  · cases hd
def rf_td (cc : ByteArray) (pc : Nat) (lo hi : Int) (tgt : Nat) : Bool := match decode cc pc with
  | .ok (.tableswitch dflt l h _, _) => decide (l = lo) && decide (h = hi) && decide ((pc : Int) + dflt = (tgt : Int))
  | _ => false
theorem rf_tabd (C : rf_Ctx o cc nL d sh K) {x : Int32} (lo hi : Int) (tgt : Nat) (hd : rf_td cc pc lo hi tgt = true) (h : x.toInt < lo ∨ hi < x.toInt) (k : rf_V nL sh K cells slots tgt (lv, st, M)) : rf_V nL sh K cells slots pc (lv, .int x :: st, M) := by
  obtain ⟨p, l, e, R, s, m, args, below, meth, c, D, ad, cad, A, Q⟩ := K
  obtain ⟨hx, hb, hml, hown, hts, hK, hT, hA, hlk, hXs, hdf, hdl, hwf⟩ := C
  intro H locs ls hPw hD hS hl
  unfold rf_td at hd
  split at hd
  · rename_i dflt lo' hi' offs len hdec
    simp only [Bool.and_eq_true, decide_eq_true_eq] at hd
    obtain ⟨⟨rfl, rfl⟩, ht⟩ := hd
    exact lv_tableOut hx hb hdec h ht (k H locs ls hPw hD hS hl)
  · cases hd
theorem rf_ti {x z : Int32} (h : ¬ x = z) : x.toInt ≠ z.toInt := fun e => h (Int32.toInt_inj.mp e)
end RFT
theorem lk_14_338 : Cond.methodLink (rf_own 14) 338 yX14_isCell ∈ rf_WS := rf_mem 14 (by decide +kernel)
theorem lk_14_342 : Cond.methodLink (rf_own 14) 342 yX14_denied ∈ rf_WS := rf_mem 14 (by decide +kernel)
theorem lk_14_345 : Cond.methodLink (rf_own 14) 345 yX14_in ∈ rf_WS := rf_mem 14 (by decide +kernel)
theorem lk_14_349 : Cond.methodLink (rf_own 14) 349 yX14_granted ∈ rf_WS := rf_mem 15 (by decide +kernel)
