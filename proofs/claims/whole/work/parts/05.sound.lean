/-! one step of rf_1 is the machine's (written by wip/tool/sound.py) -/
section RFO
variable {o nL d : Nat} {cc : ByteArray} {sh : rf_Sh} {cells slots pc : Nat}
theorem rf_FL_of {o idx ci f : Nat} (h : (rf_FL o).any (fun e => e.1 == idx && e.2.1 == ci && e.2.2.1 == f) = true) : ci < 15 ∧ f < rf_fn ci ∧ Cond.fieldLink (rf_own o) idx (rf_T ci f).1 (rf_T ci f).2.1 (rf_T ci f).2.2.1 ∈ rf_WS := by
  obtain ⟨e, he, h⟩ := List.any_eq_true.mp h
  simp only [Bool.and_eq_true, beq_iff_eq] at h
  obtain ⟨⟨rfl, rfl⟩, rfl⟩ := h
  obtain ⟨h1, h2, h3⟩ := rf_FLok o e he
  exact ⟨h1, h2, rf_mem _ h3⟩
theorem rf_NF_of {o idx ci f : Nat} {U : State} (hN : rf_N U) (h : (rf_NF o).any (fun e => e.1 == idx && e.2.1 == ci && e.2.2.1 == f) = true) : ci < 15 ∧ f < rf_fn ci ∧ ∃ host, va_Nw (Cond.fieldLinkNest (rf_own o) idx (rf_T ci f).1 (rf_T ci f).2.1 (rf_T ci f).2.2.1 host) U := by
  obtain ⟨e, he, h⟩ := List.any_eq_true.mp h
  simp only [Bool.and_eq_true, beq_iff_eq] at h
  obtain ⟨⟨rfl, rfl⟩, rfl⟩ := h
  obtain ⟨h1, h2⟩ := rf_NFok o e he
  exact ⟨h1, h2, _, hN.1 o e he⟩
theorem rf_CI_of {o idx : Nat} {z : Int} (h : (rf_CI o).any (fun e => e.1 == idx && e.2.1 == z) = true) : Cond.constant (rf_own o) idx (Int32.ofInt z) ∈ rf_WS := by
  obtain ⟨e, he, h⟩ := List.any_eq_true.mp h
  simp only [Bool.and_eq_true, beq_iff_eq] at h
  obtain ⟨rfl, rfl⟩ := h
  exact rf_mem _ (rf_CIok o e he)
theorem rf_CL_of {o idx : Nat} {z : Int} (h : (rf_CL o).any (fun e => e.1 == idx && e.2.1 == z) = true) : Cond.constantLong (rf_own o) idx (Int64.ofInt z) ∈ rf_WS := by
  obtain ⟨e, he, h⟩ := List.any_eq_true.mp h
  simp only [Bool.and_eq_true, beq_iff_eq] at h
  obtain ⟨rfl, rfl⟩ := h
  exact rf_mem _ (rf_CLok o e he)
theorem rf_s_iadd {K : rf_K} {S S' : rf_S} {Ps : List Prop} {n : Nat} (C : rf_Ctx o cc nL d sh K) (hok : rf_ok o nL cc pc (.iadd) n = true) (h1 : rf_1 sh (.iadd) S = some (Ps, S')) (hP : ∀ p ∈ Ps, p) (k : rf_V nL sh K cells slots (pc + n) S') : rf_V nL sh K cells slots pc S := by
  obtain ⟨r, hd, hco⟩ := rf_ok_spec hok
  obtain ⟨p, l, e, R, s, m, args, below, meth, c, D, ad, cad, A, Q⟩ := K
  obtain ⟨lv, st, M⟩ := S
  obtain ⟨hx, hb, hml, hown, hts, hK, hT, hA, hlk, hXs, hdf, hdl, hwf⟩ := C
  intro H locs ls hPw hD hS hl
  have k : ∀ (H : Heap) (locs : List Loc) (ls : Array Slot), va_P D vwCl (rf_ws ad cad sh S'.2.2) H → va_D A (rf_ws ad cad sh S'.2.2) → va_S A s.heap H locs → lv_has ls nL (rf_lc ad S'.1) → W p l e R s m args below meth c H locs cells slots Q (F0 m (pc + n) ls (S'.2.1.map (rf_cv ad))) := k
  simp only [rf_co, Bool.and_eq_true, decide_eq_true_eq, beq_iff_eq] at hco
  obtain ⟨rfl, rfl⟩ := hco
  simp only [rf_1] at h1
  split at h1
  · cases h1
    exact lv_iadd hx hb hd (k H locs ls hPw hD hS hl)
  · cases h1
theorem rf_s_isub {K : rf_K} {S S' : rf_S} {Ps : List Prop} {n : Nat} (C : rf_Ctx o cc nL d sh K) (hok : rf_ok o nL cc pc (.isub) n = true) (h1 : rf_1 sh (.isub) S = some (Ps, S')) (hP : ∀ p ∈ Ps, p) (k : rf_V nL sh K cells slots (pc + n) S') : rf_V nL sh K cells slots pc S := by
  obtain ⟨r, hd, hco⟩ := rf_ok_spec hok
  obtain ⟨p, l, e, R, s, m, args, below, meth, c, D, ad, cad, A, Q⟩ := K
  obtain ⟨lv, st, M⟩ := S
  obtain ⟨hx, hb, hml, hown, hts, hK, hT, hA, hlk, hXs, hdf, hdl, hwf⟩ := C
  intro H locs ls hPw hD hS hl
  have k : ∀ (H : Heap) (locs : List Loc) (ls : Array Slot), va_P D vwCl (rf_ws ad cad sh S'.2.2) H → va_D A (rf_ws ad cad sh S'.2.2) → va_S A s.heap H locs → lv_has ls nL (rf_lc ad S'.1) → W p l e R s m args below meth c H locs cells slots Q (F0 m (pc + n) ls (S'.2.1.map (rf_cv ad))) := k
  simp only [rf_co, Bool.and_eq_true, decide_eq_true_eq, beq_iff_eq] at hco
  obtain ⟨rfl, rfl⟩ := hco
  simp only [rf_1] at h1
  split at h1
  · cases h1
    exact lv_isub hx hb hd (k H locs ls hPw hD hS hl)
  · cases h1
theorem rf_s_imul {K : rf_K} {S S' : rf_S} {Ps : List Prop} {n : Nat} (C : rf_Ctx o cc nL d sh K) (hok : rf_ok o nL cc pc (.imul) n = true) (h1 : rf_1 sh (.imul) S = some (Ps, S')) (hP : ∀ p ∈ Ps, p) (k : rf_V nL sh K cells slots (pc + n) S') : rf_V nL sh K cells slots pc S := by
  obtain ⟨r, hd, hco⟩ := rf_ok_spec hok
  obtain ⟨p, l, e, R, s, m, args, below, meth, c, D, ad, cad, A, Q⟩ := K
  obtain ⟨lv, st, M⟩ := S
  obtain ⟨hx, hb, hml, hown, hts, hK, hT, hA, hlk, hXs, hdf, hdl, hwf⟩ := C
  intro H locs ls hPw hD hS hl
  have k : ∀ (H : Heap) (locs : List Loc) (ls : Array Slot), va_P D vwCl (rf_ws ad cad sh S'.2.2) H → va_D A (rf_ws ad cad sh S'.2.2) → va_S A s.heap H locs → lv_has ls nL (rf_lc ad S'.1) → W p l e R s m args below meth c H locs cells slots Q (F0 m (pc + n) ls (S'.2.1.map (rf_cv ad))) := k
  simp only [rf_co, Bool.and_eq_true, decide_eq_true_eq, beq_iff_eq] at hco
  obtain ⟨rfl, rfl⟩ := hco
  simp only [rf_1] at h1
  split at h1
  · cases h1
    exact lv_imul hx hb hd (k H locs ls hPw hD hS hl)
  · cases h1
theorem rf_s_iand {K : rf_K} {S S' : rf_S} {Ps : List Prop} {n : Nat} (C : rf_Ctx o cc nL d sh K) (hok : rf_ok o nL cc pc (.iand) n = true) (h1 : rf_1 sh (.iand) S = some (Ps, S')) (hP : ∀ p ∈ Ps, p) (k : rf_V nL sh K cells slots (pc + n) S') : rf_V nL sh K cells slots pc S := by
  obtain ⟨r, hd, hco⟩ := rf_ok_spec hok
  obtain ⟨p, l, e, R, s, m, args, below, meth, c, D, ad, cad, A, Q⟩ := K
  obtain ⟨lv, st, M⟩ := S
  obtain ⟨hx, hb, hml, hown, hts, hK, hT, hA, hlk, hXs, hdf, hdl, hwf⟩ := C
  intro H locs ls hPw hD hS hl
  have k : ∀ (H : Heap) (locs : List Loc) (ls : Array Slot), va_P D vwCl (rf_ws ad cad sh S'.2.2) H → va_D A (rf_ws ad cad sh S'.2.2) → va_S A s.heap H locs → lv_has ls nL (rf_lc ad S'.1) → W p l e R s m args below meth c H locs cells slots Q (F0 m (pc + n) ls (S'.2.1.map (rf_cv ad))) := k
  simp only [rf_co, Bool.and_eq_true, decide_eq_true_eq, beq_iff_eq] at hco
  obtain ⟨rfl, rfl⟩ := hco
  simp only [rf_1] at h1
  split at h1
  · cases h1
    exact lv_iand hx hb hd (k H locs ls hPw hD hS hl)
  · cases h1
theorem rf_s_ior {K : rf_K} {S S' : rf_S} {Ps : List Prop} {n : Nat} (C : rf_Ctx o cc nL d sh K) (hok : rf_ok o nL cc pc (.ior) n = true) (h1 : rf_1 sh (.ior) S = some (Ps, S')) (hP : ∀ p ∈ Ps, p) (k : rf_V nL sh K cells slots (pc + n) S') : rf_V nL sh K cells slots pc S := by
  obtain ⟨r, hd, hco⟩ := rf_ok_spec hok
  obtain ⟨p, l, e, R, s, m, args, below, meth, c, D, ad, cad, A, Q⟩ := K
  obtain ⟨lv, st, M⟩ := S
  obtain ⟨hx, hb, hml, hown, hts, hK, hT, hA, hlk, hXs, hdf, hdl, hwf⟩ := C
  intro H locs ls hPw hD hS hl
  have k : ∀ (H : Heap) (locs : List Loc) (ls : Array Slot), va_P D vwCl (rf_ws ad cad sh S'.2.2) H → va_D A (rf_ws ad cad sh S'.2.2) → va_S A s.heap H locs → lv_has ls nL (rf_lc ad S'.1) → W p l e R s m args below meth c H locs cells slots Q (F0 m (pc + n) ls (S'.2.1.map (rf_cv ad))) := k
  simp only [rf_co, Bool.and_eq_true, decide_eq_true_eq, beq_iff_eq] at hco
  obtain ⟨rfl, rfl⟩ := hco
  simp only [rf_1] at h1
  split at h1
  · cases h1
    exact lv_ior hx hb hd (k H locs ls hPw hD hS hl)
  · cases h1
theorem rf_s_ixor {K : rf_K} {S S' : rf_S} {Ps : List Prop} {n : Nat} (C : rf_Ctx o cc nL d sh K) (hok : rf_ok o nL cc pc (.ixor) n = true) (h1 : rf_1 sh (.ixor) S = some (Ps, S')) (hP : ∀ p ∈ Ps, p) (k : rf_V nL sh K cells slots (pc + n) S') : rf_V nL sh K cells slots pc S := by
  obtain ⟨r, hd, hco⟩ := rf_ok_spec hok
  obtain ⟨p, l, e, R, s, m, args, below, meth, c, D, ad, cad, A, Q⟩ := K
  obtain ⟨lv, st, M⟩ := S
  obtain ⟨hx, hb, hml, hown, hts, hK, hT, hA, hlk, hXs, hdf, hdl, hwf⟩ := C
  intro H locs ls hPw hD hS hl
  have k : ∀ (H : Heap) (locs : List Loc) (ls : Array Slot), va_P D vwCl (rf_ws ad cad sh S'.2.2) H → va_D A (rf_ws ad cad sh S'.2.2) → va_S A s.heap H locs → lv_has ls nL (rf_lc ad S'.1) → W p l e R s m args below meth c H locs cells slots Q (F0 m (pc + n) ls (S'.2.1.map (rf_cv ad))) := k
  simp only [rf_co, Bool.and_eq_true, decide_eq_true_eq, beq_iff_eq] at hco
  obtain ⟨rfl, rfl⟩ := hco
  simp only [rf_1] at h1
  split at h1
  · cases h1
    exact lv_ixor hx hb hd (k H locs ls hPw hD hS hl)
  · cases h1
theorem rf_s_ladd {K : rf_K} {S S' : rf_S} {Ps : List Prop} {n : Nat} (C : rf_Ctx o cc nL d sh K) (hok : rf_ok o nL cc pc (.ladd) n = true) (h1 : rf_1 sh (.ladd) S = some (Ps, S')) (hP : ∀ p ∈ Ps, p) (k : rf_V nL sh K cells slots (pc + n) S') : rf_V nL sh K cells slots pc S := by
  obtain ⟨r, hd, hco⟩ := rf_ok_spec hok
  obtain ⟨p, l, e, R, s, m, args, below, meth, c, D, ad, cad, A, Q⟩ := K
  obtain ⟨lv, st, M⟩ := S
  obtain ⟨hx, hb, hml, hown, hts, hK, hT, hA, hlk, hXs, hdf, hdl, hwf⟩ := C
  intro H locs ls hPw hD hS hl
  have k : ∀ (H : Heap) (locs : List Loc) (ls : Array Slot), va_P D vwCl (rf_ws ad cad sh S'.2.2) H → va_D A (rf_ws ad cad sh S'.2.2) → va_S A s.heap H locs → lv_has ls nL (rf_lc ad S'.1) → W p l e R s m args below meth c H locs cells slots Q (F0 m (pc + n) ls (S'.2.1.map (rf_cv ad))) := k
  simp only [rf_co, Bool.and_eq_true, decide_eq_true_eq, beq_iff_eq] at hco
  obtain ⟨rfl, rfl⟩ := hco
  simp only [rf_1] at h1
  split at h1
  · cases h1
    exact lv_ladd hx hb hd (k H locs ls hPw hD hS hl)
  · cases h1
theorem rf_s_lsub {K : rf_K} {S S' : rf_S} {Ps : List Prop} {n : Nat} (C : rf_Ctx o cc nL d sh K) (hok : rf_ok o nL cc pc (.lsub) n = true) (h1 : rf_1 sh (.lsub) S = some (Ps, S')) (hP : ∀ p ∈ Ps, p) (k : rf_V nL sh K cells slots (pc + n) S') : rf_V nL sh K cells slots pc S := by
  obtain ⟨r, hd, hco⟩ := rf_ok_spec hok
  obtain ⟨p, l, e, R, s, m, args, below, meth, c, D, ad, cad, A, Q⟩ := K
  obtain ⟨lv, st, M⟩ := S
  obtain ⟨hx, hb, hml, hown, hts, hK, hT, hA, hlk, hXs, hdf, hdl, hwf⟩ := C
  intro H locs ls hPw hD hS hl
  have k : ∀ (H : Heap) (locs : List Loc) (ls : Array Slot), va_P D vwCl (rf_ws ad cad sh S'.2.2) H → va_D A (rf_ws ad cad sh S'.2.2) → va_S A s.heap H locs → lv_has ls nL (rf_lc ad S'.1) → W p l e R s m args below meth c H locs cells slots Q (F0 m (pc + n) ls (S'.2.1.map (rf_cv ad))) := k
  simp only [rf_co, Bool.and_eq_true, decide_eq_true_eq, beq_iff_eq] at hco
  obtain ⟨rfl, rfl⟩ := hco
  simp only [rf_1] at h1
  split at h1
  · cases h1
    exact lv_lsub hx hb hd (k H locs ls hPw hD hS hl)
  · cases h1
theorem rf_s_lmul {K : rf_K} {S S' : rf_S} {Ps : List Prop} {n : Nat} (C : rf_Ctx o cc nL d sh K) (hok : rf_ok o nL cc pc (.lmul) n = true) (h1 : rf_1 sh (.lmul) S = some (Ps, S')) (hP : ∀ p ∈ Ps, p) (k : rf_V nL sh K cells slots (pc + n) S') : rf_V nL sh K cells slots pc S := by
  obtain ⟨r, hd, hco⟩ := rf_ok_spec hok
  obtain ⟨p, l, e, R, s, m, args, below, meth, c, D, ad, cad, A, Q⟩ := K
  obtain ⟨lv, st, M⟩ := S
  obtain ⟨hx, hb, hml, hown, hts, hK, hT, hA, hlk, hXs, hdf, hdl, hwf⟩ := C
  intro H locs ls hPw hD hS hl
  have k : ∀ (H : Heap) (locs : List Loc) (ls : Array Slot), va_P D vwCl (rf_ws ad cad sh S'.2.2) H → va_D A (rf_ws ad cad sh S'.2.2) → va_S A s.heap H locs → lv_has ls nL (rf_lc ad S'.1) → W p l e R s m args below meth c H locs cells slots Q (F0 m (pc + n) ls (S'.2.1.map (rf_cv ad))) := k
  simp only [rf_co, Bool.and_eq_true, decide_eq_true_eq, beq_iff_eq] at hco
  obtain ⟨rfl, rfl⟩ := hco
  simp only [rf_1] at h1
  split at h1
  · cases h1
    exact lv_lmul hx hb hd (k H locs ls hPw hD hS hl)
  · cases h1
theorem rf_s_land {K : rf_K} {S S' : rf_S} {Ps : List Prop} {n : Nat} (C : rf_Ctx o cc nL d sh K) (hok : rf_ok o nL cc pc (.land) n = true) (h1 : rf_1 sh (.land) S = some (Ps, S')) (hP : ∀ p ∈ Ps, p) (k : rf_V nL sh K cells slots (pc + n) S') : rf_V nL sh K cells slots pc S := by
  obtain ⟨r, hd, hco⟩ := rf_ok_spec hok
  obtain ⟨p, l, e, R, s, m, args, below, meth, c, D, ad, cad, A, Q⟩ := K
  obtain ⟨lv, st, M⟩ := S
  obtain ⟨hx, hb, hml, hown, hts, hK, hT, hA, hlk, hXs, hdf, hdl, hwf⟩ := C
  intro H locs ls hPw hD hS hl
  have k : ∀ (H : Heap) (locs : List Loc) (ls : Array Slot), va_P D vwCl (rf_ws ad cad sh S'.2.2) H → va_D A (rf_ws ad cad sh S'.2.2) → va_S A s.heap H locs → lv_has ls nL (rf_lc ad S'.1) → W p l e R s m args below meth c H locs cells slots Q (F0 m (pc + n) ls (S'.2.1.map (rf_cv ad))) := k
  simp only [rf_co, Bool.and_eq_true, decide_eq_true_eq, beq_iff_eq] at hco
  obtain ⟨rfl, rfl⟩ := hco
  simp only [rf_1] at h1
  split at h1
  · cases h1
    exact lv_land hx hb hd (k H locs ls hPw hD hS hl)
  · cases h1
theorem rf_s_lor {K : rf_K} {S S' : rf_S} {Ps : List Prop} {n : Nat} (C : rf_Ctx o cc nL d sh K) (hok : rf_ok o nL cc pc (.lor) n = true) (h1 : rf_1 sh (.lor) S = some (Ps, S')) (hP : ∀ p ∈ Ps, p) (k : rf_V nL sh K cells slots (pc + n) S') : rf_V nL sh K cells slots pc S := by
  obtain ⟨r, hd, hco⟩ := rf_ok_spec hok
  obtain ⟨p, l, e, R, s, m, args, below, meth, c, D, ad, cad, A, Q⟩ := K
  obtain ⟨lv, st, M⟩ := S
  obtain ⟨hx, hb, hml, hown, hts, hK, hT, hA, hlk, hXs, hdf, hdl, hwf⟩ := C
  intro H locs ls hPw hD hS hl
  have k : ∀ (H : Heap) (locs : List Loc) (ls : Array Slot), va_P D vwCl (rf_ws ad cad sh S'.2.2) H → va_D A (rf_ws ad cad sh S'.2.2) → va_S A s.heap H locs → lv_has ls nL (rf_lc ad S'.1) → W p l e R s m args below meth c H locs cells slots Q (F0 m (pc + n) ls (S'.2.1.map (rf_cv ad))) := k
  simp only [rf_co, Bool.and_eq_true, decide_eq_true_eq, beq_iff_eq] at hco
  obtain ⟨rfl, rfl⟩ := hco
  simp only [rf_1] at h1
  split at h1
  · cases h1
    exact lv_lor hx hb hd (k H locs ls hPw hD hS hl)
  · cases h1
theorem rf_s_lxor {K : rf_K} {S S' : rf_S} {Ps : List Prop} {n : Nat} (C : rf_Ctx o cc nL d sh K) (hok : rf_ok o nL cc pc (.lxor) n = true) (h1 : rf_1 sh (.lxor) S = some (Ps, S')) (hP : ∀ p ∈ Ps, p) (k : rf_V nL sh K cells slots (pc + n) S') : rf_V nL sh K cells slots pc S := by
  obtain ⟨r, hd, hco⟩ := rf_ok_spec hok
  obtain ⟨p, l, e, R, s, m, args, below, meth, c, D, ad, cad, A, Q⟩ := K
  obtain ⟨lv, st, M⟩ := S
  obtain ⟨hx, hb, hml, hown, hts, hK, hT, hA, hlk, hXs, hdf, hdl, hwf⟩ := C
  intro H locs ls hPw hD hS hl
  have k : ∀ (H : Heap) (locs : List Loc) (ls : Array Slot), va_P D vwCl (rf_ws ad cad sh S'.2.2) H → va_D A (rf_ws ad cad sh S'.2.2) → va_S A s.heap H locs → lv_has ls nL (rf_lc ad S'.1) → W p l e R s m args below meth c H locs cells slots Q (F0 m (pc + n) ls (S'.2.1.map (rf_cv ad))) := k
  simp only [rf_co, Bool.and_eq_true, decide_eq_true_eq, beq_iff_eq] at hco
  obtain ⟨rfl, rfl⟩ := hco
  simp only [rf_1] at h1
  split at h1
  · cases h1
    exact lv_lxor hx hb hd (k H locs ls hPw hD hS hl)
  · cases h1
theorem rf_s_ineg {K : rf_K} {S S' : rf_S} {Ps : List Prop} {n : Nat} (C : rf_Ctx o cc nL d sh K) (hok : rf_ok o nL cc pc (.ineg) n = true) (h1 : rf_1 sh (.ineg) S = some (Ps, S')) (hP : ∀ p ∈ Ps, p) (k : rf_V nL sh K cells slots (pc + n) S') : rf_V nL sh K cells slots pc S := by
  obtain ⟨r, hd, hco⟩ := rf_ok_spec hok
  obtain ⟨p, l, e, R, s, m, args, below, meth, c, D, ad, cad, A, Q⟩ := K
  obtain ⟨lv, st, M⟩ := S
  obtain ⟨hx, hb, hml, hown, hts, hK, hT, hA, hlk, hXs, hdf, hdl, hwf⟩ := C
  intro H locs ls hPw hD hS hl
  have k : ∀ (H : Heap) (locs : List Loc) (ls : Array Slot), va_P D vwCl (rf_ws ad cad sh S'.2.2) H → va_D A (rf_ws ad cad sh S'.2.2) → va_S A s.heap H locs → lv_has ls nL (rf_lc ad S'.1) → W p l e R s m args below meth c H locs cells slots Q (F0 m (pc + n) ls (S'.2.1.map (rf_cv ad))) := k
  simp only [rf_co, Bool.and_eq_true, decide_eq_true_eq, beq_iff_eq] at hco
  obtain ⟨rfl, rfl⟩ := hco
  simp only [rf_1] at h1
  split at h1
  · cases h1
    exact lv_ineg hx hb hd (k H locs ls hPw hD hS hl)
  · cases h1
theorem rf_s_lneg {K : rf_K} {S S' : rf_S} {Ps : List Prop} {n : Nat} (C : rf_Ctx o cc nL d sh K) (hok : rf_ok o nL cc pc (.lneg) n = true) (h1 : rf_1 sh (.lneg) S = some (Ps, S')) (hP : ∀ p ∈ Ps, p) (k : rf_V nL sh K cells slots (pc + n) S') : rf_V nL sh K cells slots pc S := by
  obtain ⟨r, hd, hco⟩ := rf_ok_spec hok
  obtain ⟨p, l, e, R, s, m, args, below, meth, c, D, ad, cad, A, Q⟩ := K
  obtain ⟨lv, st, M⟩ := S
  obtain ⟨hx, hb, hml, hown, hts, hK, hT, hA, hlk, hXs, hdf, hdl, hwf⟩ := C
  intro H locs ls hPw hD hS hl
  have k : ∀ (H : Heap) (locs : List Loc) (ls : Array Slot), va_P D vwCl (rf_ws ad cad sh S'.2.2) H → va_D A (rf_ws ad cad sh S'.2.2) → va_S A s.heap H locs → lv_has ls nL (rf_lc ad S'.1) → W p l e R s m args below meth c H locs cells slots Q (F0 m (pc + n) ls (S'.2.1.map (rf_cv ad))) := k
  simp only [rf_co, Bool.and_eq_true, decide_eq_true_eq, beq_iff_eq] at hco
  obtain ⟨rfl, rfl⟩ := hco
  simp only [rf_1] at h1
  split at h1
  · cases h1
    exact lv_lneg hx hb hd (k H locs ls hPw hD hS hl)
  · cases h1
theorem rf_s_ishl {K : rf_K} {S S' : rf_S} {Ps : List Prop} {n : Nat} (C : rf_Ctx o cc nL d sh K) (hok : rf_ok o nL cc pc (.ishl) n = true) (h1 : rf_1 sh (.ishl) S = some (Ps, S')) (hP : ∀ p ∈ Ps, p) (k : rf_V nL sh K cells slots (pc + n) S') : rf_V nL sh K cells slots pc S := by
  obtain ⟨r, hd, hco⟩ := rf_ok_spec hok
  obtain ⟨p, l, e, R, s, m, args, below, meth, c, D, ad, cad, A, Q⟩ := K
  obtain ⟨lv, st, M⟩ := S
  obtain ⟨hx, hb, hml, hown, hts, hK, hT, hA, hlk, hXs, hdf, hdl, hwf⟩ := C
  intro H locs ls hPw hD hS hl
  have k : ∀ (H : Heap) (locs : List Loc) (ls : Array Slot), va_P D vwCl (rf_ws ad cad sh S'.2.2) H → va_D A (rf_ws ad cad sh S'.2.2) → va_S A s.heap H locs → lv_has ls nL (rf_lc ad S'.1) → W p l e R s m args below meth c H locs cells slots Q (F0 m (pc + n) ls (S'.2.1.map (rf_cv ad))) := k
  simp only [rf_co, Bool.and_eq_true, decide_eq_true_eq, beq_iff_eq] at hco
  obtain ⟨rfl, rfl⟩ := hco
  simp only [rf_1] at h1
  split at h1
  · cases h1
    exact lv_ishl hx hb hd (k H locs ls hPw hD hS hl)
  · cases h1
theorem rf_s_ishr {K : rf_K} {S S' : rf_S} {Ps : List Prop} {n : Nat} (C : rf_Ctx o cc nL d sh K) (hok : rf_ok o nL cc pc (.ishr) n = true) (h1 : rf_1 sh (.ishr) S = some (Ps, S')) (hP : ∀ p ∈ Ps, p) (k : rf_V nL sh K cells slots (pc + n) S') : rf_V nL sh K cells slots pc S := by
  obtain ⟨r, hd, hco⟩ := rf_ok_spec hok
  obtain ⟨p, l, e, R, s, m, args, below, meth, c, D, ad, cad, A, Q⟩ := K
  obtain ⟨lv, st, M⟩ := S
  obtain ⟨hx, hb, hml, hown, hts, hK, hT, hA, hlk, hXs, hdf, hdl, hwf⟩ := C
  intro H locs ls hPw hD hS hl
  have k : ∀ (H : Heap) (locs : List Loc) (ls : Array Slot), va_P D vwCl (rf_ws ad cad sh S'.2.2) H → va_D A (rf_ws ad cad sh S'.2.2) → va_S A s.heap H locs → lv_has ls nL (rf_lc ad S'.1) → W p l e R s m args below meth c H locs cells slots Q (F0 m (pc + n) ls (S'.2.1.map (rf_cv ad))) := k
  simp only [rf_co, Bool.and_eq_true, decide_eq_true_eq, beq_iff_eq] at hco
  obtain ⟨rfl, rfl⟩ := hco
  simp only [rf_1] at h1
  split at h1
  · cases h1
    exact lv_ishr hx hb hd (k H locs ls hPw hD hS hl)
  · cases h1
theorem rf_s_iushr {K : rf_K} {S S' : rf_S} {Ps : List Prop} {n : Nat} (C : rf_Ctx o cc nL d sh K) (hok : rf_ok o nL cc pc (.iushr) n = true) (h1 : rf_1 sh (.iushr) S = some (Ps, S')) (hP : ∀ p ∈ Ps, p) (k : rf_V nL sh K cells slots (pc + n) S') : rf_V nL sh K cells slots pc S := by
  obtain ⟨r, hd, hco⟩ := rf_ok_spec hok
  obtain ⟨p, l, e, R, s, m, args, below, meth, c, D, ad, cad, A, Q⟩ := K
  obtain ⟨lv, st, M⟩ := S
  obtain ⟨hx, hb, hml, hown, hts, hK, hT, hA, hlk, hXs, hdf, hdl, hwf⟩ := C
  intro H locs ls hPw hD hS hl
  have k : ∀ (H : Heap) (locs : List Loc) (ls : Array Slot), va_P D vwCl (rf_ws ad cad sh S'.2.2) H → va_D A (rf_ws ad cad sh S'.2.2) → va_S A s.heap H locs → lv_has ls nL (rf_lc ad S'.1) → W p l e R s m args below meth c H locs cells slots Q (F0 m (pc + n) ls (S'.2.1.map (rf_cv ad))) := k
  simp only [rf_co, Bool.and_eq_true, decide_eq_true_eq, beq_iff_eq] at hco
  obtain ⟨rfl, rfl⟩ := hco
  simp only [rf_1] at h1
  split at h1
  · cases h1
    exact lv_iushr hx hb hd rfl (k H locs ls hPw hD hS hl)
  · cases h1
theorem rf_s_lshl {K : rf_K} {S S' : rf_S} {Ps : List Prop} {n : Nat} (C : rf_Ctx o cc nL d sh K) (hok : rf_ok o nL cc pc (.lshl) n = true) (h1 : rf_1 sh (.lshl) S = some (Ps, S')) (hP : ∀ p ∈ Ps, p) (k : rf_V nL sh K cells slots (pc + n) S') : rf_V nL sh K cells slots pc S := by
  obtain ⟨r, hd, hco⟩ := rf_ok_spec hok
  obtain ⟨p, l, e, R, s, m, args, below, meth, c, D, ad, cad, A, Q⟩ := K
  obtain ⟨lv, st, M⟩ := S
  obtain ⟨hx, hb, hml, hown, hts, hK, hT, hA, hlk, hXs, hdf, hdl, hwf⟩ := C
  intro H locs ls hPw hD hS hl
  have k : ∀ (H : Heap) (locs : List Loc) (ls : Array Slot), va_P D vwCl (rf_ws ad cad sh S'.2.2) H → va_D A (rf_ws ad cad sh S'.2.2) → va_S A s.heap H locs → lv_has ls nL (rf_lc ad S'.1) → W p l e R s m args below meth c H locs cells slots Q (F0 m (pc + n) ls (S'.2.1.map (rf_cv ad))) := k
  simp only [rf_co, Bool.and_eq_true, decide_eq_true_eq, beq_iff_eq] at hco
  obtain ⟨rfl, rfl⟩ := hco
  simp only [rf_1] at h1
  split at h1
  · cases h1
    exact lv_lshl hx hb hd rfl (k H locs ls hPw hD hS hl)
  · cases h1
theorem rf_s_lshr {K : rf_K} {S S' : rf_S} {Ps : List Prop} {n : Nat} (C : rf_Ctx o cc nL d sh K) (hok : rf_ok o nL cc pc (.lshr) n = true) (h1 : rf_1 sh (.lshr) S = some (Ps, S')) (hP : ∀ p ∈ Ps, p) (k : rf_V nL sh K cells slots (pc + n) S') : rf_V nL sh K cells slots pc S := by
  obtain ⟨r, hd, hco⟩ := rf_ok_spec hok
  obtain ⟨p, l, e, R, s, m, args, below, meth, c, D, ad, cad, A, Q⟩ := K
  obtain ⟨lv, st, M⟩ := S
  obtain ⟨hx, hb, hml, hown, hts, hK, hT, hA, hlk, hXs, hdf, hdl, hwf⟩ := C
  intro H locs ls hPw hD hS hl
  have k : ∀ (H : Heap) (locs : List Loc) (ls : Array Slot), va_P D vwCl (rf_ws ad cad sh S'.2.2) H → va_D A (rf_ws ad cad sh S'.2.2) → va_S A s.heap H locs → lv_has ls nL (rf_lc ad S'.1) → W p l e R s m args below meth c H locs cells slots Q (F0 m (pc + n) ls (S'.2.1.map (rf_cv ad))) := k
  simp only [rf_co, Bool.and_eq_true, decide_eq_true_eq, beq_iff_eq] at hco
  obtain ⟨rfl, rfl⟩ := hco
  simp only [rf_1] at h1
  split at h1
  · cases h1
    exact lv_lshr hx hb hd rfl (k H locs ls hPw hD hS hl)
  · cases h1
theorem rf_s_lushr {K : rf_K} {S S' : rf_S} {Ps : List Prop} {n : Nat} (C : rf_Ctx o cc nL d sh K) (hok : rf_ok o nL cc pc (.lushr) n = true) (h1 : rf_1 sh (.lushr) S = some (Ps, S')) (hP : ∀ p ∈ Ps, p) (k : rf_V nL sh K cells slots (pc + n) S') : rf_V nL sh K cells slots pc S := by
  obtain ⟨r, hd, hco⟩ := rf_ok_spec hok
  obtain ⟨p, l, e, R, s, m, args, below, meth, c, D, ad, cad, A, Q⟩ := K
  obtain ⟨lv, st, M⟩ := S
  obtain ⟨hx, hb, hml, hown, hts, hK, hT, hA, hlk, hXs, hdf, hdl, hwf⟩ := C
  intro H locs ls hPw hD hS hl
  have k : ∀ (H : Heap) (locs : List Loc) (ls : Array Slot), va_P D vwCl (rf_ws ad cad sh S'.2.2) H → va_D A (rf_ws ad cad sh S'.2.2) → va_S A s.heap H locs → lv_has ls nL (rf_lc ad S'.1) → W p l e R s m args below meth c H locs cells slots Q (F0 m (pc + n) ls (S'.2.1.map (rf_cv ad))) := k
  simp only [rf_co, Bool.and_eq_true, decide_eq_true_eq, beq_iff_eq] at hco
  obtain ⟨rfl, rfl⟩ := hco
  simp only [rf_1] at h1
  split at h1
  · cases h1
    exact lv_lushr hx hb hd rfl (k H locs ls hPw hD hS hl)
  · cases h1
theorem rf_s_i2l {K : rf_K} {S S' : rf_S} {Ps : List Prop} {n : Nat} (C : rf_Ctx o cc nL d sh K) (hok : rf_ok o nL cc pc (.i2l) n = true) (h1 : rf_1 sh (.i2l) S = some (Ps, S')) (hP : ∀ p ∈ Ps, p) (k : rf_V nL sh K cells slots (pc + n) S') : rf_V nL sh K cells slots pc S := by
  obtain ⟨r, hd, hco⟩ := rf_ok_spec hok
  obtain ⟨p, l, e, R, s, m, args, below, meth, c, D, ad, cad, A, Q⟩ := K
  obtain ⟨lv, st, M⟩ := S
  obtain ⟨hx, hb, hml, hown, hts, hK, hT, hA, hlk, hXs, hdf, hdl, hwf⟩ := C
  intro H locs ls hPw hD hS hl
  have k : ∀ (H : Heap) (locs : List Loc) (ls : Array Slot), va_P D vwCl (rf_ws ad cad sh S'.2.2) H → va_D A (rf_ws ad cad sh S'.2.2) → va_S A s.heap H locs → lv_has ls nL (rf_lc ad S'.1) → W p l e R s m args below meth c H locs cells slots Q (F0 m (pc + n) ls (S'.2.1.map (rf_cv ad))) := k
  simp only [rf_co, Bool.and_eq_true, decide_eq_true_eq, beq_iff_eq] at hco
  obtain ⟨rfl, rfl⟩ := hco
  simp only [rf_1] at h1
  split at h1
  · cases h1
    exact lv_i2l hx hb hd rfl (k H locs ls hPw hD hS hl)
  · cases h1
theorem rf_s_l2i {K : rf_K} {S S' : rf_S} {Ps : List Prop} {n : Nat} (C : rf_Ctx o cc nL d sh K) (hok : rf_ok o nL cc pc (.l2i) n = true) (h1 : rf_1 sh (.l2i) S = some (Ps, S')) (hP : ∀ p ∈ Ps, p) (k : rf_V nL sh K cells slots (pc + n) S') : rf_V nL sh K cells slots pc S := by
  obtain ⟨r, hd, hco⟩ := rf_ok_spec hok
  obtain ⟨p, l, e, R, s, m, args, below, meth, c, D, ad, cad, A, Q⟩ := K
  obtain ⟨lv, st, M⟩ := S
  obtain ⟨hx, hb, hml, hown, hts, hK, hT, hA, hlk, hXs, hdf, hdl, hwf⟩ := C
  intro H locs ls hPw hD hS hl
  have k : ∀ (H : Heap) (locs : List Loc) (ls : Array Slot), va_P D vwCl (rf_ws ad cad sh S'.2.2) H → va_D A (rf_ws ad cad sh S'.2.2) → va_S A s.heap H locs → lv_has ls nL (rf_lc ad S'.1) → W p l e R s m args below meth c H locs cells slots Q (F0 m (pc + n) ls (S'.2.1.map (rf_cv ad))) := k
  simp only [rf_co, Bool.and_eq_true, decide_eq_true_eq, beq_iff_eq] at hco
  obtain ⟨rfl, rfl⟩ := hco
  simp only [rf_1] at h1
  split at h1
  · cases h1
    exact lv_l2i hx hb hd rfl (k H locs ls hPw hD hS hl)
  · cases h1
theorem rf_s_i2b {K : rf_K} {S S' : rf_S} {Ps : List Prop} {n : Nat} (C : rf_Ctx o cc nL d sh K) (hok : rf_ok o nL cc pc (.i2b) n = true) (h1 : rf_1 sh (.i2b) S = some (Ps, S')) (hP : ∀ p ∈ Ps, p) (k : rf_V nL sh K cells slots (pc + n) S') : rf_V nL sh K cells slots pc S := by
  obtain ⟨r, hd, hco⟩ := rf_ok_spec hok
  obtain ⟨p, l, e, R, s, m, args, below, meth, c, D, ad, cad, A, Q⟩ := K
  obtain ⟨lv, st, M⟩ := S
  obtain ⟨hx, hb, hml, hown, hts, hK, hT, hA, hlk, hXs, hdf, hdl, hwf⟩ := C
  intro H locs ls hPw hD hS hl
  have k : ∀ (H : Heap) (locs : List Loc) (ls : Array Slot), va_P D vwCl (rf_ws ad cad sh S'.2.2) H → va_D A (rf_ws ad cad sh S'.2.2) → va_S A s.heap H locs → lv_has ls nL (rf_lc ad S'.1) → W p l e R s m args below meth c H locs cells slots Q (F0 m (pc + n) ls (S'.2.1.map (rf_cv ad))) := k
  simp only [rf_co, Bool.and_eq_true, decide_eq_true_eq, beq_iff_eq] at hco
  obtain ⟨rfl, rfl⟩ := hco
  simp only [rf_1] at h1
  split at h1
  · cases h1
    exact lv_i2b hx hb hd rfl (k H locs ls hPw hD hS hl)
  · cases h1
theorem rf_s_i2c {K : rf_K} {S S' : rf_S} {Ps : List Prop} {n : Nat} (C : rf_Ctx o cc nL d sh K) (hok : rf_ok o nL cc pc (.i2c) n = true) (h1 : rf_1 sh (.i2c) S = some (Ps, S')) (hP : ∀ p ∈ Ps, p) (k : rf_V nL sh K cells slots (pc + n) S') : rf_V nL sh K cells slots pc S := by
  obtain ⟨r, hd, hco⟩ := rf_ok_spec hok
  obtain ⟨p, l, e, R, s, m, args, below, meth, c, D, ad, cad, A, Q⟩ := K
  obtain ⟨lv, st, M⟩ := S
  obtain ⟨hx, hb, hml, hown, hts, hK, hT, hA, hlk, hXs, hdf, hdl, hwf⟩ := C
  intro H locs ls hPw hD hS hl
  have k : ∀ (H : Heap) (locs : List Loc) (ls : Array Slot), va_P D vwCl (rf_ws ad cad sh S'.2.2) H → va_D A (rf_ws ad cad sh S'.2.2) → va_S A s.heap H locs → lv_has ls nL (rf_lc ad S'.1) → W p l e R s m args below meth c H locs cells slots Q (F0 m (pc + n) ls (S'.2.1.map (rf_cv ad))) := k
  simp only [rf_co, Bool.and_eq_true, decide_eq_true_eq, beq_iff_eq] at hco
  obtain ⟨rfl, rfl⟩ := hco
  simp only [rf_1] at h1
  split at h1
  · cases h1
    exact lv_i2c hx hb hd rfl (k H locs ls hPw hD hS hl)
  · cases h1
theorem rf_s_idiv {K : rf_K} {S S' : rf_S} {Ps : List Prop} {n : Nat} (C : rf_Ctx o cc nL d sh K) (hok : rf_ok o nL cc pc (.idiv) n = true) (h1 : rf_1 sh (.idiv) S = some (Ps, S')) (hP : ∀ p ∈ Ps, p) (k : rf_V nL sh K cells slots (pc + n) S') : rf_V nL sh K cells slots pc S := by
  obtain ⟨r, hd, hco⟩ := rf_ok_spec hok
  obtain ⟨p, l, e, R, s, m, args, below, meth, c, D, ad, cad, A, Q⟩ := K
  obtain ⟨lv, st, M⟩ := S
  obtain ⟨hx, hb, hml, hown, hts, hK, hT, hA, hlk, hXs, hdf, hdl, hwf⟩ := C
  intro H locs ls hPw hD hS hl
  have k : ∀ (H : Heap) (locs : List Loc) (ls : Array Slot), va_P D vwCl (rf_ws ad cad sh S'.2.2) H → va_D A (rf_ws ad cad sh S'.2.2) → va_S A s.heap H locs → lv_has ls nL (rf_lc ad S'.1) → W p l e R s m args below meth c H locs cells slots Q (F0 m (pc + n) ls (S'.2.1.map (rf_cv ad))) := k
  simp only [rf_co, Bool.and_eq_true, decide_eq_true_eq, beq_iff_eq] at hco
  obtain ⟨rfl, rfl⟩ := hco
  simp only [rf_1] at h1
  split at h1
  · cases h1
    exact lv_idiv hx hb hd (hP _ List.mem_cons_self) (k H locs ls hPw hD hS hl)
  · cases h1
theorem rf_s_irem {K : rf_K} {S S' : rf_S} {Ps : List Prop} {n : Nat} (C : rf_Ctx o cc nL d sh K) (hok : rf_ok o nL cc pc (.irem) n = true) (h1 : rf_1 sh (.irem) S = some (Ps, S')) (hP : ∀ p ∈ Ps, p) (k : rf_V nL sh K cells slots (pc + n) S') : rf_V nL sh K cells slots pc S := by
  obtain ⟨r, hd, hco⟩ := rf_ok_spec hok
  obtain ⟨p, l, e, R, s, m, args, below, meth, c, D, ad, cad, A, Q⟩ := K
  obtain ⟨lv, st, M⟩ := S
  obtain ⟨hx, hb, hml, hown, hts, hK, hT, hA, hlk, hXs, hdf, hdl, hwf⟩ := C
  intro H locs ls hPw hD hS hl
  have k : ∀ (H : Heap) (locs : List Loc) (ls : Array Slot), va_P D vwCl (rf_ws ad cad sh S'.2.2) H → va_D A (rf_ws ad cad sh S'.2.2) → va_S A s.heap H locs → lv_has ls nL (rf_lc ad S'.1) → W p l e R s m args below meth c H locs cells slots Q (F0 m (pc + n) ls (S'.2.1.map (rf_cv ad))) := k
  simp only [rf_co, Bool.and_eq_true, decide_eq_true_eq, beq_iff_eq] at hco
  obtain ⟨rfl, rfl⟩ := hco
  simp only [rf_1] at h1
  split at h1
  · cases h1
    exact lv_irem hx hb hd (hP _ List.mem_cons_self) (k H locs ls hPw hD hS hl)
  · cases h1
theorem rf_s_ldiv {K : rf_K} {S S' : rf_S} {Ps : List Prop} {n : Nat} (C : rf_Ctx o cc nL d sh K) (hok : rf_ok o nL cc pc (.ldiv) n = true) (h1 : rf_1 sh (.ldiv) S = some (Ps, S')) (hP : ∀ p ∈ Ps, p) (k : rf_V nL sh K cells slots (pc + n) S') : rf_V nL sh K cells slots pc S := by
  obtain ⟨r, hd, hco⟩ := rf_ok_spec hok
  obtain ⟨p, l, e, R, s, m, args, below, meth, c, D, ad, cad, A, Q⟩ := K
  obtain ⟨lv, st, M⟩ := S
  obtain ⟨hx, hb, hml, hown, hts, hK, hT, hA, hlk, hXs, hdf, hdl, hwf⟩ := C
  intro H locs ls hPw hD hS hl
  have k : ∀ (H : Heap) (locs : List Loc) (ls : Array Slot), va_P D vwCl (rf_ws ad cad sh S'.2.2) H → va_D A (rf_ws ad cad sh S'.2.2) → va_S A s.heap H locs → lv_has ls nL (rf_lc ad S'.1) → W p l e R s m args below meth c H locs cells slots Q (F0 m (pc + n) ls (S'.2.1.map (rf_cv ad))) := k
  simp only [rf_co, Bool.and_eq_true, decide_eq_true_eq, beq_iff_eq] at hco
  obtain ⟨rfl, rfl⟩ := hco
  simp only [rf_1] at h1
  split at h1
  · cases h1
    exact lv_ldiv hx hb hd (hP _ List.mem_cons_self) (k H locs ls hPw hD hS hl)
  · cases h1
theorem rf_s_lrem {K : rf_K} {S S' : rf_S} {Ps : List Prop} {n : Nat} (C : rf_Ctx o cc nL d sh K) (hok : rf_ok o nL cc pc (.lrem) n = true) (h1 : rf_1 sh (.lrem) S = some (Ps, S')) (hP : ∀ p ∈ Ps, p) (k : rf_V nL sh K cells slots (pc + n) S') : rf_V nL sh K cells slots pc S := by
  obtain ⟨r, hd, hco⟩ := rf_ok_spec hok
  obtain ⟨p, l, e, R, s, m, args, below, meth, c, D, ad, cad, A, Q⟩ := K
  obtain ⟨lv, st, M⟩ := S
  obtain ⟨hx, hb, hml, hown, hts, hK, hT, hA, hlk, hXs, hdf, hdl, hwf⟩ := C
  intro H locs ls hPw hD hS hl
  have k : ∀ (H : Heap) (locs : List Loc) (ls : Array Slot), va_P D vwCl (rf_ws ad cad sh S'.2.2) H → va_D A (rf_ws ad cad sh S'.2.2) → va_S A s.heap H locs → lv_has ls nL (rf_lc ad S'.1) → W p l e R s m args below meth c H locs cells slots Q (F0 m (pc + n) ls (S'.2.1.map (rf_cv ad))) := k
  simp only [rf_co, Bool.and_eq_true, decide_eq_true_eq, beq_iff_eq] at hco
  obtain ⟨rfl, rfl⟩ := hco
  simp only [rf_1] at h1
  split at h1
  · cases h1
    exact lv_lrem hx hb hd (hP _ List.mem_cons_self) (k H locs ls hPw hD hS hl)
  · cases h1
theorem rf_s_lcmp {K : rf_K} {S S' : rf_S} {Ps : List Prop} {n : Nat} (C : rf_Ctx o cc nL d sh K) (hok : rf_ok o nL cc pc (.lcmp) n = true) (h1 : rf_1 sh (.lcmp) S = some (Ps, S')) (hP : ∀ p ∈ Ps, p) (k : rf_V nL sh K cells slots (pc + n) S') : rf_V nL sh K cells slots pc S := by
  obtain ⟨r, hd, hco⟩ := rf_ok_spec hok
  obtain ⟨p, l, e, R, s, m, args, below, meth, c, D, ad, cad, A, Q⟩ := K
  obtain ⟨lv, st, M⟩ := S
  obtain ⟨hx, hb, hml, hown, hts, hK, hT, hA, hlk, hXs, hdf, hdl, hwf⟩ := C
  intro H locs ls hPw hD hS hl
  have k : ∀ (H : Heap) (locs : List Loc) (ls : Array Slot), va_P D vwCl (rf_ws ad cad sh S'.2.2) H → va_D A (rf_ws ad cad sh S'.2.2) → va_S A s.heap H locs → lv_has ls nL (rf_lc ad S'.1) → W p l e R s m args below meth c H locs cells slots Q (F0 m (pc + n) ls (S'.2.1.map (rf_cv ad))) := k
  simp only [rf_co, Bool.and_eq_true, decide_eq_true_eq, beq_iff_eq] at hco
  obtain ⟨rfl, rfl⟩ := hco
  simp only [rf_1] at h1
  split at h1
  · cases h1
    exact W.lcmp hx hb hd (k H locs ls hPw hD hS hl)
  · cases h1
theorem rf_s_f2i {K : rf_K} {S S' : rf_S} {Ps : List Prop} {n : Nat} (C : rf_Ctx o cc nL d sh K) (hok : rf_ok o nL cc pc (.f2i) n = true) (h1 : rf_1 sh (.f2i) S = some (Ps, S')) (hP : ∀ p ∈ Ps, p) (k : rf_V nL sh K cells slots (pc + n) S') : rf_V nL sh K cells slots pc S := by
  obtain ⟨r, hd, hco⟩ := rf_ok_spec hok
  obtain ⟨p, l, e, R, s, m, args, below, meth, c, D, ad, cad, A, Q⟩ := K
  obtain ⟨lv, st, M⟩ := S
  obtain ⟨hx, hb, hml, hown, hts, hK, hT, hA, hlk, hXs, hdf, hdl, hwf⟩ := C
  intro H locs ls hPw hD hS hl
  have k : ∀ (H : Heap) (locs : List Loc) (ls : Array Slot), va_P D vwCl (rf_ws ad cad sh S'.2.2) H → va_D A (rf_ws ad cad sh S'.2.2) → va_S A s.heap H locs → lv_has ls nL (rf_lc ad S'.1) → W p l e R s m args below meth c H locs cells slots Q (F0 m (pc + n) ls (S'.2.1.map (rf_cv ad))) := k
  simp only [rf_co, Bool.and_eq_true, decide_eq_true_eq, beq_iff_eq] at hco
  obtain ⟨rfl, rfl⟩ := hco
  simp only [rf_1] at h1
  split at h1
  · cases h1
    exact lv_f2i hx hb hd (k H locs ls hPw hD hS hl)
  · cases h1
theorem rf_s_fcmp {K : rf_K} {S S' : rf_S} {Ps : List Prop} {n : Nat} {op : CmpOp} (C : rf_Ctx o cc nL d sh K) (hok : rf_ok o nL cc pc (.fcmp op) n = true) (h1 : rf_1 sh (.fcmp op) S = some (Ps, S')) (hP : ∀ p ∈ Ps, p) (k : rf_V nL sh K cells slots (pc + n) S') : rf_V nL sh K cells slots pc S := by
  obtain ⟨r, hd, hco⟩ := rf_ok_spec hok
  obtain ⟨p, l, e, R, s, m, args, below, meth, c, D, ad, cad, A, Q⟩ := K
  obtain ⟨lv, st, M⟩ := S
  obtain ⟨hx, hb, hml, hown, hts, hK, hT, hA, hlk, hXs, hdf, hdl, hwf⟩ := C
  intro H locs ls hPw hD hS hl
  have k : ∀ (H : Heap) (locs : List Loc) (ls : Array Slot), va_P D vwCl (rf_ws ad cad sh S'.2.2) H → va_D A (rf_ws ad cad sh S'.2.2) → va_S A s.heap H locs → lv_has ls nL (rf_lc ad S'.1) → W p l e R s m args below meth c H locs cells slots Q (F0 m (pc + n) ls (S'.2.1.map (rf_cv ad))) := k
  simp only [rf_co, Bool.and_eq_true, decide_eq_true_eq, beq_iff_eq] at hco
  obtain ⟨rfl, rfl⟩ := hco
  simp only [rf_1] at h1
  split at h1
  · cases h1
    exact lv_fcmp hx hb hd (k H locs ls hPw hD hS hl)
  · cases h1
theorem rf_s_aconst_null {K : rf_K} {S S' : rf_S} {Ps : List Prop} {n : Nat} (C : rf_Ctx o cc nL d sh K) (hok : rf_ok o nL cc pc (.aconst_null) n = true) (h1 : rf_1 sh (.aconst_null) S = some (Ps, S')) (hP : ∀ p ∈ Ps, p) (k : rf_V nL sh K cells slots (pc + n) S') : rf_V nL sh K cells slots pc S := by
  obtain ⟨r, hd, hco⟩ := rf_ok_spec hok
  obtain ⟨p, l, e, R, s, m, args, below, meth, c, D, ad, cad, A, Q⟩ := K
  obtain ⟨lv, st, M⟩ := S
  obtain ⟨hx, hb, hml, hown, hts, hK, hT, hA, hlk, hXs, hdf, hdl, hwf⟩ := C
  intro H locs ls hPw hD hS hl
  have k : ∀ (H : Heap) (locs : List Loc) (ls : Array Slot), va_P D vwCl (rf_ws ad cad sh S'.2.2) H → va_D A (rf_ws ad cad sh S'.2.2) → va_S A s.heap H locs → lv_has ls nL (rf_lc ad S'.1) → W p l e R s m args below meth c H locs cells slots Q (F0 m (pc + n) ls (S'.2.1.map (rf_cv ad))) := k
  simp only [rf_co, Bool.and_eq_true, decide_eq_true_eq, beq_iff_eq] at hco
  obtain ⟨rfl, rfl⟩ := hco
  simp only [rf_1] at h1
  cases h1
  exact lv_null hx hb hd (k H locs ls hPw hD hS hl)
theorem rf_s_dup {K : rf_K} {S S' : rf_S} {Ps : List Prop} {n : Nat} (C : rf_Ctx o cc nL d sh K) (hok : rf_ok o nL cc pc (.dup) n = true) (h1 : rf_1 sh (.dup) S = some (Ps, S')) (hP : ∀ p ∈ Ps, p) (k : rf_V nL sh K cells slots (pc + n) S') : rf_V nL sh K cells slots pc S := by
  obtain ⟨r, hd, hco⟩ := rf_ok_spec hok
  obtain ⟨p, l, e, R, s, m, args, below, meth, c, D, ad, cad, A, Q⟩ := K
  obtain ⟨lv, st, M⟩ := S
  obtain ⟨hx, hb, hml, hown, hts, hK, hT, hA, hlk, hXs, hdf, hdl, hwf⟩ := C
  intro H locs ls hPw hD hS hl
  have k : ∀ (H : Heap) (locs : List Loc) (ls : Array Slot), va_P D vwCl (rf_ws ad cad sh S'.2.2) H → va_D A (rf_ws ad cad sh S'.2.2) → va_S A s.heap H locs → lv_has ls nL (rf_lc ad S'.1) → W p l e R s m args below meth c H locs cells slots Q (F0 m (pc + n) ls (S'.2.1.map (rf_cv ad))) := k
  simp only [rf_co, Bool.and_eq_true, decide_eq_true_eq, beq_iff_eq] at hco
  obtain ⟨rfl, rfl⟩ := hco
  simp only [rf_1] at h1
  split at h1
  · cases h1
    exact lv_dup hx hb hd rfl (k H locs ls hPw hD hS hl)
  · cases h1
    exact lv_dup hx hb hd rfl (k H locs ls hPw hD hS hl)
  · cases h1
theorem rf_s_pop {K : rf_K} {S S' : rf_S} {Ps : List Prop} {n : Nat} (C : rf_Ctx o cc nL d sh K) (hok : rf_ok o nL cc pc (.pop) n = true) (h1 : rf_1 sh (.pop) S = some (Ps, S')) (hP : ∀ p ∈ Ps, p) (k : rf_V nL sh K cells slots (pc + n) S') : rf_V nL sh K cells slots pc S := by
  obtain ⟨r, hd, hco⟩ := rf_ok_spec hok
  obtain ⟨p, l, e, R, s, m, args, below, meth, c, D, ad, cad, A, Q⟩ := K
  obtain ⟨lv, st, M⟩ := S
  obtain ⟨hx, hb, hml, hown, hts, hK, hT, hA, hlk, hXs, hdf, hdl, hwf⟩ := C
  intro H locs ls hPw hD hS hl
  have k : ∀ (H : Heap) (locs : List Loc) (ls : Array Slot), va_P D vwCl (rf_ws ad cad sh S'.2.2) H → va_D A (rf_ws ad cad sh S'.2.2) → va_S A s.heap H locs → lv_has ls nL (rf_lc ad S'.1) → W p l e R s m args below meth c H locs cells slots Q (F0 m (pc + n) ls (S'.2.1.map (rf_cv ad))) := k
  simp only [rf_co, Bool.and_eq_true, decide_eq_true_eq, beq_iff_eq] at hco
  obtain ⟨rfl, rfl⟩ := hco
  simp only [rf_1] at h1
  split at h1
  · cases h1
    exact lv_pop hx hb hd rfl (k H locs ls hPw hD hS hl)
  · cases h1
    exact lv_pop hx hb hd rfl (k H locs ls hPw hD hS hl)
  · cases h1
theorem rf_s_dup2 {K : rf_K} {S S' : rf_S} {Ps : List Prop} {n : Nat} (C : rf_Ctx o cc nL d sh K) (hok : rf_ok o nL cc pc (.dup2) n = true) (h1 : rf_1 sh (.dup2) S = some (Ps, S')) (hP : ∀ p ∈ Ps, p) (k : rf_V nL sh K cells slots (pc + n) S') : rf_V nL sh K cells slots pc S := by
  obtain ⟨r, hd, hco⟩ := rf_ok_spec hok
  obtain ⟨p, l, e, R, s, m, args, below, meth, c, D, ad, cad, A, Q⟩ := K
  obtain ⟨lv, st, M⟩ := S
  obtain ⟨hx, hb, hml, hown, hts, hK, hT, hA, hlk, hXs, hdf, hdl, hwf⟩ := C
  intro H locs ls hPw hD hS hl
  have k : ∀ (H : Heap) (locs : List Loc) (ls : Array Slot), va_P D vwCl (rf_ws ad cad sh S'.2.2) H → va_D A (rf_ws ad cad sh S'.2.2) → va_S A s.heap H locs → lv_has ls nL (rf_lc ad S'.1) → W p l e R s m args below meth c H locs cells slots Q (F0 m (pc + n) ls (S'.2.1.map (rf_cv ad))) := k
  simp only [rf_co, Bool.and_eq_true, decide_eq_true_eq, beq_iff_eq] at hco
  obtain ⟨rfl, rfl⟩ := hco
  simp only [rf_1] at h1
  split at h1
  · cases h1
    exact lv_dup2_11 hx hb hd rfl rfl (k H locs ls hPw hD hS hl)
  · cases h1
    exact lv_dup2_11 hx hb hd rfl rfl (k H locs ls hPw hD hS hl)
  · cases h1
    exact lv_dup2_2 hx hb hd rfl (k H locs ls hPw hD hS hl)
  · cases h1
theorem rf_s_iconst {K : rf_K} {S S' : rf_S} {Ps : List Prop} {n : Nat} {z : Int} (C : rf_Ctx o cc nL d sh K) (hok : rf_ok o nL cc pc (.iconst z) n = true) (h1 : rf_1 sh (.iconst z) S = some (Ps, S')) (hP : ∀ p ∈ Ps, p) (k : rf_V nL sh K cells slots (pc + n) S') : rf_V nL sh K cells slots pc S := by
  obtain ⟨r, hd, hco⟩ := rf_ok_spec hok
  obtain ⟨p, l, e, R, s, m, args, below, meth, c, D, ad, cad, A, Q⟩ := K
  obtain ⟨lv, st, M⟩ := S
  obtain ⟨hx, hb, hml, hown, hts, hK, hT, hA, hlk, hXs, hdf, hdl, hwf⟩ := C
  intro H locs ls hPw hD hS hl
  have k : ∀ (H : Heap) (locs : List Loc) (ls : Array Slot), va_P D vwCl (rf_ws ad cad sh S'.2.2) H → va_D A (rf_ws ad cad sh S'.2.2) → va_S A s.heap H locs → lv_has ls nL (rf_lc ad S'.1) → W p l e R s m args below meth c H locs cells slots Q (F0 m (pc + n) ls (S'.2.1.map (rf_cv ad))) := k
  simp only [rf_1] at h1
  cases h1
  simp only [rf_co] at hco
  split at hco
  · simp only [Bool.and_eq_true, beq_iff_eq] at hco
    obtain ⟨rfl, rfl⟩ := hco
    exact lv_iconst hx hb hd rfl (k H locs ls hPw hD hS hl)
  · simp only [Bool.and_eq_true, beq_iff_eq] at hco
    obtain ⟨he, rfl⟩ := hco
    exact lv_bipush hx hb hd he (k H locs ls hPw hD hS hl)
  · simp only [Bool.and_eq_true, beq_iff_eq] at hco
    obtain ⟨he, rfl⟩ := hco
    exact lv_sipush hx hb hd he (k H locs ls hPw hD hS hl)
  · simp only [Bool.and_eq_true] at hco
    obtain ⟨he, hn⟩ := hco
    obtain rfl : n = 2 := by simpa using hn
    exact lv_ldc hx hb hown (hts _ (rf_CI_of he)) hd (k H locs ls hPw hD hS hl)
  · simp only [Bool.and_eq_true] at hco
    obtain ⟨he, hn⟩ := hco
    obtain rfl : n = 3 := by simpa using hn
    exact lv_ldcw hx hb hown (hts _ (rf_CI_of he)) hd (k H locs ls hPw hD hS hl)
  · cases hco
theorem rf_s_lconst {K : rf_K} {S S' : rf_S} {Ps : List Prop} {n : Nat} {z : Int} (C : rf_Ctx o cc nL d sh K) (hok : rf_ok o nL cc pc (.goto_w z) n = true) (h1 : rf_1 sh (.goto_w z) S = some (Ps, S')) (hP : ∀ p ∈ Ps, p) (k : rf_V nL sh K cells slots (pc + n) S') : rf_V nL sh K cells slots pc S := by
  obtain ⟨r, hd, hco⟩ := rf_ok_spec hok
  obtain ⟨p, l, e, R, s, m, args, below, meth, c, D, ad, cad, A, Q⟩ := K
  obtain ⟨lv, st, M⟩ := S
  obtain ⟨hx, hb, hml, hown, hts, hK, hT, hA, hlk, hXs, hdf, hdl, hwf⟩ := C
  intro H locs ls hPw hD hS hl
  have k : ∀ (H : Heap) (locs : List Loc) (ls : Array Slot), va_P D vwCl (rf_ws ad cad sh S'.2.2) H → va_D A (rf_ws ad cad sh S'.2.2) → va_S A s.heap H locs → lv_has ls nL (rf_lc ad S'.1) → W p l e R s m args below meth c H locs cells slots Q (F0 m (pc + n) ls (S'.2.1.map (rf_cv ad))) := k
  simp only [rf_1] at h1
  cases h1
  simp only [rf_co] at hco
  split at hco
  · simp only [Bool.and_eq_true, beq_iff_eq] at hco
    obtain ⟨he, rfl⟩ := hco
    exact lv_lconst hx hb hd he (k H locs ls hPw hD hS hl)
  · simp only [Bool.and_eq_true] at hco
    obtain ⟨he, hn⟩ := hco
    obtain rfl : n = 3 := by simpa using hn
    exact lv_ldc2 hx hb hown (hts _ (rf_CL_of he)) hd (k H locs ls hPw hD hS hl)
  · cases hco
theorem rf_s_iload {K : rf_K} {S S' : rf_S} {Ps : List Prop} {n : Nat} {a : Nat} (C : rf_Ctx o cc nL d sh K) (hok : rf_ok o nL cc pc (.iload a) n = true) (h1 : rf_1 sh (.iload a) S = some (Ps, S')) (hP : ∀ p ∈ Ps, p) (k : rf_V nL sh K cells slots (pc + n) S') : rf_V nL sh K cells slots pc S := by
  obtain ⟨r, hd, hco⟩ := rf_ok_spec hok
  obtain ⟨p, l, e, R, s, m, args, below, meth, c, D, ad, cad, A, Q⟩ := K
  obtain ⟨lv, st, M⟩ := S
  obtain ⟨hx, hb, hml, hown, hts, hK, hT, hA, hlk, hXs, hdf, hdl, hwf⟩ := C
  intro H locs ls hPw hD hS hl
  have k : ∀ (H : Heap) (locs : List Loc) (ls : Array Slot), va_P D vwCl (rf_ws ad cad sh S'.2.2) H → va_D A (rf_ws ad cad sh S'.2.2) → va_S A s.heap H locs → lv_has ls nL (rf_lc ad S'.1) → W p l e R s m args below meth c H locs cells slots Q (F0 m (pc + n) ls (S'.2.1.map (rf_cv ad))) := k
  simp only [rf_1] at h1
  split at h1
  · rename_i x hg
    cases h1
    have hat := rf_get_has hl hg
    simp only [rf_co] at hco
    split at hco
    · simp only [Bool.and_eq_true, beq_iff_eq] at hco
      obtain ⟨he, rfl⟩ := hco
      exact lv_iload_n hx hb hd he hat (k H locs ls hPw hD hS hl)
    · simp only [Bool.and_eq_true, beq_iff_eq] at hco
      obtain ⟨rfl, rfl⟩ := hco
      exact lv_iload hx hb hd hat (k H locs ls hPw hD hS hl)
    · cases hco
  · cases h1
theorem rf_s_lload {K : rf_K} {S S' : rf_S} {Ps : List Prop} {n : Nat} {a : Nat} (C : rf_Ctx o cc nL d sh K) (hok : rf_ok o nL cc pc (.lload a) n = true) (h1 : rf_1 sh (.lload a) S = some (Ps, S')) (hP : ∀ p ∈ Ps, p) (k : rf_V nL sh K cells slots (pc + n) S') : rf_V nL sh K cells slots pc S := by
  obtain ⟨r, hd, hco⟩ := rf_ok_spec hok
  obtain ⟨p, l, e, R, s, m, args, below, meth, c, D, ad, cad, A, Q⟩ := K
  obtain ⟨lv, st, M⟩ := S
  obtain ⟨hx, hb, hml, hown, hts, hK, hT, hA, hlk, hXs, hdf, hdl, hwf⟩ := C
  intro H locs ls hPw hD hS hl
  have k : ∀ (H : Heap) (locs : List Loc) (ls : Array Slot), va_P D vwCl (rf_ws ad cad sh S'.2.2) H → va_D A (rf_ws ad cad sh S'.2.2) → va_S A s.heap H locs → lv_has ls nL (rf_lc ad S'.1) → W p l e R s m args below meth c H locs cells slots Q (F0 m (pc + n) ls (S'.2.1.map (rf_cv ad))) := k
  simp only [rf_1] at h1
  split at h1
  · rename_i x hg
    cases h1
    have hat := rf_get_has hl hg
    simp only [rf_co] at hco
    split at hco
    · simp only [Bool.and_eq_true, beq_iff_eq] at hco
      obtain ⟨he, rfl⟩ := hco
      exact lv_lload_n hx hb hd he hat (k H locs ls hPw hD hS hl)
    · simp only [Bool.and_eq_true, beq_iff_eq] at hco
      obtain ⟨rfl, rfl⟩ := hco
      exact lv_lload hx hb hd hat (k H locs ls hPw hD hS hl)
    · cases hco
  · cases h1
theorem rf_s_fload {K : rf_K} {S S' : rf_S} {Ps : List Prop} {n : Nat} {a : Nat} (C : rf_Ctx o cc nL d sh K) (hok : rf_ok o nL cc pc (.fload a) n = true) (h1 : rf_1 sh (.fload a) S = some (Ps, S')) (hP : ∀ p ∈ Ps, p) (k : rf_V nL sh K cells slots (pc + n) S') : rf_V nL sh K cells slots pc S := by
  obtain ⟨r, hd, hco⟩ := rf_ok_spec hok
  obtain ⟨p, l, e, R, s, m, args, below, meth, c, D, ad, cad, A, Q⟩ := K
  obtain ⟨lv, st, M⟩ := S
  obtain ⟨hx, hb, hml, hown, hts, hK, hT, hA, hlk, hXs, hdf, hdl, hwf⟩ := C
  intro H locs ls hPw hD hS hl
  have k : ∀ (H : Heap) (locs : List Loc) (ls : Array Slot), va_P D vwCl (rf_ws ad cad sh S'.2.2) H → va_D A (rf_ws ad cad sh S'.2.2) → va_S A s.heap H locs → lv_has ls nL (rf_lc ad S'.1) → W p l e R s m args below meth c H locs cells slots Q (F0 m (pc + n) ls (S'.2.1.map (rf_cv ad))) := k
  simp only [rf_1] at h1
  split at h1
  · rename_i x hg
    cases h1
    have hat := rf_get_has hl hg
    simp only [rf_co] at hco
    split at hco
    · simp only [Bool.and_eq_true, beq_iff_eq] at hco
      obtain ⟨he, rfl⟩ := hco
      exact lv_fload_n hx hb hd he hat (k H locs ls hPw hD hS hl)
    · simp only [Bool.and_eq_true, beq_iff_eq] at hco
      obtain ⟨rfl, rfl⟩ := hco
      exact lv_fload hx hb hd hat (k H locs ls hPw hD hS hl)
    · cases hco
  · cases h1
theorem rf_s_aload {K : rf_K} {S S' : rf_S} {Ps : List Prop} {n : Nat} {a : Nat} (C : rf_Ctx o cc nL d sh K) (hok : rf_ok o nL cc pc (.aload a) n = true) (h1 : rf_1 sh (.aload a) S = some (Ps, S')) (hP : ∀ p ∈ Ps, p) (k : rf_V nL sh K cells slots (pc + n) S') : rf_V nL sh K cells slots pc S := by
  obtain ⟨r, hd, hco⟩ := rf_ok_spec hok
  obtain ⟨p, l, e, R, s, m, args, below, meth, c, D, ad, cad, A, Q⟩ := K
  obtain ⟨lv, st, M⟩ := S
  obtain ⟨hx, hb, hml, hown, hts, hK, hT, hA, hlk, hXs, hdf, hdl, hwf⟩ := C
  intro H locs ls hPw hD hS hl
  have k : ∀ (H : Heap) (locs : List Loc) (ls : Array Slot), va_P D vwCl (rf_ws ad cad sh S'.2.2) H → va_D A (rf_ws ad cad sh S'.2.2) → va_S A s.heap H locs → lv_has ls nL (rf_lc ad S'.1) → W p l e R s m args below meth c H locs cells slots Q (F0 m (pc + n) ls (S'.2.1.map (rf_cv ad))) := k
  simp only [rf_1] at h1
  split at h1
  · rename_i x hg
    cases h1
    have hat := rf_get_has hl hg
    simp only [rf_co] at hco
    split at hco
    · simp only [Bool.and_eq_true, beq_iff_eq] at hco
      obtain ⟨he, rfl⟩ := hco
      exact lv_aload_n hx hb hd he hat (k H locs ls hPw hD hS hl)
    · simp only [Bool.and_eq_true, beq_iff_eq] at hco
      obtain ⟨rfl, rfl⟩ := hco
      exact lv_aload hx hb hd hat (k H locs ls hPw hD hS hl)
    · cases hco
  · cases h1
theorem rf_s_istore {K : rf_K} {S S' : rf_S} {Ps : List Prop} {n : Nat} {a : Nat} (C : rf_Ctx o cc nL d sh K) (hok : rf_ok o nL cc pc (.istore a) n = true) (h1 : rf_1 sh (.istore a) S = some (Ps, S')) (hP : ∀ p ∈ Ps, p) (k : rf_V nL sh K cells slots (pc + n) S') : rf_V nL sh K cells slots pc S := by
  obtain ⟨r, hd, hco⟩ := rf_ok_spec hok
  obtain ⟨p, l, e, R, s, m, args, below, meth, c, D, ad, cad, A, Q⟩ := K
  obtain ⟨lv, st, M⟩ := S
  obtain ⟨hx, hb, hml, hown, hts, hK, hT, hA, hlk, hXs, hdf, hdl, hwf⟩ := C
  intro H locs ls hPw hD hS hl
  have k : ∀ (H : Heap) (locs : List Loc) (ls : Array Slot), va_P D vwCl (rf_ws ad cad sh S'.2.2) H → va_D A (rf_ws ad cad sh S'.2.2) → va_S A s.heap H locs → lv_has ls nL (rf_lc ad S'.1) → W p l e R s m args below meth c H locs cells slots Q (F0 m (pc + n) ls (S'.2.1.map (rf_cv ad))) := k
  simp only [rf_1] at h1
  split at h1
  · rename_i x st0
    cases h1
    simp only [rf_co, Bool.and_eq_true, decide_eq_true_eq] at hco
    obtain ⟨hn0, hco⟩ := hco
    split at hco
    · simp only [Bool.and_eq_true, beq_iff_eq] at hco
      obtain ⟨he, rfl⟩ := hco
      exact lv_istore_n hx hb hd he hl hn0 (rf_lc_put1 ad lv a (.int x)) (fun ls' hl' => k H locs ls' hPw hD hS hl')
    · simp only [Bool.and_eq_true, beq_iff_eq] at hco
      obtain ⟨rfl, rfl⟩ := hco
      exact lv_istore hx hb hd hl hn0 (rf_lc_put1 ad lv _ (.int x)) (fun ls' hl' => k H locs ls' hPw hD hS hl')
    · cases hco
  · cases h1
theorem rf_s_fstore {K : rf_K} {S S' : rf_S} {Ps : List Prop} {n : Nat} {a : Nat} (C : rf_Ctx o cc nL d sh K) (hok : rf_ok o nL cc pc (.fstore a) n = true) (h1 : rf_1 sh (.fstore a) S = some (Ps, S')) (hP : ∀ p ∈ Ps, p) (k : rf_V nL sh K cells slots (pc + n) S') : rf_V nL sh K cells slots pc S := by
  obtain ⟨r, hd, hco⟩ := rf_ok_spec hok
  obtain ⟨p, l, e, R, s, m, args, below, meth, c, D, ad, cad, A, Q⟩ := K
  obtain ⟨lv, st, M⟩ := S
  obtain ⟨hx, hb, hml, hown, hts, hK, hT, hA, hlk, hXs, hdf, hdl, hwf⟩ := C
  intro H locs ls hPw hD hS hl
  have k : ∀ (H : Heap) (locs : List Loc) (ls : Array Slot), va_P D vwCl (rf_ws ad cad sh S'.2.2) H → va_D A (rf_ws ad cad sh S'.2.2) → va_S A s.heap H locs → lv_has ls nL (rf_lc ad S'.1) → W p l e R s m args below meth c H locs cells slots Q (F0 m (pc + n) ls (S'.2.1.map (rf_cv ad))) := k
  simp only [rf_1] at h1
  split at h1
  · rename_i x st0
    cases h1
    simp only [rf_co, Bool.and_eq_true, decide_eq_true_eq] at hco
    obtain ⟨hn0, hco⟩ := hco
    split at hco
    · simp only [Bool.and_eq_true, beq_iff_eq] at hco
      obtain ⟨he, rfl⟩ := hco
      exact lv_fstore_n hx hb hd he hl hn0 (rf_lc_put1 ad lv a (.float x)) (fun ls' hl' => k H locs ls' hPw hD hS hl')
    · simp only [Bool.and_eq_true, beq_iff_eq] at hco
      obtain ⟨rfl, rfl⟩ := hco
      exact lv_fstore hx hb hd hl hn0 (rf_lc_put1 ad lv _ (.float x)) (fun ls' hl' => k H locs ls' hPw hD hS hl')
    · cases hco
  · cases h1
theorem rf_s_astore {K : rf_K} {S S' : rf_S} {Ps : List Prop} {n : Nat} {a : Nat} (C : rf_Ctx o cc nL d sh K) (hok : rf_ok o nL cc pc (.astore a) n = true) (h1 : rf_1 sh (.astore a) S = some (Ps, S')) (hP : ∀ p ∈ Ps, p) (k : rf_V nL sh K cells slots (pc + n) S') : rf_V nL sh K cells slots pc S := by
  obtain ⟨r, hd, hco⟩ := rf_ok_spec hok
  obtain ⟨p, l, e, R, s, m, args, below, meth, c, D, ad, cad, A, Q⟩ := K
  obtain ⟨lv, st, M⟩ := S
  obtain ⟨hx, hb, hml, hown, hts, hK, hT, hA, hlk, hXs, hdf, hdl, hwf⟩ := C
  intro H locs ls hPw hD hS hl
  have k : ∀ (H : Heap) (locs : List Loc) (ls : Array Slot), va_P D vwCl (rf_ws ad cad sh S'.2.2) H → va_D A (rf_ws ad cad sh S'.2.2) → va_S A s.heap H locs → lv_has ls nL (rf_lc ad S'.1) → W p l e R s m args below meth c H locs cells slots Q (F0 m (pc + n) ls (S'.2.1.map (rf_cv ad))) := k
  simp only [rf_1] at h1
  split at h1
  · rename_i x st0
    cases h1
    simp only [rf_co, Bool.and_eq_true, decide_eq_true_eq] at hco
    obtain ⟨hn0, hco⟩ := hco
    split at hco
    · simp only [Bool.and_eq_true, beq_iff_eq] at hco
      obtain ⟨he, rfl⟩ := hco
      exact lv_astore_n hx hb hd he hl hn0 (rf_lc_put1 ad lv a (.ref x)) (fun ls' hl' => k H locs ls' hPw hD hS hl')
    · simp only [Bool.and_eq_true, beq_iff_eq] at hco
      obtain ⟨rfl, rfl⟩ := hco
      exact lv_astore hx hb hd hl hn0 (rf_lc_put1 ad lv _ (.ref x)) (fun ls' hl' => k H locs ls' hPw hD hS hl')
    · cases hco
  · cases h1
theorem rf_s_lstore {K : rf_K} {S S' : rf_S} {Ps : List Prop} {n : Nat} {a : Nat} (C : rf_Ctx o cc nL d sh K) (hok : rf_ok o nL cc pc (.lstore a) n = true) (h1 : rf_1 sh (.lstore a) S = some (Ps, S')) (hP : ∀ p ∈ Ps, p) (k : rf_V nL sh K cells slots (pc + n) S') : rf_V nL sh K cells slots pc S := by
  obtain ⟨r, hd, hco⟩ := rf_ok_spec hok
  obtain ⟨p, l, e, R, s, m, args, below, meth, c, D, ad, cad, A, Q⟩ := K
  obtain ⟨lv, st, M⟩ := S
  obtain ⟨hx, hb, hml, hown, hts, hK, hT, hA, hlk, hXs, hdf, hdl, hwf⟩ := C
  intro H locs ls hPw hD hS hl
  have k : ∀ (H : Heap) (locs : List Loc) (ls : Array Slot), va_P D vwCl (rf_ws ad cad sh S'.2.2) H → va_D A (rf_ws ad cad sh S'.2.2) → va_S A s.heap H locs → lv_has ls nL (rf_lc ad S'.1) → W p l e R s m args below meth c H locs cells slots Q (F0 m (pc + n) ls (S'.2.1.map (rf_cv ad))) := k
  simp only [rf_1] at h1
  split at h1
  · rename_i x st0
    cases h1
    simp only [rf_co, Bool.and_eq_true, decide_eq_true_eq] at hco
    obtain ⟨hn0, hco⟩ := hco
    split at hco
    · simp only [Bool.and_eq_true, beq_iff_eq] at hco
      obtain ⟨he, rfl⟩ := hco
      exact lv_lstore_n hx hb hd he hl hn0 (rf_lc_put2 ad lv a (.long x)) (fun ls' hl' => k H locs ls' hPw hD hS hl')
    · simp only [Bool.and_eq_true, beq_iff_eq] at hco
      obtain ⟨rfl, rfl⟩ := hco
      exact lv_lstore hx hb hd hl hn0 (rf_lc_put2 ad lv _ (.long x)) (fun ls' hl' => k H locs ls' hPw hD hS hl')
    · cases hco
  · cases h1
theorem rf_s_iinc {K : rf_K} {S S' : rf_S} {Ps : List Prop} {n : Nat} {a : Nat} {z : Int} (C : rf_Ctx o cc nL d sh K) (hok : rf_ok o nL cc pc (.iinc a z) n = true) (h1 : rf_1 sh (.iinc a z) S = some (Ps, S')) (hP : ∀ p ∈ Ps, p) (k : rf_V nL sh K cells slots (pc + n) S') : rf_V nL sh K cells slots pc S := by
  obtain ⟨r, hd, hco⟩ := rf_ok_spec hok
  obtain ⟨p, l, e, R, s, m, args, below, meth, c, D, ad, cad, A, Q⟩ := K
  obtain ⟨lv, st, M⟩ := S
  obtain ⟨hx, hb, hml, hown, hts, hK, hT, hA, hlk, hXs, hdf, hdl, hwf⟩ := C
  intro H locs ls hPw hD hS hl
  have k : ∀ (H : Heap) (locs : List Loc) (ls : Array Slot), va_P D vwCl (rf_ws ad cad sh S'.2.2) H → va_D A (rf_ws ad cad sh S'.2.2) → va_S A s.heap H locs → lv_has ls nL (rf_lc ad S'.1) → W p l e R s m args below meth c H locs cells slots Q (F0 m (pc + n) ls (S'.2.1.map (rf_cv ad))) := k
  simp only [rf_1] at h1
  split at h1
  · rename_i x hg
    cases h1
    simp only [rf_co, Bool.and_eq_true, decide_eq_true_eq, beq_iff_eq] at hco
    obtain ⟨⟨hn0, rfl⟩, rfl⟩ := hco
    have hl0 : lv_has ls nL ((a, Value.int x) :: rf_lc ad lv) := ⟨hl.1, hl.2.1, fun q hq => by
      rcases List.mem_cons.mp hq with rfl | hq
      · exact rf_get_has hl hg
      · exact hl.2.2 q hq⟩
    refine lv_iinc hx hb hd hl0 (k := 0) rfl rfl hn0 rfl (fun ls' hl' => k H locs ls' hPw hD hS ?_)
    have e := rf_lc_put1 ad lv a (.int (x + Int32.ofInt z))
    rw [← e]
    have e2 : ((a, Value.int x) :: rf_lc ad lv).filter (fun q => !(q.1 == a) && !(q.1 + 1 == a && q.2.category == 2)) = (rf_lc ad lv).filter (fun q => !(q.1 == a) && !(q.1 + 1 == a && q.2.category == 2)) := by
      rw [List.filter_cons]
      simp
    rw [e2] at hl'
    exact hl'
  · cases h1
theorem rf_s_arraylength {K : rf_K} {S S' : rf_S} {Ps : List Prop} {n : Nat} (C : rf_Ctx o cc nL d sh K) (hok : rf_ok o nL cc pc (.arraylength) n = true) (h1 : rf_1 sh (.arraylength) S = some (Ps, S')) (hP : ∀ p ∈ Ps, p) (k : rf_V nL sh K cells slots (pc + n) S') : rf_V nL sh K cells slots pc S := by
  obtain ⟨r, hd, hco⟩ := rf_ok_spec hok
  obtain ⟨p, l, e, R, s, m, args, below, meth, c, D, ad, cad, A, Q⟩ := K
  obtain ⟨lv, st, M⟩ := S
  obtain ⟨hx, hb, hml, hown, hts, hK, hT, hA, hlk, hXs, hdf, hdl, hwf⟩ := C
  intro H locs ls hPw hD hS hl
  have k : ∀ (H : Heap) (locs : List Loc) (ls : Array Slot), va_P D vwCl (rf_ws ad cad sh S'.2.2) H → va_D A (rf_ws ad cad sh S'.2.2) → va_S A s.heap H locs → lv_has ls nL (rf_lc ad S'.1) → W p l e R s m args below meth c H locs cells slots Q (F0 m (pc + n) ls (S'.2.1.map (rf_cv ad))) := k
  simp only [rf_co, Bool.and_eq_true, decide_eq_true_eq, beq_iff_eq] at hco
  obtain ⟨rfl, rfl⟩ := hco
  simp only [rf_1] at h1
  split at h1
  · split at h1
    · rename_i a st0 _ q ha
      cases h1
      obtain ⟨t, n⟩ := q
      exact va_alen hx hb (hT a t n ha) hPw a 0 (rf_ws_at hwf ha) rfl rfl hd (k H locs ls hPw hD hS hl)
    · cases h1
  · cases h1
theorem rf_s_iaload {K : rf_K} {S S' : rf_S} {Ps : List Prop} {n : Nat} (C : rf_Ctx o cc nL d sh K) (hok : rf_ok o nL cc pc (.iaload) n = true) (h1 : rf_1 sh (.iaload) S = some (Ps, S')) (hP : ∀ p ∈ Ps, p) (k : rf_V nL sh K cells slots (pc + n) S') : rf_V nL sh K cells slots pc S := by
  obtain ⟨r, hd, hco⟩ := rf_ok_spec hok
  obtain ⟨p, l, e, R, s, m, args, below, meth, c, D, ad, cad, A, Q⟩ := K
  obtain ⟨lv, st, M⟩ := S
  obtain ⟨hx, hb, hml, hown, hts, hK, hT, hA, hlk, hXs, hdf, hdl, hwf⟩ := C
  intro H locs ls hPw hD hS hl
  have k : ∀ (H : Heap) (locs : List Loc) (ls : Array Slot), va_P D vwCl (rf_ws ad cad sh S'.2.2) H → va_D A (rf_ws ad cad sh S'.2.2) → va_S A s.heap H locs → lv_has ls nL (rf_lc ad S'.1) → W p l e R s m args below meth c H locs cells slots Q (F0 m (pc + n) ls (S'.2.1.map (rf_cv ad))) := k
  simp only [rf_co, Bool.and_eq_true, decide_eq_true_eq, beq_iff_eq] at hco
  obtain ⟨rfl, rfl⟩ := hco
  simp only [rf_1] at h1
  split at h1
  · rename_i x a st0
    split at h1
    · rename_i n ha
      cases h1
      exact va_iald hx hb (hT a .int n ha) hPw a 0 (rf_ws_at hwf ha) rfl (hP _ List.mem_cons_self) hd (k H locs ls hPw hD hS hl)
    · cases h1
  · cases h1
theorem rf_s_baload {K : rf_K} {S S' : rf_S} {Ps : List Prop} {n : Nat} (C : rf_Ctx o cc nL d sh K) (hok : rf_ok o nL cc pc (.baload) n = true) (h1 : rf_1 sh (.baload) S = some (Ps, S')) (hP : ∀ p ∈ Ps, p) (k : rf_V nL sh K cells slots (pc + n) S') : rf_V nL sh K cells slots pc S := by
  obtain ⟨r, hd, hco⟩ := rf_ok_spec hok
  obtain ⟨p, l, e, R, s, m, args, below, meth, c, D, ad, cad, A, Q⟩ := K
  obtain ⟨lv, st, M⟩ := S
  obtain ⟨hx, hb, hml, hown, hts, hK, hT, hA, hlk, hXs, hdf, hdl, hwf⟩ := C
  intro H locs ls hPw hD hS hl
  have k : ∀ (H : Heap) (locs : List Loc) (ls : Array Slot), va_P D vwCl (rf_ws ad cad sh S'.2.2) H → va_D A (rf_ws ad cad sh S'.2.2) → va_S A s.heap H locs → lv_has ls nL (rf_lc ad S'.1) → W p l e R s m args below meth c H locs cells slots Q (F0 m (pc + n) ls (S'.2.1.map (rf_cv ad))) := k
  simp only [rf_co, Bool.and_eq_true, decide_eq_true_eq, beq_iff_eq] at hco
  obtain ⟨rfl, rfl⟩ := hco
  simp only [rf_1] at h1
  split at h1
  · rename_i x a st0
    split at h1
    · rename_i n ha
      cases h1
      exact va_bald hx hb (hT a .byte n ha) hPw a 0 (rf_ws_at hwf ha) rfl (hP _ List.mem_cons_self) hd (k H locs ls hPw hD hS hl)
    · rename_i n ha
      cases h1
      exact va_zald hx hb (hT a .boolean n ha) hPw a 0 (rf_ws_at hwf ha) rfl (hP _ List.mem_cons_self) hd (k H locs ls hPw hD hS hl)
    · cases h1
  · cases h1
theorem rf_s_laload {K : rf_K} {S S' : rf_S} {Ps : List Prop} {n : Nat} (C : rf_Ctx o cc nL d sh K) (hok : rf_ok o nL cc pc (.laload) n = true) (h1 : rf_1 sh (.laload) S = some (Ps, S')) (hP : ∀ p ∈ Ps, p) (k : rf_V nL sh K cells slots (pc + n) S') : rf_V nL sh K cells slots pc S := by
  obtain ⟨r, hd, hco⟩ := rf_ok_spec hok
  obtain ⟨p, l, e, R, s, m, args, below, meth, c, D, ad, cad, A, Q⟩ := K
  obtain ⟨lv, st, M⟩ := S
  obtain ⟨hx, hb, hml, hown, hts, hK, hT, hA, hlk, hXs, hdf, hdl, hwf⟩ := C
  intro H locs ls hPw hD hS hl
  have k : ∀ (H : Heap) (locs : List Loc) (ls : Array Slot), va_P D vwCl (rf_ws ad cad sh S'.2.2) H → va_D A (rf_ws ad cad sh S'.2.2) → va_S A s.heap H locs → lv_has ls nL (rf_lc ad S'.1) → W p l e R s m args below meth c H locs cells slots Q (F0 m (pc + n) ls (S'.2.1.map (rf_cv ad))) := k
  simp only [rf_co, Bool.and_eq_true, decide_eq_true_eq, beq_iff_eq] at hco
  obtain ⟨rfl, rfl⟩ := hco
  simp only [rf_1] at h1
  split at h1
  · rename_i x a st0
    split at h1
    · rename_i n ha
      cases h1
      exact va_lald hx hb (hT a .long n ha) hPw a 0 (rf_ws_at hwf ha) rfl (hP _ List.mem_cons_self) hd (k H locs ls hPw hD hS hl)
    · cases h1
  · cases h1
theorem rf_s_aaload {K : rf_K} {S S' : rf_S} {Ps : List Prop} {n : Nat} (C : rf_Ctx o cc nL d sh K) (hok : rf_ok o nL cc pc (.aaload) n = true) (h1 : rf_1 sh (.aaload) S = some (Ps, S')) (hP : ∀ p ∈ Ps, p) (k : rf_V nL sh K cells slots (pc + n) S') : rf_V nL sh K cells slots pc S := by
  obtain ⟨r, hd, hco⟩ := rf_ok_spec hok
  obtain ⟨p, l, e, R, s, m, args, below, meth, c, D, ad, cad, A, Q⟩ := K
  obtain ⟨lv, st, M⟩ := S
  obtain ⟨hx, hb, hml, hown, hts, hK, hT, hA, hlk, hXs, hdf, hdl, hwf⟩ := C
  intro H locs ls hPw hD hS hl
  have k : ∀ (H : Heap) (locs : List Loc) (ls : Array Slot), va_P D vwCl (rf_ws ad cad sh S'.2.2) H → va_D A (rf_ws ad cad sh S'.2.2) → va_S A s.heap H locs → lv_has ls nL (rf_lc ad S'.1) → W p l e R s m args below meth c H locs cells slots Q (F0 m (pc + n) ls (S'.2.1.map (rf_cv ad))) := k
  simp only [rf_co, Bool.and_eq_true, decide_eq_true_eq, beq_iff_eq] at hco
  obtain ⟨rfl, rfl⟩ := hco
  simp only [rf_1] at h1
  split at h1
  · rename_i x a st0
    split at h1
    · rename_i C0 n ha
      cases h1
      refine va_aldq hx hb (hT a _ n ha) hPw a 0 (rf_ws_at hwf ha) rfl (hP _ List.mem_cons_self) hd ?_
      have h := k H locs ls hPw hD hS hl
      have e : rf_cv ad (va_rf (M.2.2 a x.toNatClampNeg)) = va_rf ((M.2.2 a x.toNatClampNeg).map ad) := by cases M.2.2 a x.toNatClampNeg <;> rfl
      simp only [List.map_cons, e] at h
      exact h
    · cases h1
  · cases h1
theorem rf_s_iastore {K : rf_K} {S S' : rf_S} {Ps : List Prop} {n : Nat} (C : rf_Ctx o cc nL d sh K) (hok : rf_ok o nL cc pc (.iastore) n = true) (h1 : rf_1 sh (.iastore) S = some (Ps, S')) (hP : ∀ p ∈ Ps, p) (k : rf_V nL sh K cells slots (pc + n) S') : rf_V nL sh K cells slots pc S := by
  obtain ⟨r, hd, hco⟩ := rf_ok_spec hok
  obtain ⟨p, l, e, R, s, m, args, below, meth, c, D, ad, cad, A, Q⟩ := K
  obtain ⟨lv, st, M⟩ := S
  obtain ⟨hx, hb, hml, hown, hts, hK, hT, hA, hlk, hXs, hdf, hdl, hwf⟩ := C
  intro H locs ls hPw hD hS hl
  have k : ∀ (H : Heap) (locs : List Loc) (ls : Array Slot), va_P D vwCl (rf_ws ad cad sh S'.2.2) H → va_D A (rf_ws ad cad sh S'.2.2) → va_S A s.heap H locs → lv_has ls nL (rf_lc ad S'.1) → W p l e R s m args below meth c H locs cells slots Q (F0 m (pc + n) ls (S'.2.1.map (rf_cv ad))) := k
  simp only [rf_co, Bool.and_eq_true, decide_eq_true_eq, beq_iff_eq] at hco
  obtain ⟨rfl, rfl⟩ := hco
  simp only [rf_1] at h1
  split at h1
  · rename_i y x a st0
    split at h1
    · rename_i n ha
      cases h1
      have e : (rf_ws ad cad sh M).set a (ad a, .inl (cad a, n, .inl (upd (M.1 a) x.toNatClampNeg y))) = rf_ws ad cad sh (rf_uI M a x.toNatClampNeg y) := rf_ws_set hwf ha (by
        simp only [rf_cell, rf_row, rf_kd]
        congr 4
        funext j
        simp [rf_uI, upd]) rf_uI_ne
      exact va_iast hx hb (hT a .int n ha) hPw hD hS a 0 (rf_ws_at hwf ha) rfl (hP _ List.mem_cons_self) hd (fun H1 locs1 g1 g2 g3 => k H1 locs1 ls (e ▸ g1) (e ▸ g2) g3 hl)
    · cases h1
  · cases h1
theorem rf_s_bastore {K : rf_K} {S S' : rf_S} {Ps : List Prop} {n : Nat} (C : rf_Ctx o cc nL d sh K) (hok : rf_ok o nL cc pc (.bastore) n = true) (h1 : rf_1 sh (.bastore) S = some (Ps, S')) (hP : ∀ p ∈ Ps, p) (k : rf_V nL sh K cells slots (pc + n) S') : rf_V nL sh K cells slots pc S := by
  obtain ⟨r, hd, hco⟩ := rf_ok_spec hok
  obtain ⟨p, l, e, R, s, m, args, below, meth, c, D, ad, cad, A, Q⟩ := K
  obtain ⟨lv, st, M⟩ := S
  obtain ⟨hx, hb, hml, hown, hts, hK, hT, hA, hlk, hXs, hdf, hdl, hwf⟩ := C
  intro H locs ls hPw hD hS hl
  have k : ∀ (H : Heap) (locs : List Loc) (ls : Array Slot), va_P D vwCl (rf_ws ad cad sh S'.2.2) H → va_D A (rf_ws ad cad sh S'.2.2) → va_S A s.heap H locs → lv_has ls nL (rf_lc ad S'.1) → W p l e R s m args below meth c H locs cells slots Q (F0 m (pc + n) ls (S'.2.1.map (rf_cv ad))) := k
  simp only [rf_co, Bool.and_eq_true, decide_eq_true_eq, beq_iff_eq] at hco
  obtain ⟨rfl, rfl⟩ := hco
  simp only [rf_1] at h1
  split at h1
  · rename_i y x a st0
    split at h1
    · rename_i n ha
      cases h1
      have e : (rf_ws ad cad sh M).set a (ad a, .inl (cad a, n, .inl (upd (M.1 a) x.toNatClampNeg (vp_nar .byte y)))) = rf_ws ad cad sh (rf_uI M a x.toNatClampNeg (vp_nar .byte y)) := rf_ws_set hwf ha (by
        simp only [rf_cell, rf_row, rf_kd]
        congr 4
        funext j
        simp [rf_uI, upd]) rf_uI_ne
      exact va_bast hx hb (hT a .byte n ha) hPw hD hS a 0 (rf_ws_at hwf ha) rfl (hP _ List.mem_cons_self) hd (fun H1 locs1 g1 g2 g3 => k H1 locs1 ls (e ▸ g1) (e ▸ g2) g3 hl)
    · rename_i n ha
      cases h1
      have e : (rf_ws ad cad sh M).set a (ad a, .inl (cad a, n, .inl (upd (M.1 a) x.toNatClampNeg (vp_nar .boolean y)))) = rf_ws ad cad sh (rf_uI M a x.toNatClampNeg (vp_nar .boolean y)) := rf_ws_set hwf ha (by
        simp only [rf_cell, rf_row, rf_kd]
        congr 4
        funext j
        simp [rf_uI, upd]) rf_uI_ne
      exact va_zast hx hb (hT a .boolean n ha) hPw hD hS a 0 (rf_ws_at hwf ha) rfl (hP _ List.mem_cons_self) hd (fun H1 locs1 g1 g2 g3 => k H1 locs1 ls (e ▸ g1) (e ▸ g2) g3 hl)
    · cases h1
  · cases h1
theorem rf_s_lastore {K : rf_K} {S S' : rf_S} {Ps : List Prop} {n : Nat} (C : rf_Ctx o cc nL d sh K) (hok : rf_ok o nL cc pc (.lastore) n = true) (h1 : rf_1 sh (.lastore) S = some (Ps, S')) (hP : ∀ p ∈ Ps, p) (k : rf_V nL sh K cells slots (pc + n) S') : rf_V nL sh K cells slots pc S := by
  obtain ⟨r, hd, hco⟩ := rf_ok_spec hok
  obtain ⟨p, l, e, R, s, m, args, below, meth, c, D, ad, cad, A, Q⟩ := K
  obtain ⟨lv, st, M⟩ := S
  obtain ⟨hx, hb, hml, hown, hts, hK, hT, hA, hlk, hXs, hdf, hdl, hwf⟩ := C
  intro H locs ls hPw hD hS hl
  have k : ∀ (H : Heap) (locs : List Loc) (ls : Array Slot), va_P D vwCl (rf_ws ad cad sh S'.2.2) H → va_D A (rf_ws ad cad sh S'.2.2) → va_S A s.heap H locs → lv_has ls nL (rf_lc ad S'.1) → W p l e R s m args below meth c H locs cells slots Q (F0 m (pc + n) ls (S'.2.1.map (rf_cv ad))) := k
  simp only [rf_co, Bool.and_eq_true, decide_eq_true_eq, beq_iff_eq] at hco
  obtain ⟨rfl, rfl⟩ := hco
  simp only [rf_1] at h1
  split at h1
  · rename_i y x a st0
    split at h1
    · rename_i n ha
      cases h1
      have e : (rf_ws ad cad sh M).set a (ad a, .inl (cad a, n, .inr (.inl (vp_updL (M.2.1 a) x.toNatClampNeg y)))) = rf_ws ad cad sh (rf_uL M a x.toNatClampNeg y) := rf_ws_set hwf ha (by
        simp only [rf_cell, rf_row, rf_kd]
        congr 5
        funext j
        simp [rf_uL, vp_updL]) rf_uL_ne
      exact va_last hx hb (hT a .long n ha) hPw hD hS a 0 (rf_ws_at hwf ha) rfl (hP _ List.mem_cons_self) hd (fun H1 locs1 g1 g2 g3 => k H1 locs1 ls (e ▸ g1) (e ▸ g2) g3 hl)
    · cases h1
  · cases h1
theorem rf_s_getf {K : rf_K} {S S' : rf_S} {Ps : List Prop} {n : Nat} {ci f : Nat} (C : rf_Ctx o cc nL d sh K) (hok : rf_ok o nL cc pc (.invokeinterface ci f) n = true) (h1 : rf_1 sh (.invokeinterface ci f) S = some (Ps, S')) (hP : ∀ p ∈ Ps, p) (k : rf_V nL sh K cells slots (pc + n) S') : rf_V nL sh K cells slots pc S := by
  obtain ⟨r, hd, hco⟩ := rf_ok_spec hok
  obtain ⟨p, l, e, R, s, m, args, below, meth, c, D, ad, cad, A, Q⟩ := K
  obtain ⟨lv, st, M⟩ := S
  obtain ⟨hx, hb, hml, hown, hts, hK, hT, hA, hlk, hXs, hdf, hdl, hwf⟩ := C
  intro H locs ls hPw hD hS hl
  have k : ∀ (H : Heap) (locs : List Loc) (ls : Array Slot), va_P D vwCl (rf_ws ad cad sh S'.2.2) H → va_D A (rf_ws ad cad sh S'.2.2) → va_S A s.heap H locs → lv_has ls nL (rf_lc ad S'.1) → W p l e R s m args below meth c H locs cells slots Q (F0 m (pc + n) ls (S'.2.1.map (rf_cv ad))) := k
  simp only [rf_1] at h1
  split at h1
  · rename_i a st0
    split at h1
    · rename_i cj ha
      split at h1
      · rename_i he
        subst he
        cases h1
        simp only [rf_co] at hco
        split at hco
        · simp only [Bool.and_eq_true] at hco
          obtain ⟨he, hn⟩ := hco
          obtain rfl : n = 3 := by simpa using hn
          have hv : ∀ (_ : f < rf_fn cj), ((List.range (rf_fn cj)).map (fun i => rf_cv ad (rf_rd M (rf_ft cj i) a i)))[f]? = some (rf_cv ad (rf_rd M (rf_ft cj f) a f)) := by
            intro hf
            rw [List.getElem?_map, List.getElem?_range hf]
            rfl
          rcases Bool.or_eq_true_iff.mp he with he | he
          · obtain ⟨h15, hf, hlk0⟩ := rf_FL_of he
            exact va_get (C := rf_R cj) (T := rf_T cj) (N := rf_fn cj) hx hb hts (rf_wsin cj h15) hown hK hPw a (rf_ws_at hwf ha) (rf_cl cj h15) f hf (hts _ hlk0) (fun _ h => h) (v := rf_cv ad (rf_rd M (rf_ft cj f) a f)) (hv hf) hd (k H locs ls hPw hD hS hl)
          · obtain ⟨h15, hf, host, hlk0⟩ := rf_NF_of hXs.1.1 he
            exact va_getN (C := rf_R cj) (T := rf_T cj) (N := rf_fn cj) hx hb hts (rf_wsin cj h15) hown hK hPw a (rf_ws_at hwf ha) (rf_cl cj h15) f hf (va_Nw.use rfl hlk0) (fun _ h => h) (v := rf_cv ad (rf_rd M (rf_ft cj f) a f)) (hv hf) hd (k H locs ls hPw hD hS hl)
        · cases hco
      · cases h1
    · cases h1
  · cases h1
theorem rf_s_putf {K : rf_K} {S S' : rf_S} {Ps : List Prop} {n : Nat} {ci f : Nat} (C : rf_Ctx o cc nL d sh K) (hok : rf_ok o nL cc pc (.multianewarray ci f) n = true) (h1 : rf_1 sh (.multianewarray ci f) S = some (Ps, S')) (hP : ∀ p ∈ Ps, p) (k : rf_V nL sh K cells slots (pc + n) S') : rf_V nL sh K cells slots pc S := by
  obtain ⟨r, hd, hco⟩ := rf_ok_spec hok
  obtain ⟨p, l, e, R, s, m, args, below, meth, c, D, ad, cad, A, Q⟩ := K
  obtain ⟨lv, st, M⟩ := S
  obtain ⟨hx, hb, hml, hown, hts, hK, hT, hA, hlk, hXs, hdf, hdl, hwf⟩ := C
  intro H locs ls hPw hD hS hl
  have k : ∀ (H : Heap) (locs : List Loc) (ls : Array Slot), va_P D vwCl (rf_ws ad cad sh S'.2.2) H → va_D A (rf_ws ad cad sh S'.2.2) → va_S A s.heap H locs → lv_has ls nL (rf_lc ad S'.1) → W p l e R s m args below meth c H locs cells slots Q (F0 m (pc + n) ls (S'.2.1.map (rf_cv ad))) := k
  simp only [rf_1] at h1
  split at h1
  · rename_i x a st0
    split at h1
    · rename_i cj ha
      split at h1
      · rename_i he
        subst he
        split at h1
        · rename_i hty
          cases h1
          simp only [rf_co] at hco
          split at hco
          · simp only [Bool.and_eq_true] at hco
            obtain ⟨⟨he, hfin⟩, hn⟩ := hco
            obtain rfl : n = 3 := by simpa using hn
            have hfin : (rf_T cj f).2.2.2 = false := by simpa using hfin
            have e : (rf_ws ad cad sh M).set a (ad a, .inr (cj, ((List.range (rf_fn cj)).map (fun i => rf_cv ad (rf_rd M (rf_ft cj i) a i))).set f (.int x))) = rf_ws ad cad sh (rf_uI M a f x) := rf_ws_set hwf ha (rf_cell_put (v := .int x) (by rw [rf_rd_uI (by rw [hty]; rfl)]; rfl) (fun i hi => rf_rd_uI_ne hi)) rf_uI_ne
            rcases Bool.or_eq_true_iff.mp he with he | he
            · obtain ⟨h15, hf, hlk0⟩ := rf_FL_of he
              exact va_put (C := rf_R cj) (T := rf_T cj) (N := rf_fn cj) (ty := rf_ft cj f) hx hb hts (rf_wsin cj h15) (rf_ft cj) (rf_tyok cj h15) (rf_nmok cj h15) hown hK hPw hD hS a (rf_ws_at hwf ha) (rf_cl cj h15) f hf (hts _ hlk0) (fun _ h => h) hfin (rf_tyok cj h15 f hf) (v := .int x) (by rw [hty]; rfl) (by rw [hty]; rfl) (by simpa using hf) hd (fun H1 locs1 g1 g2 g3 => k H1 locs1 ls (e ▸ g1) (e ▸ g2) g3 hl)
            · obtain ⟨h15, hf, host, hlk0⟩ := rf_NF_of hXs.1.1 he
              exact va_putN (C := rf_R cj) (T := rf_T cj) (N := rf_fn cj) (ty := rf_ft cj f) hx hb hts (rf_wsin cj h15) (rf_ft cj) (rf_tyok cj h15) (rf_nmok cj h15) hown hK hPw hD hS a (rf_ws_at hwf ha) (rf_cl cj h15) f hf (va_Nw.use rfl hlk0) (fun _ h => h) hfin (rf_tyok cj h15 f hf) (v := .int x) (by rw [hty]; rfl) (by rw [hty]; rfl) (by simpa using hf) hd (fun H1 locs1 g1 g2 g3 => k H1 locs1 ls (e ▸ g1) (e ▸ g2) g3 hl)
          · cases hco
        · rename_i hty
          cases h1
          have h01 : x = 0 ∨ x = 1 := hP _ List.mem_cons_self
          simp only [rf_co] at hco
          split at hco
          · simp only [Bool.and_eq_true] at hco
            obtain ⟨⟨he, hfin⟩, hn⟩ := hco
            obtain rfl : n = 3 := by simpa using hn
            have hfin : (rf_T cj f).2.2.2 = false := by simpa using hfin
            have e : (rf_ws ad cad sh M).set a (ad a, .inr (cj, ((List.range (rf_fn cj)).map (fun i => rf_cv ad (rf_rd M (rf_ft cj i) a i))).set f (.int x))) = rf_ws ad cad sh (rf_uI M a f x) := rf_ws_set hwf ha (rf_cell_put (v := .int x) (by rw [rf_rd_uI (by rw [hty]; rfl)]; rfl) (fun i hi => rf_rd_uI_ne hi)) rf_uI_ne
            rcases Bool.or_eq_true_iff.mp he with he | he
            · obtain ⟨h15, hf, hlk0⟩ := rf_FL_of he
              exact va_put (C := rf_R cj) (T := rf_T cj) (N := rf_fn cj) (ty := rf_ft cj f) hx hb hts (rf_wsin cj h15) (rf_ft cj) (rf_tyok cj h15) (rf_nmok cj h15) hown hK hPw hD hS a (rf_ws_at hwf ha) (rf_cl cj h15) f hf (hts _ hlk0) (fun _ h => h) hfin (rf_tyok cj h15 f hf) (v := .int x) (by rw [hty]; (rcases h01 with rfl | rfl <;> rfl)) (by rw [hty]; (rcases h01 with rfl | rfl <;> rfl)) (by simpa using hf) hd (fun H1 locs1 g1 g2 g3 => k H1 locs1 ls (e ▸ g1) (e ▸ g2) g3 hl)
            · obtain ⟨h15, hf, host, hlk0⟩ := rf_NF_of hXs.1.1 he
              exact va_putN (C := rf_R cj) (T := rf_T cj) (N := rf_fn cj) (ty := rf_ft cj f) hx hb hts (rf_wsin cj h15) (rf_ft cj) (rf_tyok cj h15) (rf_nmok cj h15) hown hK hPw hD hS a (rf_ws_at hwf ha) (rf_cl cj h15) f hf (va_Nw.use rfl hlk0) (fun _ h => h) hfin (rf_tyok cj h15 f hf) (v := .int x) (by rw [hty]; (rcases h01 with rfl | rfl <;> rfl)) (by rw [hty]; (rcases h01 with rfl | rfl <;> rfl)) (by simpa using hf) hd (fun H1 locs1 g1 g2 g3 => k H1 locs1 ls (e ▸ g1) (e ▸ g2) g3 hl)
          · cases hco
        · cases h1
      · cases h1
    · cases h1
  · rename_i x a st0
    split at h1
    · rename_i cj ha
      split at h1
      · rename_i he
        subst he
        split at h1
        · rename_i hty
          cases h1
          simp only [rf_co] at hco
          split at hco
          · simp only [Bool.and_eq_true] at hco
            obtain ⟨⟨he, hfin⟩, hn⟩ := hco
            obtain rfl : n = 3 := by simpa using hn
            have hfin : (rf_T cj f).2.2.2 = false := by simpa using hfin
            have e : (rf_ws ad cad sh M).set a (ad a, .inr (cj, ((List.range (rf_fn cj)).map (fun i => rf_cv ad (rf_rd M (rf_ft cj i) a i))).set f (.long x))) = rf_ws ad cad sh (rf_uL M a f x) := rf_ws_set hwf ha (rf_cell_put (v := .long x) (by rw [rf_rd_uL (by rw [hty]; rfl)]; rfl) (fun i hi => rf_rd_uL_ne hi)) rf_uL_ne
            rcases Bool.or_eq_true_iff.mp he with he | he
            · obtain ⟨h15, hf, hlk0⟩ := rf_FL_of he
              exact va_put (C := rf_R cj) (T := rf_T cj) (N := rf_fn cj) (ty := rf_ft cj f) hx hb hts (rf_wsin cj h15) (rf_ft cj) (rf_tyok cj h15) (rf_nmok cj h15) hown hK hPw hD hS a (rf_ws_at hwf ha) (rf_cl cj h15) f hf (hts _ hlk0) (fun _ h => h) hfin (rf_tyok cj h15 f hf) (v := .long x) (by rw [hty]; rfl) (by rw [hty]; rfl) (by simpa using hf) hd (fun H1 locs1 g1 g2 g3 => k H1 locs1 ls (e ▸ g1) (e ▸ g2) g3 hl)
            · obtain ⟨h15, hf, host, hlk0⟩ := rf_NF_of hXs.1.1 he
              exact va_putN (C := rf_R cj) (T := rf_T cj) (N := rf_fn cj) (ty := rf_ft cj f) hx hb hts (rf_wsin cj h15) (rf_ft cj) (rf_tyok cj h15) (rf_nmok cj h15) hown hK hPw hD hS a (rf_ws_at hwf ha) (rf_cl cj h15) f hf (va_Nw.use rfl hlk0) (fun _ h => h) hfin (rf_tyok cj h15 f hf) (v := .long x) (by rw [hty]; rfl) (by rw [hty]; rfl) (by simpa using hf) hd (fun H1 locs1 g1 g2 g3 => k H1 locs1 ls (e ▸ g1) (e ▸ g2) g3 hl)
          · cases hco
        · cases h1
      · cases h1
    · cases h1
  · cases h1
theorem rf_one {K : rf_K} {S S' : rf_S} {Ps : List Prop} {n : Nat} (i : Instr) (C : rf_Ctx o cc nL d sh K) (hok : rf_ok o nL cc pc i n = true) (h1 : rf_1 sh i S = some (Ps, S')) (hP : ∀ p ∈ Ps, p) (k : rf_V nL sh K cells slots (pc + n) S') : rf_V nL sh K cells slots pc S := by
  cases i with
  | iadd => exact rf_s_iadd C hok h1 hP k
  | isub => exact rf_s_isub C hok h1 hP k
  | imul => exact rf_s_imul C hok h1 hP k
  | iand => exact rf_s_iand C hok h1 hP k
  | ior => exact rf_s_ior C hok h1 hP k
  | ixor => exact rf_s_ixor C hok h1 hP k
  | ladd => exact rf_s_ladd C hok h1 hP k
  | lsub => exact rf_s_lsub C hok h1 hP k
  | lmul => exact rf_s_lmul C hok h1 hP k
  | land => exact rf_s_land C hok h1 hP k
  | lor => exact rf_s_lor C hok h1 hP k
  | lxor => exact rf_s_lxor C hok h1 hP k
  | ineg => exact rf_s_ineg C hok h1 hP k
  | lneg => exact rf_s_lneg C hok h1 hP k
  | ishl => exact rf_s_ishl C hok h1 hP k
  | ishr => exact rf_s_ishr C hok h1 hP k
  | iushr => exact rf_s_iushr C hok h1 hP k
  | lshl => exact rf_s_lshl C hok h1 hP k
  | lshr => exact rf_s_lshr C hok h1 hP k
  | lushr => exact rf_s_lushr C hok h1 hP k
  | i2l => exact rf_s_i2l C hok h1 hP k
  | l2i => exact rf_s_l2i C hok h1 hP k
  | i2b => exact rf_s_i2b C hok h1 hP k
  | i2c => exact rf_s_i2c C hok h1 hP k
  | idiv => exact rf_s_idiv C hok h1 hP k
  | irem => exact rf_s_irem C hok h1 hP k
  | ldiv => exact rf_s_ldiv C hok h1 hP k
  | lrem => exact rf_s_lrem C hok h1 hP k
  | lcmp => exact rf_s_lcmp C hok h1 hP k
  | f2i => exact rf_s_f2i C hok h1 hP k
  | fcmp _ => exact rf_s_fcmp C hok h1 hP k
  | aconst_null => exact rf_s_aconst_null C hok h1 hP k
  | dup => exact rf_s_dup C hok h1 hP k
  | pop => exact rf_s_pop C hok h1 hP k
  | dup2 => exact rf_s_dup2 C hok h1 hP k
  | iconst _ => exact rf_s_iconst C hok h1 hP k
  | goto_w _ => exact rf_s_lconst C hok h1 hP k
  | iload _ => exact rf_s_iload C hok h1 hP k
  | lload _ => exact rf_s_lload C hok h1 hP k
  | fload _ => exact rf_s_fload C hok h1 hP k
  | aload _ => exact rf_s_aload C hok h1 hP k
  | istore _ => exact rf_s_istore C hok h1 hP k
  | fstore _ => exact rf_s_fstore C hok h1 hP k
  | astore _ => exact rf_s_astore C hok h1 hP k
  | lstore _ => exact rf_s_lstore C hok h1 hP k
  | iinc _ _ => exact rf_s_iinc C hok h1 hP k
  | arraylength => exact rf_s_arraylength C hok h1 hP k
  | iaload => exact rf_s_iaload C hok h1 hP k
  | baload => exact rf_s_baload C hok h1 hP k
  | laload => exact rf_s_laload C hok h1 hP k
  | aaload => exact rf_s_aaload C hok h1 hP k
  | iastore => exact rf_s_iastore C hok h1 hP k
  | bastore => exact rf_s_bastore C hok h1 hP k
  | lastore => exact rf_s_lastore C hok h1 hP k
  | invokeinterface _ _ => exact rf_s_getf C hok h1 hP k
  | multianewarray _ _ => exact rf_s_putf C hok h1 hP k
  | _ => cases h1
/-- a run of instructions -/
def rf_run (sh : rf_Sh) (is : List (Instr × Nat)) (S : rf_S) : Option (List Prop × rf_S) := match is with
  | [] => some ([], S)
  | i :: is => match rf_1 sh i.1 S with
    | none => none
    | some q => match rf_run sh is q.2 with
      | none => none
      | some r => some (q.1 ++ r.1, r.2)
def rf_oks (o nL : Nat) (cc : ByteArray) (pc : Nat) (is : List (Instr × Nat)) (pc' : Nat) : Bool := match is with
  | [] => pc == pc'
  | i :: is => rf_ok o nL cc pc i.1 i.2 && rf_oks o nL cc (pc + i.2) is pc'
def rf_all (Ps : List Prop) : Prop := match Ps with
  | [] => True
  | [p] => p
  | p :: q :: Ps => p ∧ rf_all (q :: Ps)
theorem rf_all_mem {Ps : List Prop} (h : rf_all Ps) : ∀ p ∈ Ps, p := by
  induction Ps with
  | nil => intro p hp; cases hp
  | cons a l ih =>
    cases l with
    | nil => intro p hp; rcases List.mem_cons.mp hp with rfl | hp; exact h; cases hp
    | cons b l => intro p hp; rcases List.mem_cons.mp hp with rfl | hp; exact h.1; exact ih h.2 p hp
theorem rf_seg0 {K : rf_K} (C : rf_Ctx o cc nL d sh K) (is : List (Instr × Nat)) : ∀ {pc pc' : Nat} {S S' : rf_S} {Ps : List Prop}, rf_oks o nL cc pc is pc' = true → rf_run sh is S = some (Ps, S') → (∀ p ∈ Ps, p) → rf_V nL sh K cells slots pc' S' → rf_V nL sh K cells slots pc S := by
  induction is with
  | nil =>
    intro pc pc' S S' Ps h1 h2 _ k
    simp only [rf_run, Option.some.injEq, Prod.mk.injEq] at h2
    obtain ⟨-, rfl⟩ := h2
    simp only [rf_oks, beq_iff_eq] at h1
    subst h1
    exact k
  | cons i is ih =>
    intro pc pc' S S' Ps h1 h2 hP k
    simp only [rf_oks, Bool.and_eq_true] at h1
    simp only [rf_run] at h2
    cases hq : rf_1 sh i.1 S with
    | none => rw [hq] at h2; cases h2
    | some q =>
      rw [hq] at h2
      dsimp only at h2
      cases hr : rf_run sh is q.2 with
      | none => rw [hr] at h2; cases h2
      | some r =>
        rw [hr] at h2
        dsimp only at h2
        obtain ⟨rfl, rfl⟩ := Prod.mk.inj (Option.some.inj h2)
        exact rf_one i.1 C h1.1 hq (fun p hp => hP p (List.mem_append_left _ hp)) (ih h1.2 hr (fun p hp => hP p (List.mem_append_right _ hp)) k)
theorem rf_seg {K : rf_K} (C : rf_Ctx o cc nL d sh K) (is : List (Instr × Nat)) {pc' : Nat} {S S' : rf_S} {Ps : List Prop} (h1 : rf_oks o nL cc pc is pc' = true) (h2 : rf_run sh is S = some (Ps, S')) (h3 : rf_all Ps) (k : rf_V nL sh K cells slots pc' S') : rf_V nL sh K cells slots pc S := rf_seg0 C is h1 h2 (rf_all_mem h3) k
end RFO
