/-! straight-line code: what it does to locals, stack and memory; that the machine does so -/
section RFS
abbrev rf_K : Type := Program × Launch × Env × Room × State × MethodId × Array Value × List Frame × Method × Code × va_G × (Nat → Nat) × (Nat → ClassId) × (Nat → Prop) × (State → Prop)
/-- the cells that a method may change: the picture's, and new ones -/
def rf_A (ad : Nat → Nat) (n sz : Nat) : Nat → Prop := fun q => (∃ k, k < n ∧ q = ad k) ∨ sz ≤ q
/-- links to private members of a nest mate -/
def rf_N (U : State) : Prop := (∀ o, ∀ e ∈ rf_NF o, va_Nw (.fieldLinkNest (rf_own o) e.1 (rf_T e.2.1 e.2.2.1).1 (rf_T e.2.1 e.2.2.1).2.1 (rf_T e.2.1 e.2.2.1).2.2.1 (rf_own e.2.2.2)) U) ∧ ∀ e ∈ rf_NM, va_Nw (.methodLinkNest (rf_own e.1) e.2.1 e.2.2.1 (rf_own e.2.2.2)) U
/-- the String constants stand as ever, outside the picture -/
def rf_X (ad : Nat → Nat) (A : Nat → Prop) (U : State) (H : Heap) : Prop := (rf_N U ∧ va_Z "java/lang/String" "COMPACT_STRINGS" "Z" (.int 1) A U H ∧ (va_Z "jdk/internal/util/Preconditions" "SIOOBE_FORMATTER" "Ljava/util/function/BiFunction;" .null A U H ∨ va_Z "jdk/internal/util/Preconditions" "SIOOBE_FORMATTER" "Ljava/util/function/BiFunction;" (.ref (ad 3000001)) A U H)) ∧ ∀ (i : Nat) (q : Nat × Nat × String), rf_str[i]? = some q → vk_R (rf_own q.1) q.2.1 q.2.2 (ad (1000000 + i)) U ∧ va_O "java/lang/String" (ad (1000000 + i)) A U H ∧ va_OF "java/lang/String" "coder" "B" (.int 0) (ad (1000000 + i)) A U H ∧ va_OF "java/lang/String" "value" "[B" (.ref (ad (2000000 + i))) (ad (1000000 + i)) A U H ∧ va_T .byte (ad (2000000 + i)) (rf_sb.getD i []).length (fun j => .int ((rf_sb.getD i []).getD j 0)) A U H
theorem rf_X_moved {ad : Nat → Nat} {A B : Nat → Prop} {s U : State} {H : Heap} {locs : List Loc} (h : rf_X ad A s s.heap) (hS : va_S A s.heap H locs) (hB : ∀ q, B q → A q) (hW : s.WarmedH U.vm) : rf_X ad B U H := by
  refine ⟨⟨⟨fun o e he => (h.1.1.1 o e he).warmF hW, fun e he => (h.1.1.2 e he).warmM hW⟩, ((h.1.2.1.kept hS.2.1).moved hW.alike).narrow hB, h.1.2.2.imp (fun z => ((z.kept hS.2.1).moved hW.alike).narrow hB) (fun z => ((z.kept hS.2.1).moved hW.alike).narrow hB)⟩, ?_⟩
  intro i q hq
  obtain ⟨h1, h2, h3, h4, h5⟩ := h.2 i q hq
  exact ⟨h1.warm hW, ((h2.kept hS.2.1).moved hW.alike).narrow hB, ((h3.kept hS.2.1).moved hW.alike).narrow hB, ((h4.kept hS.2.1).moved hW.alike).narrow hB, ((h5.kept hS.2.1).moved hW.alike).narrow hB⟩
/-- the fixed part of a walk: the machine, the code of class number o, the words, the classes -/
def rf_Ctx (o : Nat) (cc : ByteArray) (nL d : Nat) (sh : rf_Sh) (K : rf_K) : Prop := match K with
  | (p, _, _, R, s, m, args, _, meth, c, D, ad, cad, A, _) => p.tables.exec = Jvm.exec ∧ c.code = cc ∧ c.maxLocals = nL ∧ s.vm.findClass (rf_own o) = some m.cls ∧ (∀ w ∈ rf_WS, w.before args s = true) ∧ va_K D vwCl [] s ∧ (∀ k t n, rf_at sh k = some (.inl (t, n)) → va_K D vwCl [(cad k, t)] s) ∧ (∀ q, A q ↔ rf_A ad sh.1 s.heap.size q) ∧ meth.locks = false ∧ rf_X ad A s s.heap ∧ d ≤ R.frames ∧ 64 * d ≤ R.locals ∧ rf_Wf sh
/-- the machine comes from here to the end: at pc, with these locals, this stack, this memory -/
def rf_V (nL : Nat) (sh : rf_Sh) (K : rf_K) (cells slots pc : Nat) (S : rf_S) : Prop := match K with
  | (p, l, e, R, s, m, args, below, meth, c, D, ad, cad, A, Q) => ∀ (H : Heap) (locs : List Loc) (ls : Array Slot), va_P D vwCl (rf_ws ad cad sh S.2.2) H → va_D A (rf_ws ad cad sh S.2.2) → va_S A s.heap H locs → lv_has ls nL (rf_lc ad S.1) → W p l e R s m args below meth c H locs cells slots Q (F0 m pc ls (S.2.1.map (rf_cv ad)))
/-- one instruction, in the words of Instr: iconst any int, goto_w any long, invokeinterface a field read, multianewarray a field written -/
def rf_1 (sh : rf_Sh) (i : Instr) (S : rf_S) : Option (List Prop × rf_S) := match i with
  | .iconst z => some ([], S.1, .int (Int32.ofInt z) :: S.2.1, S.2.2)
  | .goto_w z => some ([], S.1, .long (Int64.ofInt z) :: S.2.1, S.2.2)
  | .aconst_null => some ([], S.1, .null :: S.2.1, S.2.2)
  | .iload a => match rf_get S.1 a with
    | some (.int x) => some ([], S.1, .int x :: S.2.1, S.2.2)
    | _ => none
  | .lload a => match rf_get S.1 a with
    | some (.long x) => some ([], S.1, .long x :: S.2.1, S.2.2)
    | _ => none
  | .fload a => match rf_get S.1 a with
    | some (.float x) => some ([], S.1, .float x :: S.2.1, S.2.2)
    | _ => none
  | .aload a => match rf_get S.1 a with
    | some (.ref x) => some ([], S.1, .ref x :: S.2.1, S.2.2)
    | _ => none
  | .istore a => match S.2.1 with
    | .int x :: st => some ([], rf_put1 S.1 a (.int x), st, S.2.2)
    | _ => none
  | .fstore a => match S.2.1 with
    | .float x :: st => some ([], rf_put1 S.1 a (.float x), st, S.2.2)
    | _ => none
  | .astore a => match S.2.1 with
    | .ref x :: st => some ([], rf_put1 S.1 a (.ref x), st, S.2.2)
    | _ => none
  | .lstore a => match S.2.1 with
    | .long x :: st => some ([], rf_put2 S.1 a (.long x), st, S.2.2)
    | _ => none
  | .iinc a z => match rf_get S.1 a with
    | some (.int x) => some ([], rf_put1 S.1 a (.int (x + Int32.ofInt z)), S.2.1, S.2.2)
    | _ => none
  | .iadd => match S.2.1 with
    | .int y :: .int x :: st => some ([], S.1, .int (x + y) :: st, S.2.2)
    | _ => none
  | .isub => match S.2.1 with
    | .int y :: .int x :: st => some ([], S.1, .int (x - y) :: st, S.2.2)
    | _ => none
  | .imul => match S.2.1 with
    | .int y :: .int x :: st => some ([], S.1, .int (x * y) :: st, S.2.2)
    | _ => none
  | .iand => match S.2.1 with
    | .int y :: .int x :: st => some ([], S.1, .int (x &&& y) :: st, S.2.2)
    | _ => none
  | .ior => match S.2.1 with
    | .int y :: .int x :: st => some ([], S.1, .int (x ||| y) :: st, S.2.2)
    | _ => none
  | .ixor => match S.2.1 with
    | .int y :: .int x :: st => some ([], S.1, .int (x ^^^ y) :: st, S.2.2)
    | _ => none
  | .idiv => match S.2.1 with
    | .int y :: .int x :: st => some ([¬ y = 0], S.1, .int (x / y) :: st, S.2.2)
    | _ => none
  | .irem => match S.2.1 with
    | .int y :: .int x :: st => some ([¬ y = 0], S.1, .int (x - x / y * y) :: st, S.2.2)
    | _ => none
  | .ineg => match S.2.1 with
    | .int x :: st => some ([], S.1, .int (-x) :: st, S.2.2)
    | _ => none
  | .ishl => match S.2.1 with
    | .int y :: .int x :: st => some ([], S.1, .int (x <<< (y &&& 31)) :: st, S.2.2)
    | _ => none
  | .ishr => match S.2.1 with
    | .int y :: .int x :: st => some ([], S.1, .int (x >>> (y &&& 31)) :: st, S.2.2)
    | _ => none
  | .iushr => match S.2.1 with
    | .int y :: .int x :: st => some ([], S.1, .int (x.toUInt32 >>> (y.toUInt32 &&& Int32.toUInt32 31)).toInt32 :: st, S.2.2)
    | _ => none
  | .ladd => match S.2.1 with
    | .long y :: .long x :: st => some ([], S.1, .long (x + y) :: st, S.2.2)
    | _ => none
  | .lsub => match S.2.1 with
    | .long y :: .long x :: st => some ([], S.1, .long (x - y) :: st, S.2.2)
    | _ => none
  | .lmul => match S.2.1 with
    | .long y :: .long x :: st => some ([], S.1, .long (x * y) :: st, S.2.2)
    | _ => none
  | .land => match S.2.1 with
    | .long y :: .long x :: st => some ([], S.1, .long (x &&& y) :: st, S.2.2)
    | _ => none
  | .lor => match S.2.1 with
    | .long y :: .long x :: st => some ([], S.1, .long (x ||| y) :: st, S.2.2)
    | _ => none
  | .lxor => match S.2.1 with
    | .long y :: .long x :: st => some ([], S.1, .long (x ^^^ y) :: st, S.2.2)
    | _ => none
  | .ldiv => match S.2.1 with
    | .long y :: .long x :: st => some ([¬ y = 0], S.1, .long (x / y) :: st, S.2.2)
    | _ => none
  | .lrem => match S.2.1 with
    | .long y :: .long x :: st => some ([¬ y = 0], S.1, .long (x - x / y * y) :: st, S.2.2)
    | _ => none
  | .lneg => match S.2.1 with
    | .long x :: st => some ([], S.1, .long (-x) :: st, S.2.2)
    | _ => none
  | .lshl => match S.2.1 with
    | .int y :: .long x :: st => some ([], S.1, .long (x <<< (y.toInt64 &&& 63)) :: st, S.2.2)
    | _ => none
  | .lshr => match S.2.1 with
    | .int y :: .long x :: st => some ([], S.1, .long (x >>> (y.toInt64 &&& 63)) :: st, S.2.2)
    | _ => none
  | .lushr => match S.2.1 with
    | .int y :: .long x :: st => some ([], S.1, .long (x.toUInt64 >>> (y.toInt64.toUInt64 &&& Int64.toUInt64 63)).toInt64 :: st, S.2.2)
    | _ => none
  | .lcmp => match S.2.1 with
    | .long y :: .long x :: st => some ([], S.1, .int (lg_cmp x y) :: st, S.2.2)
    | _ => none
  | .i2l => match S.2.1 with
    | .int x :: st => some ([], S.1, .long x.toInt64 :: st, S.2.2)
    | _ => none
  | .l2i => match S.2.1 with
    | .long x :: st => some ([], S.1, .int x.toInt32 :: st, S.2.2)
    | _ => none
  | .i2b => match S.2.1 with
    | .int x :: st => some ([], S.1, .int x.toInt8.toInt32 :: st, S.2.2)
    | _ => none
  | .i2c => match S.2.1 with
    | .int x :: st => some ([], S.1, .int (x.toUInt32 % 65536).toInt32 :: st, S.2.2)
    | _ => none
  | .f2i => match S.2.1 with
    | .float x :: st => some ([], S.1, .int (FP.f2i x) :: st, S.2.2)
    | _ => none
  | .fcmp op => match S.2.1 with
    | .float y :: .float x :: st => some ([], S.1, .int (Op.cmpValue (FP.fcmp x y) op) :: st, S.2.2)
    | _ => none
  | .dup => match S.2.1 with
    | .int x :: st => some ([], S.1, .int x :: .int x :: st, S.2.2)
    | .ref x :: st => some ([], S.1, .ref x :: .ref x :: st, S.2.2)
    | _ => none
  | .dup2 => match S.2.1 with
    | .int y :: .ref x :: st => some ([], S.1, .int y :: .ref x :: .int y :: .ref x :: st, S.2.2)
    | .int y :: .int x :: st => some ([], S.1, .int y :: .int x :: .int y :: .int x :: st, S.2.2)
    | .long x :: st => some ([], S.1, .long x :: .long x :: st, S.2.2)
    | _ => none
  | .pop => match S.2.1 with
    | .int _ :: st => some ([], S.1, st, S.2.2)
    | .ref _ :: st => some ([], S.1, st, S.2.2)
    | _ => none
  | .arraylength => match S.2.1 with
    | .ref a :: st => match rf_at sh a with
      | some (.inl q) => some ([], S.1, .int (Int32.ofNat q.2) :: st, S.2.2)
      | _ => none
    | _ => none
  | .iaload => match S.2.1 with
    | .int x :: .ref a :: st => match rf_at sh a with
      | some (.inl (.int, n)) => some ([vp_in x n], S.1, .int (S.2.2.1 a x.toNatClampNeg) :: st, S.2.2)
      | _ => none
    | _ => none
  | .baload => match S.2.1 with
    | .int x :: .ref a :: st => match rf_at sh a with
      | some (.inl (.byte, n)) => some ([vp_in x n], S.1, .int (S.2.2.1 a x.toNatClampNeg) :: st, S.2.2)
      | some (.inl (.boolean, n)) => some ([vp_in x n], S.1, .int (S.2.2.1 a x.toNatClampNeg) :: st, S.2.2)
      | _ => none
    | _ => none
  | .laload => match S.2.1 with
    | .int x :: .ref a :: st => match rf_at sh a with
      | some (.inl (.long, n)) => some ([vp_in x n], S.1, .long (S.2.2.2.1 a x.toNatClampNeg) :: st, S.2.2)
      | _ => none
    | _ => none
  | .aaload => match S.2.1 with
    | .int x :: .ref a :: st => match rf_at sh a with
      | some (.inl (.object _, n)) => some ([vp_in x n], S.1, va_rf (S.2.2.2.2 a x.toNatClampNeg) :: st, S.2.2)
      | _ => none
    | _ => none
  | .iastore => match S.2.1 with
    | .int y :: .int x :: .ref a :: st => match rf_at sh a with
      | some (.inl (.int, n)) => some ([vp_in x n], S.1, st, rf_uI S.2.2 a x.toNatClampNeg y)
      | _ => none
    | _ => none
  | .bastore => match S.2.1 with
    | .int y :: .int x :: .ref a :: st => match rf_at sh a with
      | some (.inl (.byte, n)) => some ([vp_in x n], S.1, st, rf_uI S.2.2 a x.toNatClampNeg (vp_nar .byte y))
      | some (.inl (.boolean, n)) => some ([vp_in x n], S.1, st, rf_uI S.2.2 a x.toNatClampNeg (vp_nar .boolean y))
      | _ => none
    | _ => none
  | .lastore => match S.2.1 with
    | .long y :: .int x :: .ref a :: st => match rf_at sh a with
      | some (.inl (.long, n)) => some ([vp_in x n], S.1, st, rf_uL S.2.2 a x.toNatClampNeg y)
      | _ => none
    | _ => none
  | .invokeinterface ci f => match S.2.1 with
    | .ref a :: st => match rf_at sh a with
      | some (.inr cj) => if cj = ci then some ([], S.1, rf_rd S.2.2 (rf_ft ci f) a f :: st, S.2.2) else none
      | _ => none
    | _ => none
  | .multianewarray ci f => match S.2.1 with
    | .int x :: .ref a :: st => match rf_at sh a with
      | some (.inr cj) => if cj = ci then (match rf_ft ci f with
        | .int => some ([], S.1, st, rf_uI S.2.2 a f x)
        | .boolean => some ([x = 0 ∨ x = 1], S.1, st, rf_uI S.2.2 a f x)
        | _ => none) else none
      | _ => none
    | .long x :: .ref a :: st => match rf_at sh a with
      | some (.inr cj) => if cj = ci then (match rf_ft ci f with
        | .long => some ([], S.1, st, rf_uL S.2.2 a f x)
        | _ => none) else none
      | _ => none
    | _ => none
  | _ => none
/-- the instruction that stands in the code is this one -/
def rf_co (o nL : Nat) (real i : Instr) (n : Nat) : Bool := match i with
  | .iconst z => match real with
    | .iconst w => w == z && n == 1
    | .bipush w => (Int8.ofInt w).toInt32 == Int32.ofInt z && n == 2
    | .sipush w => (Int16.ofInt w).toInt32 == Int32.ofInt z && n == 3
    | .ldc idx => (rf_CI o).any (fun e => e.1 == idx && e.2.1 == z) && n == 2
    | .ldc_w idx => (rf_CI o).any (fun e => e.1 == idx && e.2.1 == z) && n == 3
    | _ => false
  | .goto_w z => match real with
    | .lconst w => Int64.ofNat (w : Nat) == Int64.ofInt z && n == 1
    | .ldc2_w idx => (rf_CL o).any (fun e => e.1 == idx && e.2.1 == z) && n == 3
    | _ => false
  | .iload a => match real with
    | .iload_n b => (b : Nat) == a && n == 1
    | .iload b => b == a && n == 2
    | _ => false
  | .lload a => match real with
    | .lload_n b => (b : Nat) == a && n == 1
    | .lload b => b == a && n == 2
    | _ => false
  | .fload a => match real with
    | .fload_n b => (b : Nat) == a && n == 1
    | .fload b => b == a && n == 2
    | _ => false
  | .aload a => match real with
    | .aload_n b => (b : Nat) == a && n == 1
    | .aload b => b == a && n == 2
    | _ => false
  | .istore a => decide (a < nL) && match real with
    | .istore_n b => (b : Nat) == a && n == 1
    | .istore b => b == a && n == 2
    | _ => false
  | .fstore a => decide (a < nL) && match real with
    | .fstore_n b => (b : Nat) == a && n == 1
    | .fstore b => b == a && n == 2
    | _ => false
  | .astore a => decide (a < nL) && match real with
    | .astore_n b => (b : Nat) == a && n == 1
    | .astore b => b == a && n == 2
    | _ => false
  | .lstore a => decide (a + 1 < nL) && match real with
    | .lstore_n b => (b : Nat) == a && n == 1
    | .lstore b => b == a && n == 2
    | _ => false
  | .iinc a z => decide (a < nL) && decide (real = .iinc a z) && n == 3
  | .invokeinterface ci f => match real with
    | .getfield idx => ((rf_FL o).any (fun e => e.1 == idx && e.2.1 == ci && e.2.2.1 == f) || (rf_NF o).any (fun e => e.1 == idx && e.2.1 == ci && e.2.2.1 == f)) && n == 3
    | _ => false
  | .multianewarray ci f => match real with
    | .putfield idx => ((rf_FL o).any (fun e => e.1 == idx && e.2.1 == ci && e.2.2.1 == f) || (rf_NF o).any (fun e => e.1 == idx && e.2.1 == ci && e.2.2.1 == f)) && (rf_T ci f).2.2.2 == false && n == 3
    | _ => false
  | _ => decide (real = i) && n == 1
def rf_ok (o nL : Nat) (cc : ByteArray) (pc : Nat) (i : Instr) (n : Nat) : Bool := match decode cc pc with
  | .ok (r, k) => k == n && rf_co o nL r i n
  | _ => false
theorem rf_ok_spec {o nL : Nat} {cc : ByteArray} {pc : Nat} {i : Instr} {n : Nat} (h : rf_ok o nL cc pc i n = true) : ∃ r, decode cc pc = .ok (r, n) ∧ rf_co o nL r i n = true := by
  unfold rf_ok at h
  split at h
  · rename_i r k hd
    simp only [Bool.and_eq_true, beq_iff_eq] at h
    obtain ⟨rfl, h⟩ := h
    exact ⟨r, hd, h⟩
  · cases h
end RFS
