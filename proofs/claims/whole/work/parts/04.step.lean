abbrev hx_GT : Type := hx_L → hx_M → Nat × Nat → Nat → hx_V → List Value → Prop
abbrev hx_KT : Type := Option Value → hx_L → hx_M → Prop
abbrev hx_ST : Type := hx_L → hx_M → List Value → hx_KT → Prop
/-- a class's pool: fields (entry, class, slot, kind), ints, longs, Math's own -/
abbrev hx_T : Type := List (Nat × Nat × Nat × Nat) × List (Nat × Int32) × List (Nat × Int64) × List (Nat × Nat)
def hx_av (Λ : hx_L) (μ : hx_M) (k j kd : Nat) : Value := match kd with
  | 0 => .int (μ.1 k j)
  | 1 => .long (μ.2 k j)
  | 2 => va_rf (Λ.2.1 k j)
  | _ => .int (μ.1 k j)
theorem hx_fk_lt (c j kd : Nat) : (hx_fk c)[j]? ≠ some (kd + 3) := by
  intro h
  have h1 : ∀ x ∈ hx_fk c, x < 3 := by
    unfold hx_fk
    split <;> decide
  have := h1 _ (List.mem_of_getElem? h)
  omega
def hx_step (nL mc ms : Nat) (ret : Option FieldType) (T : hx_T) (K : hx_KT) (G : hx_GT) (i : Instr) (n0 : Nat) (pc : Nat) (Λ : hx_L) (μ : hx_M) (u : Nat × Nat) (lv : hx_V) (st : List Value) : Prop := match i with
  | .iconst n => n0 = 1 ∧ G Λ μ u (pc + 1) lv (.int (Int32.ofInt n) :: st)
  | .bipush n => n0 = 2 ∧ G Λ μ u (pc + 2) lv (.int (Int8.ofInt n).toInt32 :: st)
  | .sipush n => n0 = 3 ∧ G Λ μ u (pc + 3) lv (.int (Int16.ofInt n).toInt32 :: st)
  | .lconst n => n0 = 1 ∧ G Λ μ u (pc + 1) lv (.long (Int64.ofNat (n : Nat)) :: st)
  | .ldc i => n0 = 2 ∧ ∃ v : Int32, (i, v) ∈ T.2.1 ∧ G Λ μ u (pc + 2) lv (.int v :: st)
  | .ldc_w i => n0 = 3 ∧ ∃ v : Int32, (i, v) ∈ T.2.1 ∧ G Λ μ u (pc + 3) lv (.int v :: st)
  | .ldc2_w i => n0 = 3 ∧ ∃ v : Int64, (i, v) ∈ T.2.2.1 ∧ G Λ μ u (pc + 3) lv (.long v :: st)
  | .aconst_null => n0 = 1 ∧ G Λ μ u (pc + 1) lv (va_rf none :: st)
  | .aload_n n => n0 = 1 ∧ ∃ q : Option Nat, lv[(n : Nat)]? = some (some (va_rf q)) ∧ G Λ μ u (pc + 1) lv (va_rf q :: st)
  | .aload i => n0 = 2 ∧ ∃ q : Option Nat, lv[i]? = some (some (va_rf q)) ∧ G Λ μ u (pc + 2) lv (va_rf q :: st)
  | .astore_n n => n0 = 1 ∧ ∃ (q : Option Nat) (r : List Value), st = va_rf q :: r ∧ (n : Nat) < nL ∧ hx_n2 lv (n : Nat) = true ∧ G Λ μ u (pc + 1) (lv.set (n : Nat) (some (va_rf q))) (r)
  | .astore i => n0 = 2 ∧ ∃ (q : Option Nat) (r : List Value), st = va_rf q :: r ∧ i < nL ∧ hx_n2 lv i = true ∧ G Λ μ u (pc + 2) (lv.set i (some (va_rf q))) (r)
  | .iload_n n => n0 = 1 ∧ ∃ x : Int32, lv[(n : Nat)]? = some (some (.int x)) ∧ G Λ μ u (pc + 1) lv (.int x :: st)
  | .iload i => n0 = 2 ∧ ∃ x : Int32, lv[i]? = some (some (.int x)) ∧ G Λ μ u (pc + 2) lv (.int x :: st)
  | .lload_n n => n0 = 1 ∧ ∃ x : Int64, lv[(n : Nat)]? = some (some (.long x)) ∧ G Λ μ u (pc + 1) lv (.long x :: st)
  | .lload i => n0 = 2 ∧ ∃ x : Int64, lv[i]? = some (some (.long x)) ∧ G Λ μ u (pc + 2) lv (.long x :: st)
  | .istore_n n => n0 = 1 ∧ ∃ (x : Int32) (r : List Value), st = .int x :: r ∧ (n : Nat) < nL ∧ hx_n2 lv (n : Nat) = true ∧ G Λ μ u (pc + 1) (lv.set (n : Nat) (some (.int x))) (r)
  | .istore i => n0 = 2 ∧ ∃ (x : Int32) (r : List Value), st = .int x :: r ∧ i < nL ∧ hx_n2 lv i = true ∧ G Λ μ u (pc + 2) (lv.set i (some (.int x))) (r)
  | .lstore_n n => n0 = 1 ∧ ∃ (x : Int64) (r : List Value), st = .long x :: r ∧ (n : Nat) + 1 < nL ∧ hx_n2 lv (n : Nat) = true ∧ G Λ μ u (pc + 1) ((lv.set (n : Nat) (some (.long x))).set ((n : Nat) + 1) none) (r)
  | .lstore i => n0 = 2 ∧ ∃ (x : Int64) (r : List Value), st = .long x :: r ∧ i + 1 < nL ∧ hx_n2 lv i = true ∧ G Λ μ u (pc + 2) ((lv.set i (some (.long x))).set (i + 1) none) (r)
  | .iinc i n => n0 = 3 ∧ ∃ x : Int32, lv[i]? = some (some (.int x)) ∧ i < nL ∧ hx_n2 lv i = true ∧ G Λ μ u (pc + 3) (lv.set i (some (.int (x + Int32.ofInt n)))) (st)
  | .iadd => n0 = 1 ∧ ∃ (x y : Int32) (r : List Value), st = .int y :: .int x :: r ∧ G Λ μ u (pc + 1) lv (.int (x + y) :: r)
  | .isub => n0 = 1 ∧ ∃ (x y : Int32) (r : List Value), st = .int y :: .int x :: r ∧ G Λ μ u (pc + 1) lv (.int (x - y) :: r)
  | .imul => n0 = 1 ∧ ∃ (x y : Int32) (r : List Value), st = .int y :: .int x :: r ∧ G Λ μ u (pc + 1) lv (.int (x * y) :: r)
  | .iand => n0 = 1 ∧ ∃ (x y : Int32) (r : List Value), st = .int y :: .int x :: r ∧ G Λ μ u (pc + 1) lv (.int (x &&& y) :: r)
  | .ior => n0 = 1 ∧ ∃ (x y : Int32) (r : List Value), st = .int y :: .int x :: r ∧ G Λ μ u (pc + 1) lv (.int (x ||| y) :: r)
  | .ixor => n0 = 1 ∧ ∃ (x y : Int32) (r : List Value), st = .int y :: .int x :: r ∧ G Λ μ u (pc + 1) lv (.int (x ^^^ y) :: r)
  | .ishl => n0 = 1 ∧ ∃ (x y : Int32) (r : List Value), st = .int y :: .int x :: r ∧ G Λ μ u (pc + 1) lv (.int (x <<< (y &&& 31)) :: r)
  | .ishr => n0 = 1 ∧ ∃ (x y : Int32) (r : List Value), st = .int y :: .int x :: r ∧ G Λ μ u (pc + 1) lv (.int (x >>> (y &&& 31)) :: r)
  | .iushr => n0 = 1 ∧ ∃ (x y : Int32) (r : List Value), st = .int y :: .int x :: r ∧ G Λ μ u (pc + 1) lv (.int ((x.toUInt32 >>> (y.toUInt32 &&& Int32.toUInt32 31)).toInt32) :: r)
  | .idiv => n0 = 1 ∧ ∃ (x y : Int32) (r : List Value), st = .int y :: .int x :: r ∧ ¬ y = 0 ∧ G Λ μ u (pc + 1) lv (.int (x / y) :: r)
  | .irem => n0 = 1 ∧ ∃ (x y : Int32) (r : List Value), st = .int y :: .int x :: r ∧ ¬ y = 0 ∧ G Λ μ u (pc + 1) lv (.int (x - x / y * y) :: r)
  | .ineg => n0 = 1 ∧ ∃ (x : Int32) (r : List Value), st = .int x :: r ∧ G Λ μ u (pc + 1) lv (.int (-x) :: r)
  | .ladd => n0 = 1 ∧ ∃ (x y : Int64) (r : List Value), st = .long y :: .long x :: r ∧ G Λ μ u (pc + 1) lv (.long (x + y) :: r)
  | .lsub => n0 = 1 ∧ ∃ (x y : Int64) (r : List Value), st = .long y :: .long x :: r ∧ G Λ μ u (pc + 1) lv (.long (x - y) :: r)
  | .lmul => n0 = 1 ∧ ∃ (x y : Int64) (r : List Value), st = .long y :: .long x :: r ∧ G Λ μ u (pc + 1) lv (.long (x * y) :: r)
  | .land => n0 = 1 ∧ ∃ (x y : Int64) (r : List Value), st = .long y :: .long x :: r ∧ G Λ μ u (pc + 1) lv (.long (x &&& y) :: r)
  | .lor => n0 = 1 ∧ ∃ (x y : Int64) (r : List Value), st = .long y :: .long x :: r ∧ G Λ μ u (pc + 1) lv (.long (x ||| y) :: r)
  | .lxor => n0 = 1 ∧ ∃ (x y : Int64) (r : List Value), st = .long y :: .long x :: r ∧ G Λ μ u (pc + 1) lv (.long (x ^^^ y) :: r)
  | .ldiv => n0 = 1 ∧ ∃ (x y : Int64) (r : List Value), st = .long y :: .long x :: r ∧ ¬ y = 0 ∧ G Λ μ u (pc + 1) lv (.long (x / y) :: r)
  | .lrem => n0 = 1 ∧ ∃ (x y : Int64) (r : List Value), st = .long y :: .long x :: r ∧ ¬ y = 0 ∧ G Λ μ u (pc + 1) lv (.long (x - x / y * y) :: r)
  | .lshl => n0 = 1 ∧ ∃ (x : Int64) (y : Int32) (r : List Value), st = .int y :: .long x :: r ∧ G Λ μ u (pc + 1) lv (.long (x <<< (y.toInt64 &&& 63)) :: r)
  | .lushr => n0 = 1 ∧ ∃ (x : Int64) (y : Int32) (r : List Value), st = .int y :: .long x :: r ∧ G Λ μ u (pc + 1) lv (.long ((x.toUInt64 >>> (y.toInt64.toUInt64 &&& Int64.toUInt64 63)).toInt64) :: r)
  | .lcmp => n0 = 1 ∧ ∃ (x y : Int64) (r : List Value), st = .long y :: .long x :: r ∧ G Λ μ u (pc + 1) lv (.int (lg_cmp x y) :: r)
  | .i2l => n0 = 1 ∧ ∃ (x : Int32) (r : List Value), st = .int x :: r ∧ G Λ μ u (pc + 1) lv (.long x.toInt64 :: r)
  | .i2b => n0 = 1 ∧ ∃ (x : Int32) (r : List Value), st = .int x :: r ∧ G Λ μ u (pc + 1) lv (.int x.toInt8.toInt32 :: r)
  | .l2i => n0 = 1 ∧ ∃ (x : Int64) (r : List Value), st = .long x :: r ∧ G Λ μ u (pc + 1) lv (.int x.toInt32 :: r)
  | .dup => n0 = 1 ∧ ∃ (v : Value) (r : List Value), st = v :: r ∧ v.category = 1 ∧ G Λ μ u (pc + 1) lv (v :: v :: r)
  | .pop => n0 = 1 ∧ ∃ (v : Value) (r : List Value), st = v :: r ∧ v.category = 1 ∧ G Λ μ u (pc + 1) lv (r)
  | .dup_x1 => n0 = 1 ∧ ∃ (v w : Value) (r : List Value), st = v :: w :: r ∧ v.category = 1 ∧ w.category = 1 ∧ G Λ μ u (pc + 1) lv (v :: w :: v :: r)
  | .dup2 => n0 = 1 ∧ ∃ (v w : Value) (r : List Value), st = v :: w :: r ∧ v.category = 1 ∧ w.category = 1 ∧ G Λ μ u (pc + 1) lv (v :: w :: v :: w :: r)
  | .ifCond .eq off => n0 = 3 ∧ ∃ (x : Int32) (r : List Value) (tgt : Nat), st = .int x :: r ∧ (pc : Int) + off = (tgt : Int) ∧ (x = 0 → G Λ μ u tgt lv (r)) ∧ (¬ (x = 0) → G Λ μ u (pc + 3) lv (r))
  | .if_icmp .eq off => n0 = 3 ∧ ∃ (x y : Int32) (r : List Value) (tgt : Nat), st = .int y :: .int x :: r ∧ (pc : Int) + off = (tgt : Int) ∧ (x = y → G Λ μ u tgt lv (r)) ∧ (¬ (x = y) → G Λ μ u (pc + 3) lv (r))
  | .ifCond .ne off => n0 = 3 ∧ ∃ (x : Int32) (r : List Value) (tgt : Nat), st = .int x :: r ∧ (pc : Int) + off = (tgt : Int) ∧ (x ≠ 0 → G Λ μ u tgt lv (r)) ∧ (x = 0 → G Λ μ u (pc + 3) lv (r))
  | .if_icmp .ne off => n0 = 3 ∧ ∃ (x y : Int32) (r : List Value) (tgt : Nat), st = .int y :: .int x :: r ∧ (pc : Int) + off = (tgt : Int) ∧ (x ≠ y → G Λ μ u tgt lv (r)) ∧ (x = y → G Λ μ u (pc + 3) lv (r))
  | .ifCond .lt off => n0 = 3 ∧ ∃ (x : Int32) (r : List Value) (tgt : Nat), st = .int x :: r ∧ (pc : Int) + off = (tgt : Int) ∧ (x < 0 → G Λ μ u tgt lv (r)) ∧ (¬ (x < 0) → G Λ μ u (pc + 3) lv (r))
  | .if_icmp .lt off => n0 = 3 ∧ ∃ (x y : Int32) (r : List Value) (tgt : Nat), st = .int y :: .int x :: r ∧ (pc : Int) + off = (tgt : Int) ∧ (x < y → G Λ μ u tgt lv (r)) ∧ (¬ (x < y) → G Λ μ u (pc + 3) lv (r))
  | .ifCond .ge off => n0 = 3 ∧ ∃ (x : Int32) (r : List Value) (tgt : Nat), st = .int x :: r ∧ (pc : Int) + off = (tgt : Int) ∧ (0 ≤ x → G Λ μ u tgt lv (r)) ∧ (¬ (0 ≤ x) → G Λ μ u (pc + 3) lv (r))
  | .if_icmp .ge off => n0 = 3 ∧ ∃ (x y : Int32) (r : List Value) (tgt : Nat), st = .int y :: .int x :: r ∧ (pc : Int) + off = (tgt : Int) ∧ (y ≤ x → G Λ μ u tgt lv (r)) ∧ (¬ (y ≤ x) → G Λ μ u (pc + 3) lv (r))
  | .ifCond .gt off => n0 = 3 ∧ ∃ (x : Int32) (r : List Value) (tgt : Nat), st = .int x :: r ∧ (pc : Int) + off = (tgt : Int) ∧ (0 < x → G Λ μ u tgt lv (r)) ∧ (¬ (0 < x) → G Λ μ u (pc + 3) lv (r))
  | .if_icmp .gt off => n0 = 3 ∧ ∃ (x y : Int32) (r : List Value) (tgt : Nat), st = .int y :: .int x :: r ∧ (pc : Int) + off = (tgt : Int) ∧ (y < x → G Λ μ u tgt lv (r)) ∧ (¬ (y < x) → G Λ μ u (pc + 3) lv (r))
  | .ifCond .le off => n0 = 3 ∧ ∃ (x : Int32) (r : List Value) (tgt : Nat), st = .int x :: r ∧ (pc : Int) + off = (tgt : Int) ∧ (x ≤ 0 → G Λ μ u tgt lv (r)) ∧ (¬ (x ≤ 0) → G Λ μ u (pc + 3) lv (r))
  | .if_icmp .le off => n0 = 3 ∧ ∃ (x y : Int32) (r : List Value) (tgt : Nat), st = .int y :: .int x :: r ∧ (pc : Int) + off = (tgt : Int) ∧ (x ≤ y → G Λ μ u tgt lv (r)) ∧ (¬ (x ≤ y) → G Λ μ u (pc + 3) lv (r))
  | .goto off => n0 = 3 ∧ ∃ tgt : Nat, (pc : Int) + off = (tgt : Int) ∧ G Λ μ u tgt lv (st)
  | .ifnull off => n0 = 3 ∧ ∃ (q : Option Nat) (r : List Value) (tgt : Nat), st = va_rf q :: r ∧ (pc : Int) + off = (tgt : Int) ∧ (q = none → G Λ μ u tgt lv (r)) ∧ (∀ k, q = some k → G Λ μ u (pc + 3) lv (r))
  | .ifnonnull off => n0 = 3 ∧ ∃ (q : Option Nat) (r : List Value) (tgt : Nat), st = va_rf q :: r ∧ (pc : Int) + off = (tgt : Int) ∧ (∀ k, q = some k → G Λ μ u tgt lv (r)) ∧ (q = none → G Λ μ u (pc + 3) lv (r))
  | .tableswitch dflt lo hi offs => ∃ (x : Int32) (r : List Value), st = .int x :: r ∧ ((x.toInt < lo ∨ hi < x.toInt) → ∃ tgt : Nat, (pc : Int) + dflt = (tgt : Int) ∧ G Λ μ u tgt lv (r)) ∧ (¬ x.toInt < lo → ¬ hi < x.toInt → ∃ (off : Int) (tgt : Nat), offs[(x.toInt - lo).toNat]? = some off ∧ (pc : Int) + off = (tgt : Int) ∧ G Λ μ u tgt lv (r))
  | .getfield i => n0 = 3 ∧ ∃ (ci j kd k0 : Nat) (r : List Value), (i, ci, j, kd) ∈ T.1 ∧ st = .ref k0 :: r ∧ Λ.1 k0 = (0, ci) ∧ G Λ μ u (pc + 3) lv (hx_av Λ μ k0 j kd :: r)
  | .putfield i => n0 = 3 ∧ ∃ (ci j k0 : Nat) (r : List Value), Λ.1 k0 = (0, ci) ∧ ((∃ v : Int32, (i, ci, j, 0) ∈ T.1 ∧ st = .int v :: .ref k0 :: r ∧ G Λ (hx_sI μ k0 j v) u (pc + 3) lv (r)) ∨ (∃ v : Int64, (i, ci, j, 1) ∈ T.1 ∧ st = .long v :: .ref k0 :: r ∧ G Λ (hx_sL μ k0 j v) u (pc + 3) lv (r)))
  | .iaload => n0 = 1 ∧ ∃ (k0 n : Nat) (i : Int32) (r : List Value), st = .int i :: .ref k0 :: r ∧ Λ.1 k0 = (1, n) ∧ vp_in i n ∧ G Λ μ u (pc + 1) lv (.int (μ.1 k0 i.toNatClampNeg) :: r)
  | .baload => n0 = 1 ∧ ∃ (k0 n kd : Nat) (i : Int32) (r : List Value), st = .int i :: .ref k0 :: r ∧ (kd = 2 ∨ kd = 4) ∧ Λ.1 k0 = (kd, n) ∧ vp_in i n ∧ G Λ μ u (pc + 1) lv (.int (μ.1 k0 i.toNatClampNeg) :: r)
  | .laload => n0 = 1 ∧ ∃ (k0 n : Nat) (i : Int32) (r : List Value), st = .int i :: .ref k0 :: r ∧ Λ.1 k0 = (3, n) ∧ vp_in i n ∧ G Λ μ u (pc + 1) lv (.long (μ.2 k0 i.toNatClampNeg) :: r)
  | .aaload => n0 = 1 ∧ ∃ (k0 n kd : Nat) (i : Int32) (r : List Value), st = .int i :: .ref k0 :: r ∧ (kd = 5 ∨ kd = 6) ∧ Λ.1 k0 = (kd, n) ∧ vp_in i n ∧ G Λ μ u (pc + 1) lv (va_rf (Λ.2.1 k0 i.toNatClampNeg) :: r)
  | .iastore => n0 = 1 ∧ ∃ (k0 n : Nat) (i x : Int32) (r : List Value), st = .int x :: .int i :: .ref k0 :: r ∧ Λ.1 k0 = (1, n) ∧ vp_in i n ∧ G Λ (hx_sI μ k0 i.toNatClampNeg x) u (pc + 1) lv (r)
  | .bastore => n0 = 1 ∧ ∃ (k0 n kd : Nat) (i x : Int32) (r : List Value), st = .int x :: .int i :: .ref k0 :: r ∧ Λ.1 k0 = (kd, n) ∧ vp_in i n ∧ ((kd = 2 ∧ G Λ (hx_sI μ k0 i.toNatClampNeg (vp_nar .byte x)) u (pc + 1) lv (r)) ∨ (kd = 4 ∧ G Λ (hx_sI μ k0 i.toNatClampNeg (vp_nar .boolean x)) u (pc + 1) lv (r)))
  | .lastore => n0 = 1 ∧ ∃ (k0 n : Nat) (i : Int32) (x : Int64) (r : List Value), st = .long x :: .int i :: .ref k0 :: r ∧ Λ.1 k0 = (3, n) ∧ vp_in i n ∧ G Λ (hx_sL μ k0 i.toNatClampNeg x) u (pc + 1) lv (r)
  | .arraylength => n0 = 1 ∧ ∃ (k0 n kd : Nat) (r : List Value), st = .ref k0 :: r ∧ (kd = 1 ∨ kd = 2 ∨ kd = 3) ∧ Λ.1 k0 = (kd, n) ∧ G Λ μ u (pc + 1) lv (.int (Int32.ofNat n) :: r)
  | .ireturn => n0 = 1 ∧ ∃ (v : Int32) (ty : FieldType), st = [.int v] ∧ ret = some ty ∧ narrow ty (.int v) = .int v ∧ K (some (.int v)) Λ μ ∧ u.1 ≤ mc ∧ u.2 ≤ ms
  | .lreturn => n0 = 1 ∧ ∃ v : Int64, st = [.long v] ∧ ret = some .long ∧ K (some (.long v)) Λ μ ∧ u.1 ≤ mc ∧ u.2 ≤ ms
  | .areturn => n0 = 1 ∧ ∃ q : Option Nat, st = [va_rf q] ∧ (∃ rt, ret = some rt ∧ ((∃ n, rt = .object n) ∨ ∃ t, rt = .array t)) ∧ K (some (va_rf q)) Λ μ ∧ u.1 ≤ mc ∧ u.2 ≤ ms
  | .return_ => n0 = 1 ∧ st = [] ∧ ret = none ∧ K none Λ μ ∧ u.1 ≤ mc ∧ u.2 ≤ ms
  | .invokestatic i => n0 = 3 ∧ ∃ (wh : Nat) (r : List Value), (i, wh) ∈ T.2.2.2 ∧ u.1 ≤ mc ∧ u.2 ≤ ms ∧ (r.map fun v => v.category).sum ≤ 8 ∧ ((wh = 0 ∧ ∃ x y : Int32, st = .int y :: .int x :: r ∧ G Λ μ u (pc + 3) lv (.int (if x < y then y else x) :: r)) ∨ (wh = 1 ∧ ∃ x y : Int32, st = .int y :: .int x :: r ∧ G Λ μ u (pc + 3) lv (.int (if y < x then y else x) :: r)) ∨ (wh = 2 ∧ ∃ x : Int32, st = .int x :: r ∧ G Λ μ u (pc + 3) lv (.int (if 0 ≤ x then x else 0 - x) :: r)) ∨ (wh = 3 ∧ ∃ (k0 k1 n0 n1 : Nat) (sp dp n : Int32), st = .int n :: .int dp :: .ref k1 :: .int sp :: .ref k0 :: r ∧ Λ.1 k0 = (1, n0) ∧ Λ.1 k1 = (1, n1) ∧ ¬ sp < 0 ∧ ¬ dp < 0 ∧ ¬ n < 0 ∧ sp.toNatClampNeg + n.toNatClampNeg ≤ n0 ∧ dp.toNatClampNeg + n.toNatClampNeg ≤ n1 ∧ G Λ (hx_sA μ k1 (va_cpy (μ.1 k0) (μ.1 k1) sp.toNatClampNeg dp.toNatClampNeg n.toNatClampNeg)) u (pc + 3) lv (r)))
  | _ => False
def hx_K (cc : ByteArray) (nL mc ms : Nat) (ret : Option FieldType) (T : hx_T) (K : hx_KT) (G : hx_GT) : Prop :=
  (∀ (pc : Nat) (i : Instr) (n : Nat), decode cc pc = .ok (i, n) → ∀ (Λ : hx_L) (μ : hx_M) (u : Nat × Nat) (lv : hx_V) (st : List Value), hx_step nL mc ms ret T K G i n pc Λ μ u lv st → G Λ μ u pc lv st) ∧
  (∀ (Λ : hx_L) (μ : hx_M) (u : Nat × Nat) (pc : Nat) (lv lv' : hx_V) (st : List Value), hx_le 0 lv' lv → G Λ μ u pc lv' st → G Λ μ u pc lv st)
def hx_fok (own : String) (q : Nat × Nat × Nat × Nat) : Prop := ∃ (C : String) (T : u_T) (N : Nat), vwCl[q.2.1]? = some (C, T, N) ∧ q.2.2.1 < N ∧ (hx_fk q.2.1)[q.2.2.1]? = some (if q.2.2.2 = 3 then 0 else q.2.2.2) ∧ Cond.fieldLink own q.1 (T q.2.2.1).1 (T q.2.2.1).2.1 (T q.2.2.1).2.2.1 ∈ hx_tbl ∧ (∀ w ∈ u_ws C T N, w ∈ hx_tbl) ∧ ∃ ty0 : Nat → FieldType, (∀ k, k < N → parseFieldDescriptor (T k).2.2.1 = some (ty0 k)) ∧ (∀ a, a < N → ∀ b, b < N → a ≠ b → (T a).2.1 ≠ (T b).2.1) ∧ (q.2.2.2 = 0 → (T q.2.2.1).2.2.2 = false ∧ parseFieldDescriptor (T q.2.2.1).2.2.1 = some .int) ∧ (q.2.2.2 = 1 → (T q.2.2.1).2.2.2 = false ∧ parseFieldDescriptor (T q.2.2.1).2.2.1 = some .long)
def hx_mm (own : String) (q : Nat × Nat) : Prop := match q.2 with
  | 0 => Cond.methodLink own q.1 Lib.Math.max.name ∈ hx_tbl ∧ Cond.static Lib.Math.max.name ∈ hx_tbl ∧ Cond.initialized "java/lang/Math" ∈ hx_tbl ∧ Cond.code Lib.Math.max.name Lib.Math.max.code 2 (some .int) ∈ hx_tbl
  | 1 => Cond.methodLink own q.1 Lib.Math.min.name ∈ hx_tbl ∧ Cond.static Lib.Math.min.name ∈ hx_tbl ∧ Cond.initialized "java/lang/Math" ∈ hx_tbl ∧ Cond.code Lib.Math.min.name Lib.Math.min.code 2 (some .int) ∈ hx_tbl
  | 3 => Cond.methodLink own q.1 arraycopyName ∈ hx_tbl ∧ Cond.native arraycopyName ∈ hx_tbl ∧ Cond.static arraycopyName ∈ hx_tbl ∧ Cond.initialized "java/lang/System" ∈ hx_tbl
  | _ => Cond.methodLink own q.1 Lib.Math.abs.name ∈ hx_tbl ∧ Cond.static Lib.Math.abs.name ∈ hx_tbl ∧ Cond.initialized "java/lang/Math" ∈ hx_tbl ∧ Cond.code Lib.Math.abs.name Lib.Math.abs.code 1 (some .int) ∈ hx_tbl
def hx_tok (own : String) (T : hx_T) : Prop := (∀ q ∈ T.1, hx_fok own q) ∧ (∀ q ∈ T.2.1, Cond.constant own q.1 q.2 ∈ hx_tbl) ∧ (∀ q ∈ T.2.2.1, Cond.constantLong own q.1 q.2 ∈ hx_tbl) ∧ (∀ q ∈ T.2.2.2, hx_mm own q)
def hx_Q (dC : Nat → ClassId) (dI : Nat → Nat → Nat) (cA : Nat → ClassId) (ad0 : Nat → Nat) (N0 : Nat) (A : Nat → Prop) (K : hx_KT) : Array Value → State → Outcome → State → Prop := fun _ st oc t =>
  (∃ (r : Option Value) (Λ' : hx_L) (μ' : hx_M) (ad' : Nat → Nat), oc = .returned (r.map (hx_tr ad')) ∧ K r Λ' μ' ∧ (∀ k, (k < N0 ∨ hx_big ≤ k) → ad' k = ad0 k) ∧ N0 ≤ Λ'.2.2 ∧ hx_ok Λ' ∧ (∀ v, r = some v → hx_wv Λ'.2.2 v) ∧ va_P (dC, dI) vwCl (hx_W cA ad' Λ' μ') t.heap ∧ va_D A (hx_W cA ad' Λ' μ')) ∧ va_F A st t
theorem hx_Q_of {dC : Nat → ClassId} {dI : Nat → Nat → Nat} {cA : Nat → ClassId} {A : Nat → Prop} {nL N0 : Nat} {ad0 : Nat → Nat} {Λ : hx_L} {μ : hx_M} {lv : hx_V} {st : List Value} {ad : Nat → Nat} {H : Heap} {locs : List Loc} {ls : Array Slot} {s t : State} {a : Array Value} {K : hx_KT} {v : Value} (B : hx_B dC dI cA A s.heap nL N0 ad0 Λ μ lv st ad H locs ls) (hk : K (some v) Λ μ) (hv : hx_wv Λ.2.2 v) (ht : t.heap = H) : hx_Q dC dI cA ad0 N0 A K a s (.returned (some (hx_tr ad v))) t :=
  ⟨⟨some v, Λ, μ, ad, rfl, hk, B.1, B.N, B.ok, fun w h => by cases h; exact hv, by rw [ht]; exact B.P, B.D⟩, B.S.F ht⟩
theorem hx_Q_ofN {dC : Nat → ClassId} {dI : Nat → Nat → Nat} {cA : Nat → ClassId} {A : Nat → Prop} {nL N0 : Nat} {ad0 : Nat → Nat} {Λ : hx_L} {μ : hx_M} {lv : hx_V} {st : List Value} {ad : Nat → Nat} {H : Heap} {locs : List Loc} {ls : Array Slot} {s t : State} {a : Array Value} {K : hx_KT} (B : hx_B dC dI cA A s.heap nL N0 ad0 Λ μ lv st ad H locs ls) (hk : K none Λ μ) (ht : t.heap = H) : hx_Q dC dI cA ad0 N0 A K a s (.returned none) t :=
  ⟨⟨none, Λ, μ, ad, rfl, hk, B.1, B.N, B.ok, fun w h => (by cases h), by rw [ht]; exact B.P, B.D⟩, B.S.F ht⟩
section HXS
variable {p : Program} {l : Launch} {e : Env} {R : Room} {s : State} {m : MethodId} {args : Array Value} {below : List Frame} {meth : Method} {c : Code}
variable {dC : Nat → ClassId} {dI : Nat → Nat → Nat} {cA : Nat → ClassId} {A : Nat → Prop} {nL N0 mc ms : Nat} {ad0 : Nat → Nat} {cc : ByteArray} {own : String} {ret : Option FieldType} {T : hx_T} {K : hx_KT}
/-- what stands fixed in a method's walk -/
def hx_C (p : Program) (s : State) (m : MethodId) (args : Array Value) (meth : Method) (c : Code) (dC : Nat → ClassId) (dI : Nat → Nat → Nat) (cA : Nat → ClassId) (nL : Nat) (cc : ByteArray) (own : String) (ret : Option FieldType) : Prop :=
  p.tables.exec = Jvm.exec ∧ c.code = cc ∧ c.maxLocals = nL ∧ (∀ w ∈ hx_tbl, w.before args s = true) ∧ s.vm.findClass own = some m.cls ∧ va_K (dC, dI) vwCl (hx_tys cA) s ∧ meth.sig.returnType = ret ∧ meth.locks = false
set_option maxHeartbeats 4000000 in
theorem hx_K_G (C : hx_C p s m args meth c dC dI cA nL cc own ret) (hT : hx_tok own T) (hh : 1 ≤ R.frames ∧ 8 + 29 ≤ R.locals ∧ mc ≤ R.cells ∧ ms ≤ R.slots) : hx_K cc nL mc ms ret T K (hx_G p l e R s m args below meth c (MQ below (hx_Q dC dI cA ad0 N0 A K) args s mc ms A) dC dI cA A s.heap nL N0 ad0) := by
  refine ⟨?_, fun Λ μ u pc lv lv' st hl k => hr_sub hl k⟩
  intro pc i n hd Λ μ u lv st h
  unfold hx_step at h
  split at h
  · obtain ⟨rfl, h⟩ := h
    exact hr_iconst C.1 C.2.1 hd rfl h
  · obtain ⟨rfl, h⟩ := h
    exact hr_bipush C.1 C.2.1 hd rfl h
  · obtain ⟨rfl, h⟩ := h
    exact hr_sipush C.1 C.2.1 hd rfl h
  · obtain ⟨rfl, h⟩ := h
    exact hr_lconst C.1 C.2.1 hd rfl h
  · obtain ⟨rfl, h⟩ := h
    obtain ⟨v, hv, h⟩ := h
    exact hr_ldc C.1 C.2.1 C.2.2.2.2.1 (C.2.2.2.1 _ (hT.2.1 _ hv)) hd h
  · obtain ⟨rfl, h⟩ := h
    obtain ⟨v, hv, h⟩ := h
    exact hr_ldcw C.1 C.2.1 C.2.2.2.2.1 (C.2.2.2.1 _ (hT.2.1 _ hv)) hd h
  · obtain ⟨rfl, h⟩ := h
    obtain ⟨v, hv, h⟩ := h
    exact hr_ldc2 C.1 C.2.1 C.2.2.2.2.1 (C.2.2.2.1 _ (hT.2.2.1 _ hv)) hd h
  · obtain ⟨rfl, h⟩ := h
    exact hr_null C.1 C.2.1 hd h
  · obtain ⟨rfl, h⟩ := h
    obtain ⟨q, hv, h⟩ := h
    exact hr_aload_nQ C.1 C.2.1 hd hv h
  · obtain ⟨rfl, h⟩ := h
    obtain ⟨q, hv, h⟩ := h
    exact hr_aloadQ C.1 C.2.1 hd hv h
  · obtain ⟨rfl, h⟩ := h
    obtain ⟨q, r, rfl, h1, h2, h⟩ := h
    exact hr_astore_nQ C.1 C.2.1 hd h1 h2 h
  · obtain ⟨rfl, h⟩ := h
    obtain ⟨q, r, rfl, h1, h2, h⟩ := h
    exact hr_astoreQ C.1 C.2.1 hd h1 h2 h
  · obtain ⟨rfl, h⟩ := h
    obtain ⟨x, hv, h⟩ := h
    exact hr_iload_n C.1 C.2.1 hd hv h
  · obtain ⟨rfl, h⟩ := h
    obtain ⟨x, hv, h⟩ := h
    exact hr_iload C.1 C.2.1 hd hv h
  · obtain ⟨rfl, h⟩ := h
    obtain ⟨x, hv, h⟩ := h
    exact hr_lload_n C.1 C.2.1 hd hv h
  · obtain ⟨rfl, h⟩ := h
    obtain ⟨x, hv, h⟩ := h
    exact hr_lload C.1 C.2.1 hd hv h
  · obtain ⟨rfl, h⟩ := h
    obtain ⟨x, r, rfl, h1, h2, h⟩ := h
    exact hr_istore_n C.1 C.2.1 hd h1 h2 h
  · obtain ⟨rfl, h⟩ := h
    obtain ⟨x, r, rfl, h1, h2, h⟩ := h
    exact hr_istore C.1 C.2.1 hd h1 h2 h
  · obtain ⟨rfl, h⟩ := h
    obtain ⟨x, r, rfl, h1, h2, h⟩ := h
    exact hr_lstore_n C.1 C.2.1 hd h1 h2 h
  · obtain ⟨rfl, h⟩ := h
    obtain ⟨x, r, rfl, h1, h2, h⟩ := h
    exact hr_lstore C.1 C.2.1 hd h1 h2 h
  · obtain ⟨rfl, h⟩ := h
    obtain ⟨x, hv, h1, h2, h⟩ := h
    exact hr_iinc C.1 C.2.1 hd hv rfl h1 h2 h
  · obtain ⟨rfl, h⟩ := h
    obtain ⟨x, y, r, rfl, h⟩ := h
    exact hr_iadd C.1 C.2.1 hd h
  · obtain ⟨rfl, h⟩ := h
    obtain ⟨x, y, r, rfl, h⟩ := h
    exact hr_isub C.1 C.2.1 hd h
  · obtain ⟨rfl, h⟩ := h
    obtain ⟨x, y, r, rfl, h⟩ := h
    exact hr_imul C.1 C.2.1 hd h
  · obtain ⟨rfl, h⟩ := h
    obtain ⟨x, y, r, rfl, h⟩ := h
    exact hr_iand C.1 C.2.1 hd h
  · obtain ⟨rfl, h⟩ := h
    obtain ⟨x, y, r, rfl, h⟩ := h
    exact hr_ior C.1 C.2.1 hd h
  · obtain ⟨rfl, h⟩ := h
    obtain ⟨x, y, r, rfl, h⟩ := h
    exact hr_ixor C.1 C.2.1 hd h
  · obtain ⟨rfl, h⟩ := h
    obtain ⟨x, y, r, rfl, h⟩ := h
    exact hr_ishl C.1 C.2.1 hd h
  · obtain ⟨rfl, h⟩ := h
    obtain ⟨x, y, r, rfl, h⟩ := h
    exact hr_ishr C.1 C.2.1 hd h
  · obtain ⟨rfl, h⟩ := h
    obtain ⟨x, y, r, rfl, h⟩ := h
    exact hr_iushr C.1 C.2.1 hd h
  · obtain ⟨rfl, h⟩ := h
    obtain ⟨x, y, r, rfl, hne, h⟩ := h
    exact hr_idiv C.1 C.2.1 hd hne h
  · obtain ⟨rfl, h⟩ := h
    obtain ⟨x, y, r, rfl, hne, h⟩ := h
    exact hr_irem C.1 C.2.1 hd hne h
  · obtain ⟨rfl, h⟩ := h
    obtain ⟨x, r, rfl, h⟩ := h
    exact hr_ineg C.1 C.2.1 hd h
  · obtain ⟨rfl, h⟩ := h
    obtain ⟨x, y, r, rfl, h⟩ := h
    exact hr_ladd C.1 C.2.1 hd h
  · obtain ⟨rfl, h⟩ := h
    obtain ⟨x, y, r, rfl, h⟩ := h
    exact hr_lsub C.1 C.2.1 hd h
  · obtain ⟨rfl, h⟩ := h
    obtain ⟨x, y, r, rfl, h⟩ := h
    exact hr_lmul C.1 C.2.1 hd h
  · obtain ⟨rfl, h⟩ := h
    obtain ⟨x, y, r, rfl, h⟩ := h
    exact hr_land C.1 C.2.1 hd h
  · obtain ⟨rfl, h⟩ := h
    obtain ⟨x, y, r, rfl, h⟩ := h
    exact hr_lor C.1 C.2.1 hd h
  · obtain ⟨rfl, h⟩ := h
    obtain ⟨x, y, r, rfl, h⟩ := h
    exact hr_lxor C.1 C.2.1 hd h
  · obtain ⟨rfl, h⟩ := h
    obtain ⟨x, y, r, rfl, hne, h⟩ := h
    exact hr_ldiv C.1 C.2.1 hd hne h
  · obtain ⟨rfl, h⟩ := h
    obtain ⟨x, y, r, rfl, hne, h⟩ := h
    exact hr_lrem C.1 C.2.1 hd hne h
  · obtain ⟨rfl, h⟩ := h
    obtain ⟨x, y, r, rfl, h⟩ := h
    exact hr_lshl C.1 C.2.1 hd h
  · obtain ⟨rfl, h⟩ := h
    obtain ⟨x, y, r, rfl, h⟩ := h
    exact hr_lushr C.1 C.2.1 hd h
  · obtain ⟨rfl, h⟩ := h
    obtain ⟨x, y, r, rfl, h⟩ := h
    exact hr_lcmp C.1 C.2.1 hd h
  · obtain ⟨rfl, h⟩ := h
    obtain ⟨x, r, rfl, h⟩ := h
    exact hr_i2l C.1 C.2.1 hd h
  · obtain ⟨rfl, h⟩ := h
    obtain ⟨x, r, rfl, h⟩ := h
    exact hr_i2b C.1 C.2.1 hd h
  · obtain ⟨rfl, h⟩ := h
    obtain ⟨x, r, rfl, h⟩ := h
    exact hr_l2i C.1 C.2.1 hd h
  · obtain ⟨rfl, h⟩ := h
    obtain ⟨v, r, rfl, hv, h⟩ := h
    exact hr_dup C.1 C.2.1 hd hv h
  · obtain ⟨rfl, h⟩ := h
    obtain ⟨v, r, rfl, hv, h⟩ := h
    exact hr_pop C.1 C.2.1 hd hv h
  · obtain ⟨rfl, h⟩ := h
    obtain ⟨v, w, r, rfl, hv, hw, h⟩ := h
    exact hr_dup_x1 C.1 C.2.1 hd hv hw h
  · obtain ⟨rfl, h⟩ := h
    obtain ⟨v, w, r, rfl, hv, hw, h⟩ := h
    exact hr_dup2 C.1 C.2.1 hd hv hw h
  · obtain ⟨rfl, h⟩ := h
    obtain ⟨x, r, tgt, rfl, ht, h1, h2⟩ := h
    exact hr_if_eq C.1 C.2.1 hd ht h1 h2
  · obtain ⟨rfl, h⟩ := h
    obtain ⟨x, y, r, tgt, rfl, ht, h1, h2⟩ := h
    exact hr_icmp_eq C.1 C.2.1 hd ht h1 h2
  · obtain ⟨rfl, h⟩ := h
    obtain ⟨x, r, tgt, rfl, ht, h1, h2⟩ := h
    exact hr_if_ne C.1 C.2.1 hd ht h1 h2
  · obtain ⟨rfl, h⟩ := h
    obtain ⟨x, y, r, tgt, rfl, ht, h1, h2⟩ := h
    exact hr_icmp_ne C.1 C.2.1 hd ht h1 h2
  · obtain ⟨rfl, h⟩ := h
    obtain ⟨x, r, tgt, rfl, ht, h1, h2⟩ := h
    exact hr_if_lt C.1 C.2.1 hd ht h1 h2
  · obtain ⟨rfl, h⟩ := h
    obtain ⟨x, y, r, tgt, rfl, ht, h1, h2⟩ := h
    exact hr_icmp_lt C.1 C.2.1 hd ht h1 h2
  · obtain ⟨rfl, h⟩ := h
    obtain ⟨x, r, tgt, rfl, ht, h1, h2⟩ := h
    exact hr_if_ge C.1 C.2.1 hd ht h1 h2
  · obtain ⟨rfl, h⟩ := h
    obtain ⟨x, y, r, tgt, rfl, ht, h1, h2⟩ := h
    exact hr_icmp_ge C.1 C.2.1 hd ht h1 h2
  · obtain ⟨rfl, h⟩ := h
    obtain ⟨x, r, tgt, rfl, ht, h1, h2⟩ := h
    exact hr_if_gt C.1 C.2.1 hd ht h1 h2
  · obtain ⟨rfl, h⟩ := h
    obtain ⟨x, y, r, tgt, rfl, ht, h1, h2⟩ := h
    exact hr_icmp_gt C.1 C.2.1 hd ht h1 h2
  · obtain ⟨rfl, h⟩ := h
    obtain ⟨x, r, tgt, rfl, ht, h1, h2⟩ := h
    exact hr_if_le C.1 C.2.1 hd ht h1 h2
  · obtain ⟨rfl, h⟩ := h
    obtain ⟨x, y, r, tgt, rfl, ht, h1, h2⟩ := h
    exact hr_icmp_le C.1 C.2.1 hd ht h1 h2
  · obtain ⟨rfl, h⟩ := h
    obtain ⟨tgt, ht, h⟩ := h
    exact hr_goto C.1 C.2.1 hd ht h
  · obtain ⟨rfl, h⟩ := h
    obtain ⟨q, r, tgt, rfl, ht, h1, h2⟩ := h
    exact hr_ifnull C.1 C.2.1 hd ht h1 h2
  · obtain ⟨rfl, h⟩ := h
    obtain ⟨q, r, tgt, rfl, ht, h1, h2⟩ := h
    exact hr_ifnonnull C.1 C.2.1 hd ht h1 h2
  · rename_i dflt lo hi offs
    obtain ⟨x, r, rfl, h1, h2⟩ := h
    by_cases ho : x.toInt < lo ∨ hi < x.toInt
    · obtain ⟨tgt, ht, h⟩ := h1 ho
      exact hr_switchOut C.1 C.2.1 hd ho ht h
    · obtain ⟨off, tgt, hoff, ht, h⟩ := h2 (fun z => ho (Or.inl z)) (fun z => ho (Or.inr z))
      exact hr_switchIn C.1 C.2.1 hd (fun z => ho (Or.inl z)) (fun z => ho (Or.inr z)) hoff ht h
  · obtain ⟨rfl, h⟩ := h
    obtain ⟨ci, j, kd, k0, r, hm, rfl, hs, h⟩ := h
    obtain ⟨Cn, Tn, N, hc, hj, hkd, hl, hin, -⟩ := hT.1 _ hm
    dsimp only at hc hj hkd hl hin
    match kd, hkd, h with
    | 0, hkd, h => exact hr_getI C.1 C.2.1 C.2.2.2.1 hin C.2.2.2.2.1 C.2.2.2.2.2.1 hc hj hl hs hd hkd h
    | 1, hkd, h => exact hr_getL C.1 C.2.1 C.2.2.2.1 hin C.2.2.2.2.1 C.2.2.2.2.2.1 hc hj hl hs hd hkd h
    | 2, hkd, h => exact hr_getR C.1 C.2.1 C.2.2.2.1 hin C.2.2.2.2.1 C.2.2.2.2.2.1 hc hj hl hs hd hkd h
    | 3, hkd, h => exact hr_getI C.1 C.2.1 C.2.2.2.1 hin C.2.2.2.2.1 C.2.2.2.2.2.1 hc hj hl hs hd hkd h
    | kd + 4, hkd, h => exact absurd (show (hx_fk _)[_]? = some (kd + 1 + 3) by rw [if_neg (by omega)] at hkd; exact hkd) (hx_fk_lt _ _ _)
  · obtain ⟨rfl, h⟩ := h
    obtain ⟨ci, j, k0, r, hs, h⟩ := h
    rcases h with ⟨v, hm, rfl, h⟩ | ⟨v, hm, rfl, h⟩
    · obtain ⟨Cn, Tn, N, hc, hj, hkd, hl, hin, ty0, hty, hnm, hp⟩ := hT.1 _ hm
      dsimp only at hc hj hkd hl hin hp
      exact hr_putI C.1 C.2.1 C.2.2.2.1 hin C.2.2.2.2.1 C.2.2.2.2.2.1 hc hj hl hs hd hkd ty0 hty hnm (hp.1 rfl).1 (hp.1 rfl).2 h
    · obtain ⟨Cn, Tn, N, hc, hj, hkd, hl, hin, ty0, hty, hnm, hp⟩ := hT.1 _ hm
      dsimp only at hc hj hkd hl hin hp
      exact hr_putL C.1 C.2.1 C.2.2.2.1 hin C.2.2.2.2.1 C.2.2.2.2.2.1 hc hj hl hs hd hkd ty0 hty hnm (hp.2 rfl).1 (hp.2 rfl).2 h
  · obtain ⟨rfl, h⟩ := h
    obtain ⟨k0, n, i, r, rfl, hs, hi, h⟩ := h
    exact hr_iald C.1 C.2.1 C.2.2.2.2.2.1 hs hi hd h
  · obtain ⟨rfl, h⟩ := h
    obtain ⟨k0, n, kd, i, r, rfl, hkd, hs, hi, h⟩ := h
    rcases hkd with rfl | rfl
    · exact hr_bald C.1 C.2.1 C.2.2.2.2.2.1 hs hi hd h
    · exact hr_zald C.1 C.2.1 C.2.2.2.2.2.1 hs hi hd h
  · obtain ⟨rfl, h⟩ := h
    obtain ⟨k0, n, i, r, rfl, hs, hi, h⟩ := h
    exact hr_lald C.1 C.2.1 C.2.2.2.2.2.1 hs hi hd h
  · obtain ⟨rfl, h⟩ := h
    obtain ⟨k0, n, kd, i, r, rfl, hkd, hs, hi, h⟩ := h
    rcases hkd with rfl | rfl
    · exact hr_aldL C.1 C.2.1 C.2.2.2.2.2.1 hs hi hd h
    · exact hr_aldW C.1 C.2.1 C.2.2.2.2.2.1 hs hi hd h
  · obtain ⟨rfl, h⟩ := h
    obtain ⟨k0, n, i, x, r, rfl, hs, hi, h⟩ := h
    exact hr_iast C.1 C.2.1 C.2.2.2.2.2.1 hs hi hd h
  · obtain ⟨rfl, h⟩ := h
    obtain ⟨k0, n, kd, i, x, r, rfl, hs, hi, h⟩ := h
    rcases h with ⟨rfl, h⟩ | ⟨rfl, h⟩
    · exact hr_bast C.1 C.2.1 C.2.2.2.2.2.1 hs hi hd h
    · exact hr_zast C.1 C.2.1 C.2.2.2.2.2.1 hs hi hd h
  · obtain ⟨rfl, h⟩ := h
    obtain ⟨k0, n, i, x, r, rfl, hs, hi, h⟩ := h
    exact hr_last C.1 C.2.1 C.2.2.2.2.2.1 hs hi hd h
  · obtain ⟨rfl, h⟩ := h
    obtain ⟨k0, n, kd, r, rfl, hkd, hs, h⟩ := h
    rcases hkd with rfl | rfl | rfl
    · exact hr_alenI C.1 C.2.1 C.2.2.2.2.2.1 hs hd h
    · exact hr_alenB C.1 C.2.1 C.2.2.2.2.2.1 hs hd h
    · exact hr_alenL C.1 C.2.1 C.2.2.2.2.2.1 hs hd h
  · obtain ⟨rfl, h⟩ := h
    obtain ⟨v, ty, rfl, hr, hn, hk, h1, h2⟩ := h
    intro ad H locs ls B
    exact W.widen h1 h2 (W.zret C.1 C.2.1 (C.2.2.2.2.2.2.1.trans hr) hn (fun t ht hW => hx_Q_of B hk (hx_wi) ht) B.S.2.2 hd C.2.2.2.2.2.2.2)
  · obtain ⟨rfl, h⟩ := h
    obtain ⟨v, rfl, hr, hk, h1, h2⟩ := h
    intro ad H locs ls B
    exact W.widen h1 h2 (W.lret C.1 C.2.1 (C.2.2.2.2.2.2.1.trans hr) (fun t ht hW => hx_Q_of B hk (hx_wl) ht) B.S.2.2 hd C.2.2.2.2.2.2.2)
  · obtain ⟨rfl, h⟩ := h
    obtain ⟨q, rfl, ⟨rt, hr, hrt⟩, hk, h1, h2⟩ := h
    intro ad H locs ls B
    refine W.widen h1 h2 (W.aret (v := hx_tr ad (va_rf q)) C.1 C.2.1 (C.2.2.2.2.2.2.1.trans hr) hrt ?_ (fun t ht hW => hx_Q_of B hk B.ws.1 ht) B.S.2.2 hd C.2.2.2.2.2.2.2)
    cases q with
    | none => exact Or.inl rfl
    | some k => exact Or.inr ⟨ad k, rfl⟩
  · obtain ⟨rfl, h⟩ := h
    obtain ⟨rfl, hr, hk, h1, h2⟩ := h
    intro ad H locs ls B
    exact W.widen h1 h2 (W.vret C.1 C.2.1 (C.2.2.2.2.2.2.1.trans hr) (fun t ht hW => hx_Q_ofN B hk ht) B.S.2.2 hd C.2.2.2.2.2.2.2)
  · obtain ⟨rfl, h⟩ := h
    obtain ⟨wh, r, hm, hu1, hu2, hcat, h⟩ := h
    have hw := hT.2.2.2 _ hm
    have hwt : ∀ x ∈ hx_tbl, x.before args s = true := C.2.2.2.1
    rcases h with h | h | h | ⟨rfl, k0, k1, n0, n1, sp, dp, n, rfl, hs0, hs1, g1, g2, g3, g4, g5, h⟩
    rotate_left 3
    · exact hr_copy C.1 C.2.1 C.2.2.1 C.2.2.2.2.1 (hwt _ hw.1) (hwt _ hw.2.1) (hwt _ hw.2.2.1) (hwt _ hw.2.2.2) C.2.2.2.2.2.1 hs0 hs1 g1 g2 g3 g4 g5 hh.1 hh.2.1 hcat hd h
    all_goals
     intro ad H locs ls B
     have hml : c.maxLocals = ls.size := C.2.2.1.trans (by obtain ⟨l0, h9, -⟩ := B.h; exact h9.1.symm)
     have hcat2 : ((r.map (hx_tr ad)).map fun v => v.category).sum ≤ 8 := by
       rw [List.map_map]
       simpa only [Function.comp_def, hx_tr_cat] using hcat
    · obtain ⟨rfl, x, y, rfl, h⟩ := h
      exact va_mmax C.1 C.2.1 hml C.2.2.2.2.1 (hwt _ hw.1) (hwt _ hw.2.1) (hwt _ hw.2.2.1) (hwt _ hw.2.2.2) hh.1 (Nat.le_trans (Nat.add_le_add hcat2 (by decide)) hh.2.1) (Nat.le_trans hu1 hh.2.2.1) (Nat.le_trans hu2 hh.2.2.2) hd (h ad H locs ls (B.stk fun h => ⟨hx_wi, h.2.2⟩))
    · obtain ⟨rfl, x, y, rfl, h⟩ := h
      exact va_mmin C.1 C.2.1 hml C.2.2.2.2.1 (hwt _ hw.1) (hwt _ hw.2.1) (hwt _ hw.2.2.1) (hwt _ hw.2.2.2) hh.1 (Nat.le_trans (Nat.add_le_add hcat2 (by decide)) hh.2.1) (Nat.le_trans hu1 hh.2.2.1) (Nat.le_trans hu2 hh.2.2.2) hd (h ad H locs ls (B.stk fun h => ⟨hx_wi, h.2.2⟩))
    · obtain ⟨rfl, x, rfl, h⟩ := h
      exact va_mabs C.1 C.2.1 hml C.2.2.2.2.1 (hwt _ hw.1) (hwt _ hw.2.1) (hwt _ hw.2.2.1) (hwt _ hw.2.2.2) hh.1 (Nat.le_trans (Nat.add_le_add hcat2 (by decide)) hh.2.1) (Nat.le_trans hu1 hh.2.2.1) (Nat.le_trans hu2 hh.2.2.2) hd (h ad H locs ls (B.stk fun h => ⟨hx_wi, h.2⟩))
  · exact h.elim
end HXS
section HXC
variable {cc : ByteArray} {nL mc ms : Nat} {ret : Option FieldType} {T : hx_T} {K : hx_KT} {G : hx_GT} {Λ : hx_L} {μ : hx_M} {u : Nat × Nat} {pc : Nat} {lv : hx_V} {st : List Value}
theorem cl_iconst (hG : hx_K cc nL mc ms ret T K G) {n : Int} (v : Int32) (d : decode cc pc = .ok (.iconst n, 1)) (hv : Int32.ofInt n = v) (k : G Λ μ u (pc + 1) lv (.int v :: st)) : G Λ μ u pc lv (st) := hG.1 _ _ _ d _ _ _ _ _ ⟨rfl, by rw [hv]; exact k⟩
theorem cl_bipush (hG : hx_K cc nL mc ms ret T K G) {n : Int} (v : Int32) (d : decode cc pc = .ok (.bipush n, 2)) (hv : (Int8.ofInt n).toInt32 = v) (k : G Λ μ u (pc + 2) lv (.int v :: st)) : G Λ μ u pc lv (st) := hG.1 _ _ _ d _ _ _ _ _ ⟨rfl, by rw [hv]; exact k⟩
theorem cl_sipush (hG : hx_K cc nL mc ms ret T K G) {n : Int} (v : Int32) (d : decode cc pc = .ok (.sipush n, 3)) (hv : (Int16.ofInt n).toInt32 = v) (k : G Λ μ u (pc + 3) lv (.int v :: st)) : G Λ μ u pc lv (st) := hG.1 _ _ _ d _ _ _ _ _ ⟨rfl, by rw [hv]; exact k⟩
theorem cl_lconst (hG : hx_K cc nL mc ms ret T K G) {n : Fin 2} (v : Int64) (d : decode cc pc = .ok (.lconst n, 1)) (hv : Int64.ofNat (n : Nat) = v) (k : G Λ μ u (pc + 1) lv (.long v :: st)) : G Λ μ u pc lv (st) := hG.1 _ _ _ d _ _ _ _ _ ⟨rfl, by rw [hv]; exact k⟩
theorem cl_ldc (hG : hx_K cc nL mc ms ret T K G) {i : Nat} {v : Int32} (hm : (i, v) ∈ T.2.1) (d : decode cc pc = .ok (.ldc i, 2)) (k : G Λ μ u (pc + 2) lv (.int v :: st)) : G Λ μ u pc lv (st) := hG.1 _ _ _ d _ _ _ _ _ ⟨rfl, v, hm, k⟩
theorem cl_ldcw (hG : hx_K cc nL mc ms ret T K G) {i : Nat} {v : Int32} (hm : (i, v) ∈ T.2.1) (d : decode cc pc = .ok (.ldc_w i, 3)) (k : G Λ μ u (pc + 3) lv (.int v :: st)) : G Λ μ u pc lv (st) := hG.1 _ _ _ d _ _ _ _ _ ⟨rfl, v, hm, k⟩
theorem cl_ldc2 (hG : hx_K cc nL mc ms ret T K G) {i : Nat} {v : Int64} (hm : (i, v) ∈ T.2.2.1) (d : decode cc pc = .ok (.ldc2_w i, 3)) (k : G Λ μ u (pc + 3) lv (.long v :: st)) : G Λ μ u pc lv (st) := hG.1 _ _ _ d _ _ _ _ _ ⟨rfl, v, hm, k⟩
theorem cl_null (hG : hx_K cc nL mc ms ret T K G)  (d : decode cc pc = .ok (.aconst_null, 1)) (k : G Λ μ u (pc + 1) lv (va_rf none :: st)) : G Λ μ u pc lv (st) := hG.1 _ _ _ d _ _ _ _ _ ⟨rfl, k⟩
theorem cl_aload_n (hG : hx_K cc nL mc ms ret T K G) {n : Fin 4} {x : Nat} (d : decode cc pc = .ok (.aload_n n, 1)) (hv : lv[(n : Nat)]? = some (some (.ref x))) (k : G Λ μ u (pc + 1) lv (.ref x :: st)) : G Λ μ u pc lv (st) := hG.1 _ _ _ d _ _ _ _ _ ⟨rfl, some x, hv, k⟩
theorem cl_aload_nQ (hG : hx_K cc nL mc ms ret T K G) {n : Fin 4} {q : Option Nat} (d : decode cc pc = .ok (.aload_n n, 1)) (hv : lv[(n : Nat)]? = some (some (va_rf q))) (k : G Λ μ u (pc + 1) lv (va_rf q :: st)) : G Λ μ u pc lv (st) := hG.1 _ _ _ d _ _ _ _ _ ⟨rfl, q, hv, k⟩
theorem cl_aload (hG : hx_K cc nL mc ms ret T K G) {i : Nat} {x : Nat} (d : decode cc pc = .ok (.aload i, 2)) (hv : lv[i]? = some (some (.ref x))) (k : G Λ μ u (pc + 2) lv (.ref x :: st)) : G Λ μ u pc lv (st) := hG.1 _ _ _ d _ _ _ _ _ ⟨rfl, some x, hv, k⟩
theorem cl_aloadQ (hG : hx_K cc nL mc ms ret T K G) {i : Nat} {q : Option Nat} (d : decode cc pc = .ok (.aload i, 2)) (hv : lv[i]? = some (some (va_rf q))) (k : G Λ μ u (pc + 2) lv (va_rf q :: st)) : G Λ μ u pc lv (st) := hG.1 _ _ _ d _ _ _ _ _ ⟨rfl, q, hv, k⟩
theorem cl_astore_n (hG : hx_K cc nL mc ms ret T K G) {n : Fin 4} {x : Nat} (d : decode cc pc = .ok (.astore_n n, 1)) (h1 : (n : Nat) < nL) (h2 : hx_n2 lv (n : Nat) = true) (k : G Λ μ u (pc + 1) (lv.set (n : Nat) (some (.ref x))) (st)) : G Λ μ u pc lv (.ref x :: st) := hG.1 _ _ _ d _ _ _ _ _ ⟨rfl, some x, st, rfl, h1, h2, k⟩
theorem cl_astore_nQ (hG : hx_K cc nL mc ms ret T K G) {n : Fin 4} {q : Option Nat} (d : decode cc pc = .ok (.astore_n n, 1)) (h1 : (n : Nat) < nL) (h2 : hx_n2 lv (n : Nat) = true) (k : G Λ μ u (pc + 1) (lv.set (n : Nat) (some (va_rf q))) (st)) : G Λ μ u pc lv (va_rf q :: st) := hG.1 _ _ _ d _ _ _ _ _ ⟨rfl, q, st, rfl, h1, h2, k⟩
theorem cl_astore (hG : hx_K cc nL mc ms ret T K G) {i : Nat} {x : Nat} (d : decode cc pc = .ok (.astore i, 2)) (h1 : i < nL) (h2 : hx_n2 lv i = true) (k : G Λ μ u (pc + 2) (lv.set i (some (.ref x))) (st)) : G Λ μ u pc lv (.ref x :: st) := hG.1 _ _ _ d _ _ _ _ _ ⟨rfl, some x, st, rfl, h1, h2, k⟩
theorem cl_astoreQ (hG : hx_K cc nL mc ms ret T K G) {i : Nat} {q : Option Nat} (d : decode cc pc = .ok (.astore i, 2)) (h1 : i < nL) (h2 : hx_n2 lv i = true) (k : G Λ μ u (pc + 2) (lv.set i (some (va_rf q))) (st)) : G Λ μ u pc lv (va_rf q :: st) := hG.1 _ _ _ d _ _ _ _ _ ⟨rfl, q, st, rfl, h1, h2, k⟩
theorem cl_iload_n (hG : hx_K cc nL mc ms ret T K G) {n : Fin 4} {x : Int32} (d : decode cc pc = .ok (.iload_n n, 1)) (hv : lv[(n : Nat)]? = some (some (.int x))) (k : G Λ μ u (pc + 1) lv (.int x :: st)) : G Λ μ u pc lv (st) := hG.1 _ _ _ d _ _ _ _ _ ⟨rfl, x, hv, k⟩
theorem cl_iload (hG : hx_K cc nL mc ms ret T K G) {i : Nat} {x : Int32} (d : decode cc pc = .ok (.iload i, 2)) (hv : lv[i]? = some (some (.int x))) (k : G Λ μ u (pc + 2) lv (.int x :: st)) : G Λ μ u pc lv (st) := hG.1 _ _ _ d _ _ _ _ _ ⟨rfl, x, hv, k⟩
theorem cl_lload_n (hG : hx_K cc nL mc ms ret T K G) {n : Fin 4} {x : Int64} (d : decode cc pc = .ok (.lload_n n, 1)) (hv : lv[(n : Nat)]? = some (some (.long x))) (k : G Λ μ u (pc + 1) lv (.long x :: st)) : G Λ μ u pc lv (st) := hG.1 _ _ _ d _ _ _ _ _ ⟨rfl, x, hv, k⟩
theorem cl_lload (hG : hx_K cc nL mc ms ret T K G) {i : Nat} {x : Int64} (d : decode cc pc = .ok (.lload i, 2)) (hv : lv[i]? = some (some (.long x))) (k : G Λ μ u (pc + 2) lv (.long x :: st)) : G Λ μ u pc lv (st) := hG.1 _ _ _ d _ _ _ _ _ ⟨rfl, x, hv, k⟩
theorem cl_istore_n (hG : hx_K cc nL mc ms ret T K G) {n : Fin 4} {x : Int32} (d : decode cc pc = .ok (.istore_n n, 1)) (h1 : (n : Nat) < nL) (h2 : hx_n2 lv (n : Nat) = true) (k : G Λ μ u (pc + 1) (lv.set (n : Nat) (some (.int x))) (st)) : G Λ μ u pc lv (.int x :: st) := hG.1 _ _ _ d _ _ _ _ _ ⟨rfl, x, st, rfl, h1, h2, k⟩
theorem cl_istore (hG : hx_K cc nL mc ms ret T K G) {i : Nat} {x : Int32} (d : decode cc pc = .ok (.istore i, 2)) (h1 : i < nL) (h2 : hx_n2 lv i = true) (k : G Λ μ u (pc + 2) (lv.set i (some (.int x))) (st)) : G Λ μ u pc lv (.int x :: st) := hG.1 _ _ _ d _ _ _ _ _ ⟨rfl, x, st, rfl, h1, h2, k⟩
theorem cl_lstore_n (hG : hx_K cc nL mc ms ret T K G) {n : Fin 4} {x : Int64} (d : decode cc pc = .ok (.lstore_n n, 1)) (h1 : (n : Nat) + 1 < nL) (h2 : hx_n2 lv (n : Nat) = true) (k : G Λ μ u (pc + 1) ((lv.set (n : Nat) (some (.long x))).set ((n : Nat) + 1) none) (st)) : G Λ μ u pc lv (.long x :: st) := hG.1 _ _ _ d _ _ _ _ _ ⟨rfl, x, st, rfl, h1, h2, k⟩
theorem cl_lstore (hG : hx_K cc nL mc ms ret T K G) {i : Nat} {x : Int64} (d : decode cc pc = .ok (.lstore i, 2)) (h1 : i + 1 < nL) (h2 : hx_n2 lv i = true) (k : G Λ μ u (pc + 2) ((lv.set i (some (.long x))).set (i + 1) none) (st)) : G Λ μ u pc lv (.long x :: st) := hG.1 _ _ _ d _ _ _ _ _ ⟨rfl, x, st, rfl, h1, h2, k⟩
theorem cl_iinc (hG : hx_K cc nL mc ms ret T K G) {i : Nat} {n : Int} {x : Int32} (v : Int32) (d : decode cc pc = .ok (.iinc i n, 3)) (hv : lv[i]? = some (some (.int x))) (he : x + Int32.ofInt n = v) (h1 : i < nL) (h2 : hx_n2 lv i = true) (k : G Λ μ u (pc + 3) (lv.set i (some (.int v))) (st)) : G Λ μ u pc lv (st) := hG.1 _ _ _ d _ _ _ _ _ ⟨rfl, x, hv, h1, h2, by rw [he]; exact k⟩
theorem cl_iadd (hG : hx_K cc nL mc ms ret T K G) {x y : Int32} (d : decode cc pc = .ok (.iadd, 1)) (k : G Λ μ u (pc + 1) lv (.int (x + y) :: st)) : G Λ μ u pc lv (.int y :: .int x :: st) := hG.1 _ _ _ d _ _ _ _ _ ⟨rfl, x, y, st, rfl, k⟩
theorem cl_isub (hG : hx_K cc nL mc ms ret T K G) {x y : Int32} (d : decode cc pc = .ok (.isub, 1)) (k : G Λ μ u (pc + 1) lv (.int (x - y) :: st)) : G Λ μ u pc lv (.int y :: .int x :: st) := hG.1 _ _ _ d _ _ _ _ _ ⟨rfl, x, y, st, rfl, k⟩
theorem cl_imul (hG : hx_K cc nL mc ms ret T K G) {x y : Int32} (d : decode cc pc = .ok (.imul, 1)) (k : G Λ μ u (pc + 1) lv (.int (x * y) :: st)) : G Λ μ u pc lv (.int y :: .int x :: st) := hG.1 _ _ _ d _ _ _ _ _ ⟨rfl, x, y, st, rfl, k⟩
theorem cl_iand (hG : hx_K cc nL mc ms ret T K G) {x y : Int32} (d : decode cc pc = .ok (.iand, 1)) (k : G Λ μ u (pc + 1) lv (.int (x &&& y) :: st)) : G Λ μ u pc lv (.int y :: .int x :: st) := hG.1 _ _ _ d _ _ _ _ _ ⟨rfl, x, y, st, rfl, k⟩
theorem cl_ior (hG : hx_K cc nL mc ms ret T K G) {x y : Int32} (d : decode cc pc = .ok (.ior, 1)) (k : G Λ μ u (pc + 1) lv (.int (x ||| y) :: st)) : G Λ μ u pc lv (.int y :: .int x :: st) := hG.1 _ _ _ d _ _ _ _ _ ⟨rfl, x, y, st, rfl, k⟩
theorem cl_ixor (hG : hx_K cc nL mc ms ret T K G) {x y : Int32} (d : decode cc pc = .ok (.ixor, 1)) (k : G Λ μ u (pc + 1) lv (.int (x ^^^ y) :: st)) : G Λ μ u pc lv (.int y :: .int x :: st) := hG.1 _ _ _ d _ _ _ _ _ ⟨rfl, x, y, st, rfl, k⟩
theorem cl_ishl (hG : hx_K cc nL mc ms ret T K G) {x y : Int32} (d : decode cc pc = .ok (.ishl, 1)) (k : G Λ μ u (pc + 1) lv (.int (x <<< (y &&& 31)) :: st)) : G Λ μ u pc lv (.int y :: .int x :: st) := hG.1 _ _ _ d _ _ _ _ _ ⟨rfl, x, y, st, rfl, k⟩
theorem cl_ishr (hG : hx_K cc nL mc ms ret T K G) {x y : Int32} (d : decode cc pc = .ok (.ishr, 1)) (k : G Λ μ u (pc + 1) lv (.int (x >>> (y &&& 31)) :: st)) : G Λ μ u pc lv (.int y :: .int x :: st) := hG.1 _ _ _ d _ _ _ _ _ ⟨rfl, x, y, st, rfl, k⟩
theorem cl_iushr (hG : hx_K cc nL mc ms ret T K G) {x y : Int32} (d : decode cc pc = .ok (.iushr, 1)) (k : G Λ μ u (pc + 1) lv (.int ((x.toUInt32 >>> (y.toUInt32 &&& Int32.toUInt32 31)).toInt32) :: st)) : G Λ μ u pc lv (.int y :: .int x :: st) := hG.1 _ _ _ d _ _ _ _ _ ⟨rfl, x, y, st, rfl, k⟩
theorem cl_idiv (hG : hx_K cc nL mc ms ret T K G) {x y : Int32} (d : decode cc pc = .ok (.idiv, 1)) (hne : ¬ y = 0) (k : G Λ μ u (pc + 1) lv (.int (x / y) :: st)) : G Λ μ u pc lv (.int y :: .int x :: st) := hG.1 _ _ _ d _ _ _ _ _ ⟨rfl, x, y, st, rfl, hne, k⟩
theorem cl_irem (hG : hx_K cc nL mc ms ret T K G) {x y : Int32} (d : decode cc pc = .ok (.irem, 1)) (hne : ¬ y = 0) (k : G Λ μ u (pc + 1) lv (.int (x - x / y * y) :: st)) : G Λ μ u pc lv (.int y :: .int x :: st) := hG.1 _ _ _ d _ _ _ _ _ ⟨rfl, x, y, st, rfl, hne, k⟩
theorem cl_ineg (hG : hx_K cc nL mc ms ret T K G) {x : Int32} (d : decode cc pc = .ok (.ineg, 1)) (k : G Λ μ u (pc + 1) lv (.int (-x) :: st)) : G Λ μ u pc lv (.int x :: st) := hG.1 _ _ _ d _ _ _ _ _ ⟨rfl, x, st, rfl, k⟩
theorem cl_ladd (hG : hx_K cc nL mc ms ret T K G) {x y : Int64} (d : decode cc pc = .ok (.ladd, 1)) (k : G Λ μ u (pc + 1) lv (.long (x + y) :: st)) : G Λ μ u pc lv (.long y :: .long x :: st) := hG.1 _ _ _ d _ _ _ _ _ ⟨rfl, x, y, st, rfl, k⟩
theorem cl_lsub (hG : hx_K cc nL mc ms ret T K G) {x y : Int64} (d : decode cc pc = .ok (.lsub, 1)) (k : G Λ μ u (pc + 1) lv (.long (x - y) :: st)) : G Λ μ u pc lv (.long y :: .long x :: st) := hG.1 _ _ _ d _ _ _ _ _ ⟨rfl, x, y, st, rfl, k⟩
theorem cl_lmul (hG : hx_K cc nL mc ms ret T K G) {x y : Int64} (d : decode cc pc = .ok (.lmul, 1)) (k : G Λ μ u (pc + 1) lv (.long (x * y) :: st)) : G Λ μ u pc lv (.long y :: .long x :: st) := hG.1 _ _ _ d _ _ _ _ _ ⟨rfl, x, y, st, rfl, k⟩
theorem cl_land (hG : hx_K cc nL mc ms ret T K G) {x y : Int64} (d : decode cc pc = .ok (.land, 1)) (k : G Λ μ u (pc + 1) lv (.long (x &&& y) :: st)) : G Λ μ u pc lv (.long y :: .long x :: st) := hG.1 _ _ _ d _ _ _ _ _ ⟨rfl, x, y, st, rfl, k⟩
theorem cl_lor (hG : hx_K cc nL mc ms ret T K G) {x y : Int64} (d : decode cc pc = .ok (.lor, 1)) (k : G Λ μ u (pc + 1) lv (.long (x ||| y) :: st)) : G Λ μ u pc lv (.long y :: .long x :: st) := hG.1 _ _ _ d _ _ _ _ _ ⟨rfl, x, y, st, rfl, k⟩
theorem cl_lxor (hG : hx_K cc nL mc ms ret T K G) {x y : Int64} (d : decode cc pc = .ok (.lxor, 1)) (k : G Λ μ u (pc + 1) lv (.long (x ^^^ y) :: st)) : G Λ μ u pc lv (.long y :: .long x :: st) := hG.1 _ _ _ d _ _ _ _ _ ⟨rfl, x, y, st, rfl, k⟩
theorem cl_ldiv (hG : hx_K cc nL mc ms ret T K G) {x y : Int64} (d : decode cc pc = .ok (.ldiv, 1)) (hne : ¬ y = 0) (k : G Λ μ u (pc + 1) lv (.long (x / y) :: st)) : G Λ μ u pc lv (.long y :: .long x :: st) := hG.1 _ _ _ d _ _ _ _ _ ⟨rfl, x, y, st, rfl, hne, k⟩
theorem cl_lrem (hG : hx_K cc nL mc ms ret T K G) {x y : Int64} (d : decode cc pc = .ok (.lrem, 1)) (hne : ¬ y = 0) (k : G Λ μ u (pc + 1) lv (.long (x - x / y * y) :: st)) : G Λ μ u pc lv (.long y :: .long x :: st) := hG.1 _ _ _ d _ _ _ _ _ ⟨rfl, x, y, st, rfl, hne, k⟩
theorem cl_lshl (hG : hx_K cc nL mc ms ret T K G) {x : Int64} {y : Int32} (d : decode cc pc = .ok (.lshl, 1)) (k : G Λ μ u (pc + 1) lv (.long (x <<< (y.toInt64 &&& 63)) :: st)) : G Λ μ u pc lv (.int y :: .long x :: st) := hG.1 _ _ _ d _ _ _ _ _ ⟨rfl, x, y, st, rfl, k⟩
theorem cl_lushr (hG : hx_K cc nL mc ms ret T K G) {x : Int64} {y : Int32} (d : decode cc pc = .ok (.lushr, 1)) (k : G Λ μ u (pc + 1) lv (.long ((x.toUInt64 >>> (y.toInt64.toUInt64 &&& Int64.toUInt64 63)).toInt64) :: st)) : G Λ μ u pc lv (.int y :: .long x :: st) := hG.1 _ _ _ d _ _ _ _ _ ⟨rfl, x, y, st, rfl, k⟩
theorem cl_lcmp (hG : hx_K cc nL mc ms ret T K G) {x y : Int64} (d : decode cc pc = .ok (.lcmp, 1)) (k : G Λ μ u (pc + 1) lv (.int (lg_cmp x y) :: st)) : G Λ μ u pc lv (.long y :: .long x :: st) := hG.1 _ _ _ d _ _ _ _ _ ⟨rfl, x, y, st, rfl, k⟩
theorem cl_i2l (hG : hx_K cc nL mc ms ret T K G) {x : Int32} (d : decode cc pc = .ok (.i2l, 1)) (k : G Λ μ u (pc + 1) lv (.long x.toInt64 :: st)) : G Λ μ u pc lv (.int x :: st) := hG.1 _ _ _ d _ _ _ _ _ ⟨rfl, x, st, rfl, k⟩
theorem cl_i2b (hG : hx_K cc nL mc ms ret T K G) {x : Int32} (d : decode cc pc = .ok (.i2b, 1)) (k : G Λ μ u (pc + 1) lv (.int x.toInt8.toInt32 :: st)) : G Λ μ u pc lv (.int x :: st) := hG.1 _ _ _ d _ _ _ _ _ ⟨rfl, x, st, rfl, k⟩
theorem cl_l2i (hG : hx_K cc nL mc ms ret T K G) {x : Int64} (d : decode cc pc = .ok (.l2i, 1)) (k : G Λ μ u (pc + 1) lv (.int x.toInt32 :: st)) : G Λ μ u pc lv (.long x :: st) := hG.1 _ _ _ d _ _ _ _ _ ⟨rfl, x, st, rfl, k⟩
theorem cl_dup (hG : hx_K cc nL mc ms ret T K G) {v : Value} (d : decode cc pc = .ok (.dup, 1)) (hv : v.category = 1) (k : G Λ μ u (pc + 1) lv (v :: v :: st)) : G Λ μ u pc lv (v :: st) := hG.1 _ _ _ d _ _ _ _ _ ⟨rfl, v, st, rfl, hv, k⟩
theorem cl_pop (hG : hx_K cc nL mc ms ret T K G) {v : Value} (d : decode cc pc = .ok (.pop, 1)) (hv : v.category = 1) (k : G Λ μ u (pc + 1) lv (st)) : G Λ μ u pc lv (v :: st) := hG.1 _ _ _ d _ _ _ _ _ ⟨rfl, v, st, rfl, hv, k⟩
theorem cl_dup_x1 (hG : hx_K cc nL mc ms ret T K G) {v w : Value} (d : decode cc pc = .ok (.dup_x1, 1)) (hv : v.category = 1) (hw : w.category = 1) (k : G Λ μ u (pc + 1) lv (v :: w :: v :: st)) : G Λ μ u pc lv (v :: w :: st) := hG.1 _ _ _ d _ _ _ _ _ ⟨rfl, v, w, st, rfl, hv, hw, k⟩
theorem cl_dup2 (hG : hx_K cc nL mc ms ret T K G) {v w : Value} (d : decode cc pc = .ok (.dup2, 1)) (hv : v.category = 1) (hw : w.category = 1) (k : G Λ μ u (pc + 1) lv (v :: w :: v :: w :: st)) : G Λ μ u pc lv (v :: w :: st) := hG.1 _ _ _ d _ _ _ _ _ ⟨rfl, v, w, st, rfl, hv, hw, k⟩
theorem cl_if_eq (hG : hx_K cc nL mc ms ret T K G) {x : Int32} {off : Int} (tgt : Nat) (d : decode cc pc = .ok (.ifCond .eq off, 3)) (ht : (pc : Int) + off = (tgt : Int)) (kt : x = 0 → G Λ μ u tgt lv (st)) (kf : ¬ (x = 0) → G Λ μ u (pc + 3) lv (st)) : G Λ μ u pc lv (.int x :: st) := hG.1 _ _ _ d _ _ _ _ _ ⟨rfl, x, st, tgt, rfl, ht, kt, kf⟩
theorem cl_icmp_eq (hG : hx_K cc nL mc ms ret T K G) {x y : Int32} {off : Int} (tgt : Nat) (d : decode cc pc = .ok (.if_icmp .eq off, 3)) (ht : (pc : Int) + off = (tgt : Int)) (kt : x = y → G Λ μ u tgt lv (st)) (kf : ¬ (x = y) → G Λ μ u (pc + 3) lv (st)) : G Λ μ u pc lv (.int y :: .int x :: st) := hG.1 _ _ _ d _ _ _ _ _ ⟨rfl, x, y, st, tgt, rfl, ht, kt, kf⟩
theorem cl_if_ne (hG : hx_K cc nL mc ms ret T K G) {x : Int32} {off : Int} (tgt : Nat) (d : decode cc pc = .ok (.ifCond .ne off, 3)) (ht : (pc : Int) + off = (tgt : Int)) (kt : x ≠ 0 → G Λ μ u tgt lv (st)) (kf : x = 0 → G Λ μ u (pc + 3) lv (st)) : G Λ μ u pc lv (.int x :: st) := hG.1 _ _ _ d _ _ _ _ _ ⟨rfl, x, st, tgt, rfl, ht, kt, kf⟩
theorem cl_icmp_ne (hG : hx_K cc nL mc ms ret T K G) {x y : Int32} {off : Int} (tgt : Nat) (d : decode cc pc = .ok (.if_icmp .ne off, 3)) (ht : (pc : Int) + off = (tgt : Int)) (kt : x ≠ y → G Λ μ u tgt lv (st)) (kf : x = y → G Λ μ u (pc + 3) lv (st)) : G Λ μ u pc lv (.int y :: .int x :: st) := hG.1 _ _ _ d _ _ _ _ _ ⟨rfl, x, y, st, tgt, rfl, ht, kt, kf⟩
theorem cl_if_lt (hG : hx_K cc nL mc ms ret T K G) {x : Int32} {off : Int} (tgt : Nat) (d : decode cc pc = .ok (.ifCond .lt off, 3)) (ht : (pc : Int) + off = (tgt : Int)) (kt : x < 0 → G Λ μ u tgt lv (st)) (kf : ¬ (x < 0) → G Λ μ u (pc + 3) lv (st)) : G Λ μ u pc lv (.int x :: st) := hG.1 _ _ _ d _ _ _ _ _ ⟨rfl, x, st, tgt, rfl, ht, kt, kf⟩
theorem cl_icmp_lt (hG : hx_K cc nL mc ms ret T K G) {x y : Int32} {off : Int} (tgt : Nat) (d : decode cc pc = .ok (.if_icmp .lt off, 3)) (ht : (pc : Int) + off = (tgt : Int)) (kt : x < y → G Λ μ u tgt lv (st)) (kf : ¬ (x < y) → G Λ μ u (pc + 3) lv (st)) : G Λ μ u pc lv (.int y :: .int x :: st) := hG.1 _ _ _ d _ _ _ _ _ ⟨rfl, x, y, st, tgt, rfl, ht, kt, kf⟩
theorem cl_if_ge (hG : hx_K cc nL mc ms ret T K G) {x : Int32} {off : Int} (tgt : Nat) (d : decode cc pc = .ok (.ifCond .ge off, 3)) (ht : (pc : Int) + off = (tgt : Int)) (kt : 0 ≤ x → G Λ μ u tgt lv (st)) (kf : ¬ (0 ≤ x) → G Λ μ u (pc + 3) lv (st)) : G Λ μ u pc lv (.int x :: st) := hG.1 _ _ _ d _ _ _ _ _ ⟨rfl, x, st, tgt, rfl, ht, kt, kf⟩
theorem cl_icmp_ge (hG : hx_K cc nL mc ms ret T K G) {x y : Int32} {off : Int} (tgt : Nat) (d : decode cc pc = .ok (.if_icmp .ge off, 3)) (ht : (pc : Int) + off = (tgt : Int)) (kt : y ≤ x → G Λ μ u tgt lv (st)) (kf : ¬ (y ≤ x) → G Λ μ u (pc + 3) lv (st)) : G Λ μ u pc lv (.int y :: .int x :: st) := hG.1 _ _ _ d _ _ _ _ _ ⟨rfl, x, y, st, tgt, rfl, ht, kt, kf⟩
theorem cl_if_gt (hG : hx_K cc nL mc ms ret T K G) {x : Int32} {off : Int} (tgt : Nat) (d : decode cc pc = .ok (.ifCond .gt off, 3)) (ht : (pc : Int) + off = (tgt : Int)) (kt : 0 < x → G Λ μ u tgt lv (st)) (kf : ¬ (0 < x) → G Λ μ u (pc + 3) lv (st)) : G Λ μ u pc lv (.int x :: st) := hG.1 _ _ _ d _ _ _ _ _ ⟨rfl, x, st, tgt, rfl, ht, kt, kf⟩
theorem cl_icmp_gt (hG : hx_K cc nL mc ms ret T K G) {x y : Int32} {off : Int} (tgt : Nat) (d : decode cc pc = .ok (.if_icmp .gt off, 3)) (ht : (pc : Int) + off = (tgt : Int)) (kt : y < x → G Λ μ u tgt lv (st)) (kf : ¬ (y < x) → G Λ μ u (pc + 3) lv (st)) : G Λ μ u pc lv (.int y :: .int x :: st) := hG.1 _ _ _ d _ _ _ _ _ ⟨rfl, x, y, st, tgt, rfl, ht, kt, kf⟩
theorem cl_if_le (hG : hx_K cc nL mc ms ret T K G) {x : Int32} {off : Int} (tgt : Nat) (d : decode cc pc = .ok (.ifCond .le off, 3)) (ht : (pc : Int) + off = (tgt : Int)) (kt : x ≤ 0 → G Λ μ u tgt lv (st)) (kf : ¬ (x ≤ 0) → G Λ μ u (pc + 3) lv (st)) : G Λ μ u pc lv (.int x :: st) := hG.1 _ _ _ d _ _ _ _ _ ⟨rfl, x, st, tgt, rfl, ht, kt, kf⟩
theorem cl_icmp_le (hG : hx_K cc nL mc ms ret T K G) {x y : Int32} {off : Int} (tgt : Nat) (d : decode cc pc = .ok (.if_icmp .le off, 3)) (ht : (pc : Int) + off = (tgt : Int)) (kt : x ≤ y → G Λ μ u tgt lv (st)) (kf : ¬ (x ≤ y) → G Λ μ u (pc + 3) lv (st)) : G Λ μ u pc lv (.int y :: .int x :: st) := hG.1 _ _ _ d _ _ _ _ _ ⟨rfl, x, y, st, tgt, rfl, ht, kt, kf⟩
theorem cl_goto (hG : hx_K cc nL mc ms ret T K G) {off : Int} (tgt : Nat) (d : decode cc pc = .ok (.goto off, 3)) (ht : (pc : Int) + off = (tgt : Int)) (k : G Λ μ u tgt lv (st)) : G Λ μ u pc lv (st) := hG.1 _ _ _ d _ _ _ _ _ ⟨rfl, tgt, ht, k⟩
theorem cl_ifnull (hG : hx_K cc nL mc ms ret T K G) {q : Option Nat} {off : Int} (tgt : Nat) (d : decode cc pc = .ok (.ifnull off, 3)) (ht : (pc : Int) + off = (tgt : Int)) (kt : q = none → G Λ μ u tgt lv (st)) (kf : ∀ k, q = some k → G Λ μ u (pc + 3) lv (st)) : G Λ μ u pc lv (va_rf q :: st) := hG.1 _ _ _ d _ _ _ _ _ ⟨rfl, q, st, tgt, rfl, ht, kt, kf⟩
theorem cl_ifnonnull (hG : hx_K cc nL mc ms ret T K G) {q : Option Nat} {off : Int} (tgt : Nat) (d : decode cc pc = .ok (.ifnonnull off, 3)) (ht : (pc : Int) + off = (tgt : Int)) (kt : ∀ k, q = some k → G Λ μ u tgt lv (st)) (kf : q = none → G Λ μ u (pc + 3) lv (st)) : G Λ μ u pc lv (va_rf q :: st) := hG.1 _ _ _ d _ _ _ _ _ ⟨rfl, q, st, tgt, rfl, ht, kt, kf⟩
theorem cl_getI (hG : hx_K cc nL mc ms ret T K G) {i ci j k0 : Nat} (hm : (i, ci, j, 0) ∈ T.1) (d : decode cc pc = .ok (.getfield i, 3)) (hs : Λ.1 k0 = (0, ci)) (k : G Λ μ u (pc + 3) lv (.int (μ.1 k0 j) :: st)) : G Λ μ u pc lv (.ref k0 :: st) := hG.1 _ _ _ d _ _ _ _ _ ⟨rfl, ci, j, 0, k0, st, hm, rfl, hs, k⟩
theorem cl_getL (hG : hx_K cc nL mc ms ret T K G) {i ci j k0 : Nat} (hm : (i, ci, j, 1) ∈ T.1) (d : decode cc pc = .ok (.getfield i, 3)) (hs : Λ.1 k0 = (0, ci)) (k : G Λ μ u (pc + 3) lv (.long (μ.2 k0 j) :: st)) : G Λ μ u pc lv (.ref k0 :: st) := hG.1 _ _ _ d _ _ _ _ _ ⟨rfl, ci, j, 1, k0, st, hm, rfl, hs, k⟩
theorem cl_getR (hG : hx_K cc nL mc ms ret T K G) {i ci j k0 : Nat} (hm : (i, ci, j, 2) ∈ T.1) (d : decode cc pc = .ok (.getfield i, 3)) (hs : Λ.1 k0 = (0, ci)) (k : G Λ μ u (pc + 3) lv (va_rf (Λ.2.1 k0 j) :: st)) : G Λ μ u pc lv (.ref k0 :: st) := hG.1 _ _ _ d _ _ _ _ _ ⟨rfl, ci, j, 2, k0, st, hm, rfl, hs, k⟩
theorem cl_getF (hG : hx_K cc nL mc ms ret T K G) {i ci j k0 : Nat} (hm : (i, ci, j, 3) ∈ T.1) (d : decode cc pc = .ok (.getfield i, 3)) (hs : Λ.1 k0 = (0, ci)) (k : G Λ μ u (pc + 3) lv (.int (μ.1 k0 j) :: st)) : G Λ μ u pc lv (.ref k0 :: st) := hG.1 _ _ _ d _ _ _ _ _ ⟨rfl, ci, j, 3, k0, st, hm, rfl, hs, k⟩
theorem cl_getS (hG : hx_K cc nL mc ms ret T K G) {i ci j k0 q0 : Nat} (hm : (i, ci, j, 2) ∈ T.1) (d : decode cc pc = .ok (.getfield i, 3)) (hs : Λ.1 k0 = (0, ci)) (hr : Λ.2.1 k0 j = some q0) (k : G Λ μ u (pc + 3) lv (.ref q0 :: st)) : G Λ μ u pc lv (.ref k0 :: st) := hG.1 _ _ _ d _ _ _ _ _ ⟨rfl, ci, j, 2, k0, st, hm, rfl, hs, by rw [show hx_av Λ μ k0 j 2 = .ref q0 from by simp only [hx_av, hr]; rfl]; exact k⟩
theorem cl_putI (hG : hx_K cc nL mc ms ret T K G) {i ci j k0 : Nat} {v : Int32} (hm : (i, ci, j, 0) ∈ T.1) (d : decode cc pc = .ok (.putfield i, 3)) (hs : Λ.1 k0 = (0, ci)) (k : G Λ (hx_sI μ k0 j v) u (pc + 3) lv (st)) : G Λ μ u pc lv (.int v :: .ref k0 :: st) := hG.1 _ _ _ d _ _ _ _ _ ⟨rfl, ci, j, k0, st, hs, Or.inl ⟨v, hm, rfl, k⟩⟩
theorem cl_putL (hG : hx_K cc nL mc ms ret T K G) {i ci j k0 : Nat} {v : Int64} (hm : (i, ci, j, 1) ∈ T.1) (d : decode cc pc = .ok (.putfield i, 3)) (hs : Λ.1 k0 = (0, ci)) (k : G Λ (hx_sL μ k0 j v) u (pc + 3) lv (st)) : G Λ μ u pc lv (.long v :: .ref k0 :: st) := hG.1 _ _ _ d _ _ _ _ _ ⟨rfl, ci, j, k0, st, hs, Or.inr ⟨v, hm, rfl, k⟩⟩
theorem cl_iald (hG : hx_K cc nL mc ms ret T K G) {k0 n : Nat} {i : Int32} (d : decode cc pc = .ok (.iaload, 1)) (hs : Λ.1 k0 = (1, n)) (hi : vp_in i n) (k : G Λ μ u (pc + 1) lv (.int (μ.1 k0 i.toNatClampNeg) :: st)) : G Λ μ u pc lv (.int i :: .ref k0 :: st) := hG.1 _ _ _ d _ _ _ _ _ ⟨rfl, k0, n, i, st, rfl, hs, hi, k⟩
theorem cl_bald (hG : hx_K cc nL mc ms ret T K G) {k0 n : Nat} {i : Int32} (d : decode cc pc = .ok (.baload, 1)) (hs : Λ.1 k0 = (2, n)) (hi : vp_in i n) (k : G Λ μ u (pc + 1) lv (.int (μ.1 k0 i.toNatClampNeg) :: st)) : G Λ μ u pc lv (.int i :: .ref k0 :: st) := hG.1 _ _ _ d _ _ _ _ _ ⟨rfl, k0, n, 2, i, st, rfl, Or.inl rfl, hs, hi, k⟩
theorem cl_zald (hG : hx_K cc nL mc ms ret T K G) {k0 n : Nat} {i : Int32} (d : decode cc pc = .ok (.baload, 1)) (hs : Λ.1 k0 = (4, n)) (hi : vp_in i n) (k : G Λ μ u (pc + 1) lv (.int (μ.1 k0 i.toNatClampNeg) :: st)) : G Λ μ u pc lv (.int i :: .ref k0 :: st) := hG.1 _ _ _ d _ _ _ _ _ ⟨rfl, k0, n, 4, i, st, rfl, Or.inr rfl, hs, hi, k⟩
theorem cl_lald (hG : hx_K cc nL mc ms ret T K G) {k0 n : Nat} {i : Int32} (d : decode cc pc = .ok (.laload, 1)) (hs : Λ.1 k0 = (3, n)) (hi : vp_in i n) (k : G Λ μ u (pc + 1) lv (.long (μ.2 k0 i.toNatClampNeg) :: st)) : G Λ μ u pc lv (.int i :: .ref k0 :: st) := hG.1 _ _ _ d _ _ _ _ _ ⟨rfl, k0, n, i, st, rfl, hs, hi, k⟩
theorem cl_aldL (hG : hx_K cc nL mc ms ret T K G) {k0 n : Nat} {i : Int32} (d : decode cc pc = .ok (.aaload, 1)) (hs : Λ.1 k0 = (5, n)) (hi : vp_in i n) (k : G Λ μ u (pc + 1) lv (va_rf (Λ.2.1 k0 i.toNatClampNeg) :: st)) : G Λ μ u pc lv (.int i :: .ref k0 :: st) := hG.1 _ _ _ d _ _ _ _ _ ⟨rfl, k0, n, 5, i, st, rfl, Or.inl rfl, hs, hi, k⟩
theorem cl_aldW (hG : hx_K cc nL mc ms ret T K G) {k0 n : Nat} {i : Int32} (d : decode cc pc = .ok (.aaload, 1)) (hs : Λ.1 k0 = (6, n)) (hi : vp_in i n) (k : G Λ μ u (pc + 1) lv (va_rf (Λ.2.1 k0 i.toNatClampNeg) :: st)) : G Λ μ u pc lv (.int i :: .ref k0 :: st) := hG.1 _ _ _ d _ _ _ _ _ ⟨rfl, k0, n, 6, i, st, rfl, Or.inr rfl, hs, hi, k⟩
theorem cl_iast (hG : hx_K cc nL mc ms ret T K G) {k0 n : Nat} {i x : Int32} (d : decode cc pc = .ok (.iastore, 1)) (hs : Λ.1 k0 = (1, n)) (hi : vp_in i n) (k : G Λ (hx_sI μ k0 i.toNatClampNeg x) u (pc + 1) lv (st)) : G Λ μ u pc lv (.int x :: .int i :: .ref k0 :: st) := hG.1 _ _ _ d _ _ _ _ _ ⟨rfl, k0, n, i, x, st, rfl, hs, hi, k⟩
theorem cl_bast (hG : hx_K cc nL mc ms ret T K G) {k0 n : Nat} {i x : Int32} (d : decode cc pc = .ok (.bastore, 1)) (hs : Λ.1 k0 = (2, n)) (hi : vp_in i n) (k : G Λ (hx_sI μ k0 i.toNatClampNeg (vp_nar .byte x)) u (pc + 1) lv (st)) : G Λ μ u pc lv (.int x :: .int i :: .ref k0 :: st) := hG.1 _ _ _ d _ _ _ _ _ ⟨rfl, k0, n, 2, i, x, st, rfl, hs, hi, Or.inl ⟨rfl, k⟩⟩
theorem cl_zast (hG : hx_K cc nL mc ms ret T K G) {k0 n : Nat} {i x : Int32} (d : decode cc pc = .ok (.bastore, 1)) (hs : Λ.1 k0 = (4, n)) (hi : vp_in i n) (k : G Λ (hx_sI μ k0 i.toNatClampNeg (vp_nar .boolean x)) u (pc + 1) lv (st)) : G Λ μ u pc lv (.int x :: .int i :: .ref k0 :: st) := hG.1 _ _ _ d _ _ _ _ _ ⟨rfl, k0, n, 4, i, x, st, rfl, hs, hi, Or.inr ⟨rfl, k⟩⟩
theorem cl_last (hG : hx_K cc nL mc ms ret T K G) {k0 n : Nat} {i : Int32} {x : Int64} (d : decode cc pc = .ok (.lastore, 1)) (hs : Λ.1 k0 = (3, n)) (hi : vp_in i n) (k : G Λ (hx_sL μ k0 i.toNatClampNeg x) u (pc + 1) lv (st)) : G Λ μ u pc lv (.long x :: .int i :: .ref k0 :: st) := hG.1 _ _ _ d _ _ _ _ _ ⟨rfl, k0, n, i, x, st, rfl, hs, hi, k⟩
theorem cl_alenI (hG : hx_K cc nL mc ms ret T K G) {k0 n : Nat} (d : decode cc pc = .ok (.arraylength, 1)) (hs : Λ.1 k0 = (1, n)) (k : G Λ μ u (pc + 1) lv (.int (Int32.ofNat n) :: st)) : G Λ μ u pc lv (.ref k0 :: st) := hG.1 _ _ _ d _ _ _ _ _ ⟨rfl, k0, n, 1, st, rfl, Or.inl rfl, hs, k⟩
theorem cl_alenB (hG : hx_K cc nL mc ms ret T K G) {k0 n : Nat} (d : decode cc pc = .ok (.arraylength, 1)) (hs : Λ.1 k0 = (2, n)) (k : G Λ μ u (pc + 1) lv (.int (Int32.ofNat n) :: st)) : G Λ μ u pc lv (.ref k0 :: st) := hG.1 _ _ _ d _ _ _ _ _ ⟨rfl, k0, n, 2, st, rfl, Or.inr (Or.inl rfl), hs, k⟩
theorem cl_alenL (hG : hx_K cc nL mc ms ret T K G) {k0 n : Nat} (d : decode cc pc = .ok (.arraylength, 1)) (hs : Λ.1 k0 = (3, n)) (k : G Λ μ u (pc + 1) lv (.int (Int32.ofNat n) :: st)) : G Λ μ u pc lv (.ref k0 :: st) := hG.1 _ _ _ d _ _ _ _ _ ⟨rfl, k0, n, 3, st, rfl, Or.inr (Or.inr rfl), hs, k⟩
theorem cl_iret (hG : hx_K cc nL mc ms ret T K G) {v : Int32} {ty : FieldType} (d : decode cc pc = .ok (.ireturn, 1)) (hr : ret = some ty) (hn : narrow ty (.int v) = .int v) (hk : K (some (.int v)) Λ μ) (h1 : u.1 ≤ mc) (h2 : u.2 ≤ ms) : G Λ μ u pc lv ([.int v]) := hG.1 _ _ _ d _ _ _ _ _ ⟨rfl, v, ty, rfl, hr, hn, hk, h1, h2⟩
theorem cl_lret (hG : hx_K cc nL mc ms ret T K G) {v : Int64} (d : decode cc pc = .ok (.lreturn, 1)) (hr : ret = some .long) (hk : K (some (.long v)) Λ μ) (h1 : u.1 ≤ mc) (h2 : u.2 ≤ ms) : G Λ μ u pc lv ([.long v]) := hG.1 _ _ _ d _ _ _ _ _ ⟨rfl, v, rfl, hr, hk, h1, h2⟩
theorem cl_aret (hG : hx_K cc nL mc ms ret T K G) {q : Option Nat} {rt : FieldType} (d : decode cc pc = .ok (.areturn, 1)) (hr : ret = some rt) (hrt : (∃ n, rt = .object n) ∨ ∃ t, rt = .array t) (hk : K (some (va_rf q)) Λ μ) (h1 : u.1 ≤ mc) (h2 : u.2 ≤ ms) : G Λ μ u pc lv ([va_rf q]) := hG.1 _ _ _ d _ _ _ _ _ ⟨rfl, q, rfl, ⟨rt, hr, hrt⟩, hk, h1, h2⟩
theorem cl_vret (hG : hx_K cc nL mc ms ret T K G)  (d : decode cc pc = .ok (.return_, 1)) (hr : ret = none) (hk : K none Λ μ) (h1 : u.1 ≤ mc) (h2 : u.2 ≤ ms) : G Λ μ u pc lv ([]) := hG.1 _ _ _ d _ _ _ _ _ ⟨rfl, rfl, hr, hk, h1, h2⟩
theorem cl_mmax (hG : hx_K cc nL mc ms ret T K G) {i : Nat} {x y : Int32} (hm : (i, 0) ∈ T.2.2.2) (d : decode cc pc = .ok (.invokestatic i, 3)) (h1 : u.1 ≤ mc) (h2 : u.2 ≤ ms) (hc : (st.map fun v => v.category).sum ≤ 8) (k : G Λ μ u (pc + 3) lv (.int (if x < y then y else x) :: st)) : G Λ μ u pc lv (.int y :: .int x :: st) := hG.1 _ _ _ d _ _ _ _ _ ⟨rfl, 0, st, hm, h1, h2, hc, Or.inl ⟨rfl, x, y, rfl, k⟩⟩
theorem cl_mmin (hG : hx_K cc nL mc ms ret T K G) {i : Nat} {x y : Int32} (hm : (i, 1) ∈ T.2.2.2) (d : decode cc pc = .ok (.invokestatic i, 3)) (h1 : u.1 ≤ mc) (h2 : u.2 ≤ ms) (hc : (st.map fun v => v.category).sum ≤ 8) (k : G Λ μ u (pc + 3) lv (.int (if y < x then y else x) :: st)) : G Λ μ u pc lv (.int y :: .int x :: st) := hG.1 _ _ _ d _ _ _ _ _ ⟨rfl, 1, st, hm, h1, h2, hc, Or.inr (Or.inl ⟨rfl, x, y, rfl, k⟩)⟩
theorem cl_mabs (hG : hx_K cc nL mc ms ret T K G) {i : Nat} {x : Int32} (hm : (i, 2) ∈ T.2.2.2) (d : decode cc pc = .ok (.invokestatic i, 3)) (h1 : u.1 ≤ mc) (h2 : u.2 ≤ ms) (hc : (st.map fun v => v.category).sum ≤ 8) (k : G Λ μ u (pc + 3) lv (.int (if 0 ≤ x then x else 0 - x) :: st)) : G Λ μ u pc lv (.int x :: st) := hG.1 _ _ _ d _ _ _ _ _ ⟨rfl, 2, st, hm, h1, h2, hc, Or.inr (Or.inr (Or.inl ⟨rfl, x, rfl, k⟩))⟩
theorem cl_copy (hG : hx_K cc nL mc ms ret T K G) {i k0 k1 n0 n1 : Nat} {sp dp n : Int32} (hm : (i, 3) ∈ T.2.2.2) (d : decode cc pc = .ok (.invokestatic i, 3)) (h1 : u.1 ≤ mc) (h2 : u.2 ≤ ms) (hc : (st.map fun v => v.category).sum ≤ 8) (hs0 : Λ.1 k0 = (1, n0)) (hs1 : Λ.1 k1 = (1, n1)) (g1 : ¬ sp < 0) (g2 : ¬ dp < 0) (g3 : ¬ n < 0) (g4 : sp.toNatClampNeg + n.toNatClampNeg ≤ n0) (g5 : dp.toNatClampNeg + n.toNatClampNeg ≤ n1) (k : G Λ (hx_sA μ k1 (va_cpy (μ.1 k0) (μ.1 k1) sp.toNatClampNeg dp.toNatClampNeg n.toNatClampNeg)) u (pc + 3) lv (st)) : G Λ μ u pc lv (.int n :: .int dp :: .ref k1 :: .int sp :: .ref k0 :: st) := hG.1 _ _ _ d _ _ _ _ _ ⟨rfl, 3, st, hm, h1, h2, hc, Or.inr (Or.inr (Or.inr ⟨rfl, k0, k1, n0, n1, sp, dp, n, rfl, hs0, hs1, g1, g2, g3, g4, g5, k⟩))⟩
theorem cl_nmI {x : Int32} (k : ∀ y : Int32, y = x → G Λ μ u pc lv (.int y :: st)) : G Λ μ u pc lv (.int x :: st) := k x rfl
theorem cl_nmL {x : Int64} (k : ∀ y : Int64, y = x → G Λ μ u pc lv (.long y :: st)) : G Λ μ u pc lv (.long x :: st) := k x rfl
theorem cl_nmA (k : ∀ L : hx_L, L = Λ → G L μ u pc lv st) : G Λ μ u pc lv st := k Λ rfl
theorem cl_nmM (k : ∀ m : hx_M, m = μ → G Λ m u pc lv st) : G Λ μ u pc lv st := k μ rfl
theorem cl_nn {q : Option Nat} {x : Nat} (h : q = some x) (k : G Λ μ u pc lv (.ref x :: st)) : G Λ μ u pc lv (va_rf q :: st) := by subst h; exact k
theorem cl_sub (hG : hx_K cc nL mc ms ret T K G) {lv' : hx_V} (hl : hx_le 0 lv' lv) (k : G Λ μ u pc lv' st) : G Λ μ u pc lv st := hG.2 _ _ _ _ _ _ _ hl k
end HXC
