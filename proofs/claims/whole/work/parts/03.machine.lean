/-! THE PURE MACHINE: cells by small numbers (0 the script), ints in M, longs in N, shapes in sh; code as tables -/
abbrev pmS : Type := List ((Nat × Nat × List (Option Nat)) ⊕ (Nat × List (Option (Option Nat))))
abbrev pmM : Type := Nat → Nat → Int32
abbrev pmN : Type := Nat → Nat → Int64
abbrev pmE : Type := Instr × Nat × Nat × Nat × Nat
abbrev pmX : Type := List Value × List Value × pmS × pmM × pmN
abbrev pmR : Type := Option Value × pmS × pmM × pmN
def pmIsL : Value → Bool
  | .long _ => true
  | .double _ => true
  | _ => false
/-- a value of one slot into the locals (null: nothing is known) -/
def pmPut (ls : List Value) (i : Nat) (v : Value) : List Value := match i with
  | 0 => ls.set 0 v
  | i + 1 => (if pmIsL (ls.getD i .null) then ls.set i .null else ls).set (i + 1) v
def pmPut2 (ls : List Value) (i : Nat) (v : Value) : List Value := (pmPut ls i v).set (i + 1) .null
def pmSt (M : pmM) (k j : Nat) (v : Int32) : pmM := va_up M k (upd (M k) j v)
def pmStL (N : pmN) (k j : Nat) (v : Int64) : pmN := va_up N k (vp_updL (N k) j v)
def pmCat (st : List Value) : Nat := (st.map fun v => v.category).sum
/-- the fields of a fresh object: a number, or a reference that is null -/
def pmBlank (ty : Nat → FieldType) (n : Nat) : List (Option (Option Nat)) := (List.range n).map fun k => match ty k with
  | .object _ => some none
  | .array _ => some none
  | _ => none
def pmTys : List (Nat → FieldType) := [tyX0, tyX1, tyX2, tyX3, tyX4, tyX5, tyX6, tyX7, tyX8, tyX9, tyX10, tyX11]
def pmNf : List Nat := [3, 3, 2, 2, 2, 3, 4, 3, 2, 7, 12, 29]
def pmBl (ci : Nat) : List (Option (Option Nat)) := pmBlank (pmTys.getD ci (fun _ => .int)) (pmNf.getD ci 0)
/-- the element class of an array of references, by its tag -/
def pmEl : Nat → Option Nat
  | 3 => some 5
  | 4 => some 3
  | 5 => some 6
  | _ => none
def pmEx (i : Instr) (a b : Nat) (ls st : List Value) (sh : pmS) (M : pmM) (N : pmN) : Option pmX :=
  match i with
  | .iconst n => some (ls, .int (Int32.ofInt n) :: st, sh, M, N)
  | .bipush n => some (ls, .int (Int8.ofInt n).toInt32 :: st, sh, M, N)
  | .sipush n => some (ls, .int (Int16.ofInt n).toInt32 :: st, sh, M, N)
  | .ldc_w _ => some (ls, .int (nI a) :: st, sh, M, N)
  | .lconst n => some (ls, .long (Int64.ofNat (n : Nat)) :: st, sh, M, N)
  | .ldc2_w _ => some (ls, .long (if b = 0 then lN a else - lN a) :: st, sh, M, N)
  | .iload _ | .iload_n _ => match ls[a]? with
    | some (.int x) => some (ls, .int x :: st, sh, M, N)
    | _ => none
  | .lload _ | .lload_n _ => match ls[a]? with
    | some (.long x) => some (ls, .long x :: st, sh, M, N)
    | _ => none
  | .aload _ | .aload_n _ => match ls[a]? with
    | some (.ref x) => some (ls, .ref x :: st, sh, M, N)
    | _ => none
  | .istore _ | .istore_n _ => match st with
    | .int x :: t => if a < ls.length then some (pmPut ls a (.int x), t, sh, M, N) else none
    | _ => none
  | .astore _ | .astore_n _ => match st with
    | .ref x :: t => if a < ls.length then some (pmPut ls a (.ref x), t, sh, M, N) else none
    | _ => none
  | .lstore _ | .lstore_n _ => match st with
    | .long x :: t => if a + 1 < ls.length then some (pmPut2 ls a (.long x), t, sh, M, N) else none
    | _ => none
  | .iinc _ n => match ls[a]? with
    | some (.int x) => some (pmPut ls a (.int (x + Int32.ofInt n)), st, sh, M, N)
    | _ => none
  | .iadd => match st with
    | .int y :: .int x :: t => some (ls, .int (x + y) :: t, sh, M, N)
    | _ => none
  | .isub => match st with
    | .int y :: .int x :: t => some (ls, .int (x - y) :: t, sh, M, N)
    | _ => none
  | .imul => match st with
    | .int y :: .int x :: t => some (ls, .int (x * y) :: t, sh, M, N)
    | _ => none
  | .iand => match st with
    | .int y :: .int x :: t => some (ls, .int (x &&& y) :: t, sh, M, N)
    | _ => none
  | .ior => match st with
    | .int y :: .int x :: t => some (ls, .int (x ||| y) :: t, sh, M, N)
    | _ => none
  | .ixor => match st with
    | .int y :: .int x :: t => some (ls, .int (x ^^^ y) :: t, sh, M, N)
    | _ => none
  | .ishl => match st with
    | .int y :: .int x :: t => some (ls, .int (x <<< (y &&& 31)) :: t, sh, M, N)
    | _ => none
  | .ishr => match st with
    | .int y :: .int x :: t => some (ls, .int (x >>> (y &&& 31)) :: t, sh, M, N)
    | _ => none
  | .iushr => match st with
    | .int y :: .int x :: t => some (ls, .int ((x.toUInt32 >>> (y.toUInt32 &&& Int32.toUInt32 31)).toInt32) :: t, sh, M, N)
    | _ => none
  | .irem => match st with
    | .int y :: .int x :: t => if y = 0 then none else some (ls, .int (x - x / y * y) :: t, sh, M, N)
    | _ => none
  | .ladd => match st with
    | .long y :: .long x :: t => some (ls, .long (x + y) :: t, sh, M, N)
    | _ => none
  | .lmul => match st with
    | .long y :: .long x :: t => some (ls, .long (x * y) :: t, sh, M, N)
    | _ => none
  | .land => match st with
    | .long y :: .long x :: t => some (ls, .long (x &&& y) :: t, sh, M, N)
    | _ => none
  | .lor => match st with
    | .long y :: .long x :: t => some (ls, .long (x ||| y) :: t, sh, M, N)
    | _ => none
  | .ldiv => match st with
    | .long y :: .long x :: t => if y = 0 then none else some (ls, .long (x / y) :: t, sh, M, N)
    | _ => none
  | .lrem => match st with
    | .long y :: .long x :: t => if y = 0 then none else some (ls, .long (x - x / y * y) :: t, sh, M, N)
    | _ => none
  | .lshl => match st with
    | .int y :: .long x :: t => some (ls, .long (x <<< (y.toInt64 &&& 63)) :: t, sh, M, N)
    | _ => none
  | .lcmp => match st with
    | .long y :: .long x :: t => some (ls, .int (lg_cmp x y) :: t, sh, M, N)
    | _ => none
  | .i2l => match st with
    | .int x :: t => some (ls, .long x.toInt64 :: t, sh, M, N)
    | _ => none
  | .l2i => match st with
    | .long x :: t => some (ls, .int x.toInt32 :: t, sh, M, N)
    | _ => none
  | .i2b => match st with
    | .int x :: t => some (ls, .int x.toInt8.toInt32 :: t, sh, M, N)
    | _ => none
  | .i2s => match st with
    | .int x :: t => some (ls, .int x.toInt16.toInt32 :: t, sh, M, N)
    | _ => none
  | .dup => match st with
    | v :: t => if v.category = 1 then some (ls, v :: v :: t, sh, M, N) else none
    | _ => none
  | .dup2 => match st with
    | v :: w :: t => if v.category = 1 ∧ w.category = 1 then some (ls, v :: w :: v :: w :: t, sh, M, N) else none
    | _ => none
  | .pop => match st with
    | v :: t => if v.category = 1 then some (ls, t, sh, M, N) else none
    | _ => none
  | .getfield _ => match st with
    | .ref (k + 1) :: t => match sh[k + 1]? with
      | some (.inr (ci, sl)) => if ci = a then (match sl[b]? with
        | some none => some (ls, .int (M (k + 1) b) :: t, sh, M, N)
        | some (some (some r)) => some (ls, .ref r :: t, sh, M, N)
        | _ => none) else none
      | _ => none
    | _ => none
  | .putfield _ => match st with
    | .int x :: .ref (k + 1) :: t => match sh[k + 1]? with
      | some (.inr (ci, sl)) => if ci = a % 100 ∧ a < 200 ∧ sl[b]? = some none ∧ (a < 100 ∨ x = 0 ∨ x = 1) then some (ls, t, sh, pmSt M (k + 1) b x, N) else none
      | _ => none
    | .ref r :: .ref (k + 1) :: t => match sh[k + 1]? with
      | some (.inr (ci, sl)) => if ci = a % 100 ∧ 200 ≤ a ∧ (sl[b]?).map Option.isSome = some true then some (ls, t, sh.set (k + 1) (.inr (ci, sl.set b (some (some r)))), M, N) else none
      | _ => none
    | _ => none
  | .new _ => some (ls, .ref sh.length :: st, sh ++ [.inr (a, pmBl a)], va_up M sh.length (fun _ => 0), N)
  | .newarray ty => match st with
    | .int n :: t => if n < 0 ∨ 1000 < n.toNatClampNeg then none else (match ty with
      | .int => some (ls, .ref sh.length :: t, sh ++ [.inl (0, n.toNatClampNeg, [])], va_up M sh.length (fun _ => 0), N)
      | .long => some (ls, .ref sh.length :: t, sh ++ [.inl (1, n.toNatClampNeg, [])], M, va_up N sh.length (fun _ => 0))
      | .boolean => some (ls, .ref sh.length :: t, sh ++ [.inl (2, n.toNatClampNeg, [])], va_up M sh.length (fun _ => 0), N)
      | _ => none)
    | _ => none
  | .anewarray _ => match st with
    | .int n :: t => if n < 0 ∨ 1000 < n.toNatClampNeg then none else some (ls, .ref sh.length :: t, sh ++ [.inl (a, n.toNatClampNeg, List.replicate n.toNatClampNeg none)], M, N)
    | _ => none
  | .arraylength => match st with
    | .ref k :: t => match sh[k]? with
      | some (.inl (tg, n, _)) => if (k == 0) = (b == 1) ∧ tg ≤ 5 then some (ls, .int (nI n) :: t, sh, M, N) else none
      | _ => none
    | _ => none
  | .iaload => match st with
    | .int j :: .ref k :: t => match sh[k]? with
      | some (.inl (0, n, _)) => if (k == 0) = (b == 1) ∧ ¬ (j < 0 ∨ n ≤ j.toNatClampNeg) then some (ls, .int (M k j.toNatClampNeg) :: t, sh, M, N) else none
      | _ => none
    | _ => none
  | .baload => match st with
    | .int j :: .ref (k + 1) :: t => match sh[k + 1]? with
      | some (.inl (2, n, _)) => if ¬ (j < 0 ∨ n ≤ j.toNatClampNeg) then some (ls, .int (M (k + 1) j.toNatClampNeg) :: t, sh, M, N) else none
      | _ => none
    | _ => none
  | .laload => match st with
    | .int j :: .ref (k + 1) :: t => match sh[k + 1]? with
      | some (.inl (1, n, _)) => if ¬ (j < 0 ∨ n ≤ j.toNatClampNeg) then some (ls, .long (N (k + 1) j.toNatClampNeg) :: t, sh, M, N) else none
      | _ => none
    | _ => none
  | .aaload => match st with
    | .int j :: .ref (k + 1) :: t => match sh[k + 1]? with
      | some (.inl (tg, n, rs)) => if 3 ≤ tg ∧ tg ≤ 5 ∧ ¬ (j < 0 ∨ n ≤ j.toNatClampNeg) then (match rs[j.toNatClampNeg]? with
        | some (some r) => some (ls, .ref r :: t, sh, M, N)
        | _ => none) else none
      | _ => none
    | _ => none
  | .iastore => match st with
    | .int x :: .int j :: .ref (k + 1) :: t => match sh[k + 1]? with
      | some (.inl (0, n, _)) => if ¬ (j < 0 ∨ n ≤ j.toNatClampNeg) then some (ls, t, sh, pmSt M (k + 1) j.toNatClampNeg x, N) else none
      | _ => none
    | _ => none
  | .bastore => match st with
    | .int x :: .int j :: .ref (k + 1) :: t => match sh[k + 1]? with
      | some (.inl (2, n, _)) => if ¬ (j < 0 ∨ n ≤ j.toNatClampNeg) ∧ (x = 0 ∨ x = 1) then some (ls, t, sh, pmSt M (k + 1) j.toNatClampNeg x, N) else none
      | _ => none
    | _ => none
  | .lastore => match st with
    | .long x :: .int j :: .ref (k + 1) :: t => match sh[k + 1]? with
      | some (.inl (1, n, _)) => if ¬ (j < 0 ∨ n ≤ j.toNatClampNeg) then some (ls, t, sh, M, pmStL N (k + 1) j.toNatClampNeg x) else none
      | _ => none
    | _ => none
  | .aastore => match st with
    | .ref (r + 1) :: .int j :: .ref (k + 1) :: t => match sh[k + 1]?, sh[r + 1]? with
      | some (.inl (tg, n, rs)), some (.inr (ci, _)) => if pmEl tg = some ci ∧ ¬ (j < 0 ∨ n ≤ j.toNatClampNeg) ∧ rs.length = n then some (ls, t, sh.set (k + 1) (.inl (tg, n, rs.set j.toNatClampNeg (some (r + 1)))), M, N) else none
      | _, _ => none
    | _ => none
  | .invokespecial _ => match st with
    | .ref _ :: t => if b = 1 ∧ pmCat t ≤ 8 then some (ls, t, sh, M, N) else none
    | _ => none
  | .invokestatic _ => match st with
    | .int n :: .int dp :: .ref (q + 1) :: .int sp :: .ref (k + 1) :: t => if b = 1 ∧ pmCat t ≤ 8 ∧ ¬ n < 0 ∧ ¬ dp < 0 ∧ ¬ sp < 0 then (match sh[k + 1]?, sh[q + 1]? with
      | some (.inl (0, n0, _)), some (.inl (0, n1, _)) => if sp.toNatClampNeg + n.toNatClampNeg ≤ n0 ∧ dp.toNatClampNeg + n.toNatClampNeg ≤ n1 then some (ls, t, sh, va_up M (q + 1) (va_cpy (M (k + 1)) (M (q + 1)) sp.toNatClampNeg dp.toNatClampNeg n.toNatClampNeg), N) else none
      | some (.inl (1, n0, _)), some (.inl (1, n1, _)) => if sp.toNatClampNeg + n.toNatClampNeg ≤ n0 ∧ dp.toNatClampNeg + n.toNatClampNeg ≤ n1 then some (ls, t, sh, M, va_up N (q + 1) (va_cpy (N (k + 1)) (N (q + 1)) sp.toNatClampNeg dp.toNatClampNeg n.toNatClampNeg)) else none
      | _, _ => none) else none
    | _ => none
  | _ => none
