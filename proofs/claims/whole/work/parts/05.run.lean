/-! THE RUN of the pure machine, and the check of its tables -/
def pmCode (mi pc : Nat) : Option pmE := match pmQ[mi]? with
  | some q => q[pc]?
  | none => none
def pmI0 : pmI := (yL_law, cL_law, 0, none, 0, RL, 99, 9, 0, 0)
abbrev pmG (mi : Nat) : pmI := pmP.getD mi pmI0
def pmNa (mi : Nat) : Nat := (pmG mi).2.2.2.2.1
def pmL (mi : Nat) : Nat := (pmG mi).2.2.1
def pmRt (mi : Nat) : Option FieldType := (pmG mi).2.2.2.1
def pmCi (mi : Nat) : Nat := (pmG mi).2.2.2.2.2.2.1
def pmKd (mi : Nat) : Nat := (pmG mi).2.2.2.2.2.2.2.1
def pmOkV : Value → Bool
  | .int _ => true
  | .long _ => true
  | .ref _ => true
  | _ => false
/-- the locals at a method's entry -/
def pmEn (as : List Value) (n : Nat) : List Value :=
  let l := as.flatMap fun v => if pmIsL v then [v, .null] else [v]
  l ++ List.replicate (n - l.length) .null
def pmRecv (kd ci : Nat) (as : List Value) (sh : pmS) : Bool := match kd with
  | 0 => match as with
    | .ref (q + 1) :: _ => match sh[q + 1]? with
      | some (.inr (cj, _)) => cj == ci
      | _ => false
    | _ => false
  | 1 => true
  | 2 => match as with
    | .ref _ :: _ => true
    | _ => false
  | _ => false
/-- what a call takes from the stack -/
def pmArgs (kd mj : Nat) (st : List Value) (sh : pmS) : Option (List Value × List Value) :=
  let k := pmNa mj
  let as := (st.take k).reverse
  if k ≤ st.length ∧ pmCat (st.drop k) ≤ 8 ∧ pmKd mj = kd ∧ pmRecv kd (pmCi mj) as sh = true ∧ as.all pmOkV = true ∧ (as.flatMap fun v => if pmIsL v then [v, .null] else [v]).length ≤ pmL mj then some (as, st.drop k) else none
def pmC0 (cd : ClassFile.Cond) (x : Int32) : Bool := match cd with
  | .eq => decide (x = 0)
  | .ne => decide (¬ x = 0)
  | .lt => decide (x < 0)
  | .ge => decide (0 ≤ x)
  | .gt => decide (0 < x)
  | .le => decide (x ≤ 0)
def pmC2 (cd : ClassFile.Cond) (x y : Int32) : Bool := match cd with
  | .eq => decide (x = y)
  | .ne => decide (¬ x = y)
  | .lt => decide (x < y)
  | .ge => decide (y ≤ x)
  | .gt => decide (y < x)
  | .le => decide (x ≤ y)
def pmTs (pc : Nat) (d lo hi : Int) (offs : Array Int) (x : Int32) : Option Nat :=
  let off : Option Int := if x.toInt < lo ∨ hi < x.toInt then some d else offs[(x.toInt - lo).toNat]?
  off.bind fun o => if 0 ≤ (pc : Int) + o then some ((pc : Int) + o).toNat else none
def pmLk (pc : Nat) (d : Int) (ps : Array (Int × Int)) (x : Int32) : Option Nat :=
  let o := Op.lookupswitch.offset ps.toList d x.toInt
  if 0 ≤ (pc : Int) + o then some ((pc : Int) + o).toNat else none
/-- what a method does next: it answers; it goes on; it calls -/
def pmNx (mi pc : Nat) (ls st : List Value) (sh : pmS) (M : pmM) (N : pmN) : Option (pmR ⊕ ((Nat × pmX) ⊕ (Nat × List Value × List Value))) := match pmCode mi pc with
  | none => none
  | some (i, len, a, b, _) => match i with
    | .ireturn => match st with
      | [.int v] => if pmRt mi = some .int ∨ (pmRt mi = some .boolean ∧ (v = 0 ∨ v = 1)) then some (.inl (some (.int v), sh, M, N)) else none
      | _ => none
    | .lreturn => match st with
      | [.long v] => some (.inl (some (.long v), sh, M, N))
      | _ => none
    | .areturn => match st with
      | [.ref v] => some (.inl (some (.ref v), sh, M, N))
      | _ => none
    | .return_ => match st with
      | [] => some (.inl (none, sh, M, N))
      | _ => none
    | .goto _ => some (.inr (.inl (a, ls, st, sh, M, N)))
    | .ifCond cd _ => match st with
      | .int x :: t => some (.inr (.inl (if pmC0 cd x then a else pc + 3, ls, t, sh, M, N)))
      | _ => none
    | .if_icmp cd _ => match st with
      | .int y :: .int x :: t => some (.inr (.inl (if pmC2 cd x y then a else pc + 3, ls, t, sh, M, N)))
      | _ => none
    | .tableswitch d lo hi offs => match st with
      | .int x :: t => match pmTs pc d lo hi offs x with
        | some q => some (.inr (.inl (q, ls, t, sh, M, N)))
        | none => none
      | _ => none
    | .lookupswitch d ps => match st with
      | .int x :: t => match pmLk pc d ps x with
        | some q => some (.inr (.inl (q, ls, t, sh, M, N)))
        | none => none
      | _ => none
    | .invokevirtual _ => match pmArgs 0 a st sh with
      | some (as, rest) => some (.inr (.inr (a, as, rest)))
      | none => none
    | .invokestatic _ => if b = 1 then (match pmEx i a b ls st sh M N with
        | some x => some (.inr (.inl (pc + len, x)))
        | none => none) else match pmArgs 1 a st sh with
      | some (as, rest) => some (.inr (.inr (a, as, rest)))
      | none => none
    | .invokespecial _ => if b = 1 then (match pmEx i a b ls st sh M N with
        | some x => some (.inr (.inl (pc + len, x)))
        | none => none) else match pmArgs 2 a st sh with
      | some (as, rest) => some (.inr (.inr (a, as, rest)))
      | none => none
    | _ => match pmEx i a b ls st sh M N with
      | some x => some (.inr (.inl (pc + len, x)))
      | none => none
def pr : Nat → Nat → Nat → List Value → List Value → pmS → pmM → pmN → Option pmR
  | 0, _, _, _, _, _, _, _ => none
  | n + 1, mi, pc, ls, st, sh, M, N => match pmNx mi pc ls st sh M N with
    | none => none
    | some (.inl x) => some x
    | some (.inr (.inl (pc', ls', st', sh', M', N'))) => pr n mi pc' ls' st' sh' M' N'
    | some (.inr (.inr (mj, as, rest))) => match pr n mj 0 (pmEn as (pmL mj)) [] sh M N with
      | some (r, sh', M', N') => pr n mi (pc + 3) ls (r.toList ++ rest) sh' M' N'
      | none => none
/-! the check -/
def pmHost : String := "PhraseSwaps"
def ckLw (c : Nat) (w : Cond) : Bool := decide (lw_tbl[c]? = some w)
def ckRoom (mi mj : Nat) : Bool := decide ((pmG mj).2.2.2.2.2.2.2.2.1 + 1 ≤ (pmG mi).2.2.2.2.2.2.2.2.1 ∧ 8 + (pmL mj + 11) + (pmG mj).2.2.2.2.2.2.2.2.2 ≤ (pmG mi).2.2.2.2.2.2.2.2.2 ∧ mj < pmP.length)
def ckFld (own : String) (idx ci j c : Nat) : Bool := match vwCl[ci]? with
  | some (R, T, n) => decide (j < n) && decide ((T j).1 = R) && (ckLw c (.fieldLink own idx R (T j).2.1 (T j).2.2.1) || ckLw c (.fieldLinkNest own idx R (T j).2.1 (T j).2.2.1 pmHost))
  | none => false
def ckPut (own : String) (kd idx a j c : Nat) : Bool := match vwCl[a % 100]? with
  | some (R, T, n) => (if (T j).2.2.2 = true then decide (kd = 2) && decide (R = own) && ckLw c (.fieldLink own idx R (T j).2.1 (T j).2.2.1) else true) &&
      (if a < 100 then decide ((T j).2.2.1 = "I") else if a < 200 then decide ((T j).2.2.1 = "Z") else (match parseFieldDescriptor (T j).2.2.1 with
        | some (.object _) => true
        | some (.array _) => true
        | _ => false))
  | none => false
def ckEl (tg : Nat) : String := match pmEl tg with
  | some ci => (vwCl.getD ci ("", fun _ => ("", "", "", false), 0)).1
  | none => ""
def ckI (mi pc : Nat) (e : pmE) : Bool :=
  let own := (pmG mi).2.2.2.2.2.1
  let a := e.2.2.1
  let b := e.2.2.2.1
  let c := e.2.2.2.2
  match e.1 with
  | .iload k | .lload k | .aload k | .istore k | .lstore k | .astore k => decide (a = k ∧ e.2.1 = 2)
  | .iload_n k | .lload_n k | .aload_n k | .istore_n k | .lstore_n k | .astore_n k => decide (a = (k : Nat) ∧ e.2.1 = 1)
  | .iinc k _ => decide (a = k ∧ e.2.1 = 3)
  | .goto o => decide ((pc : Int) + o = (a : Int) ∧ e.2.1 = 3)
  | .ifCond _ o => decide ((pc : Int) + o = (a : Int) ∧ e.2.1 = 3)
  | .if_icmp _ o => decide ((pc : Int) + o = (a : Int) ∧ e.2.1 = 3)
  | .lookupswitch _ ps => (ps.toList.zip (ps.toList.drop 1)).all (fun (x, next) => x.1 < next.1)
  | .getfield idx => decide (e.2.1 = 3) && ckFld own idx a b c
  | .putfield idx => decide (e.2.1 = 3) && ckFld own idx (a % 100) b c && ckPut own (pmKd mi) idx a b c
  | .new idx => decide (e.2.1 = 3) && (match vwCl[a]? with
    | some (R, _, _) => ckLw c (.classLink own idx R)
    | none => false)
  | .anewarray idx => decide (e.2.1 = 3) && decide (3 ≤ a ∧ a ≤ 5) && ckLw c (.classLink own idx (ckEl a))
  | .newarray _ => decide (e.2.1 = 2)
  | .ldc_w idx => decide (e.2.1 = 3) && ckLw c (.constant own idx (nI a))
  | .ldc2_w idx => decide (e.2.1 = 3) && ckLw c (.constantLong own idx (if b = 0 then lN a else - lN a))
  | .bipush _ => decide (e.2.1 = 2)
  | .sipush _ => decide (e.2.1 = 3)
  | .invokevirtual idx => decide (e.2.1 = 3) && ckLw c (.methodLink own idx (pmG a).1) && ckRoom mi a
  | .invokestatic idx => if b = 1 then decide (e.2.1 = 3) && ckLw c (.methodLink own idx arraycopyName) && decide (1 ≤ (pmG mi).2.2.2.2.2.2.2.2.1 ∧ 26 ≤ (pmG mi).2.2.2.2.2.2.2.2.2) else decide (e.2.1 = 3) && (ckLw c (.methodLink own idx (pmG a).1) || ckLw c (.methodLinkNest own idx (pmG a).1 pmHost)) && ckRoom mi a
  | .invokespecial idx => if b = 1 then decide (e.2.1 = 3) && ckLw c (.methodLink own idx objectInit) && decide (1 ≤ (pmG mi).2.2.2.2.2.2.2.2.1 ∧ 20 ≤ (pmG mi).2.2.2.2.2.2.2.2.2) else decide (e.2.1 = 3) && (ckLw c (.methodLink own idx (pmG a).1) || ckLw c (.methodLinkNest own idx (pmG a).1 pmHost)) && ckRoom mi a
  | .arraylength => decide (e.2.1 = 1) && (decide (b = 1 → mi = mL_law))
  | .iaload => decide (e.2.1 = 1) && (decide (b = 1 → mi = mL_law))
  | .ireturn => decide (e.2.1 = 1)
  | .tableswitch .. => true
  | .lreturn => decide (pmRt mi = some .long ∧ e.2.1 = 1)
  | .areturn => decide (e.2.1 = 1) && (match pmRt mi with
    | some (.object _) => true
    | _ => false)
  | .return_ => decide (pmRt mi = none ∧ e.2.1 = 1)
  | _ => decide (e.2.1 = 1)
def ckE (mi pc : Nat) (e : pmE) : Bool := match e.1 with
  | .nop => true
  | _ => decide (decode (pmG mi).2.1 pc = .ok (e.1, e.2.1)) && ckI mi pc e
def ckQ (mi : Nat) : Nat → List pmE → Bool
  | _, [] => true
  | pc, e :: t => ckE mi pc e && ckQ mi (pc + 1) t
def ckM (mi : Nat) : Bool := match pmQ[mi]? with
  | some q => ckQ mi 0 q
  | none => true
