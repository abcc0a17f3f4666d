/-! THE ABSTRACT MACHINE: a typed memory, straight instructions as effects, blocks, a run by fuel, and the total 'kW'. Nothing here speaks of the class. -/
/-- memory: int, long and reference slots, by cell and place -/
abbrev km_M : Type := (Nat → Nat → Int32) × (Nat → Nat → Int64) × (Nat → Nat → Nat)
abbrev km_L : Type := List (Option Value)
/-- an instruction with what its operands mean: length, three numbers, an int, a long, a switch's pairs -/
abbrev km_I : Type := Instr × Nat × Nat × Nat × Nat × Int32 × Int64 × List (Int32 × Nat)
/-- a block: its pc, which locals live there, its instructions -/
abbrev km_B : Type := Nat × List Bool × List km_I
/-- a method: its locals, whether it answers a boolean, its blocks -/
abbrev km_P : Type := Nat × Bool × List km_B
abbrev km_K : Type := Option Value → km_M → Prop
def km_up {α : Type} (f : Nat → Nat → α) (a k : Nat) (v : α) : Nat → Nat → α := fun b j => if b = a ∧ j = k then v else f b j
def km_cp {α : Type} (f : Nat → Nat → α) (a b sp dp n : Nat) : Nat → Nat → α := fun c j => if c = b then va_cpy (f a) (f b) sp dp n j else f c j
def km_get : km_L → Nat → Option Value
  | [], _ => none
  | x :: _, 0 => x
  | _ :: r, n + 1 => km_get r n
def km_set : km_L → Nat → Option Value → km_L
  | [], _, _ => []
  | _ :: r, 0, v => v :: r
  | x :: r, n + 1, v => x :: km_set r n v
def km_kill : km_L → Nat → km_L
  | lv, 0 => lv
  | lv, i + 1 => match km_get lv i with
    | some (.long _) => km_set lv i none
    | some (.double _) => km_set lv i none
    | _ => lv
def km_st1 (lv : km_L) (i : Nat) (v : Value) : km_L := km_set (km_kill lv i) i (some v)
def km_st2 (lv : km_L) (i : Nat) (v : Value) : km_L := km_set (km_set (km_kill lv i) i (some v)) (i + 1) none
def km_len : km_L → Nat
  | [] => 0
  | _ :: r => km_len r + 1
def km_wd : List Value → Nat
  | [] => 0
  | .long _ :: r => km_wd r + 2
  | .double _ :: r => km_wd r + 2
  | _ :: r => km_wd r + 1
def km_mask : List Bool → km_L → km_L
  | _, [] => []
  | [], _ :: r => none :: km_mask [] r
  | true :: b, x :: r => x :: km_mask b r
  | false :: b, _ :: r => none :: km_mask b r
def km_ent : Nat → List Value → km_L
  | 0, _ => []
  | n + 1, [] => none :: km_ent n []
  | n + 1, .long x :: r => some (.long x) :: (match n with
    | 0 => []
    | k + 1 => none :: km_ent k r)
  | n + 1, .double x :: r => some (.double x) :: (match n with
    | 0 => []
    | k + 1 => none :: km_ent k r)
  | n + 1, v :: r => some v :: km_ent n r
def km_ld (z : Nat) (M : km_M) (a y : Nat) : Value := match z with
  | 1 => .long (M.2.1 a y)
  | 2 => .ref (M.2.2 a y)
  | _ => .int (M.1 a y)
def km_and : List Prop → Prop → Prop
  | [], Q => Q
  | p :: r, Q => p ∧ km_and r Q
theorem km_and_iff {ps : List Prop} {Q : Prop} : km_and ps Q ↔ (∀ p ∈ ps, p) ∧ Q := by
  induction ps with
  | nil => simp [km_and]
  | cons p r ih => simp only [km_and, ih, List.forall_mem_cons, and_assoc]
/-- the effect of a straight instruction: what it asks, and locals, stack and memory behind it -/
def kS (sh : Nat → Nat × Nat) : km_I → km_L → List Value → km_M → Option (List Prop × km_L × List Value × km_M)
  | (i, n, x, y, z, c, w, t), lv, st, M => match i with
    | .iconst _ => some ([], lv, .int c :: st, M)
    | .bipush _ => some ([], lv, .int c :: st, M)
    | .sipush _ => some ([], lv, .int c :: st, M)
    | .ldc _ => some ([], lv, .int c :: st, M)
    | .ldc_w _ => some ([], lv, .int c :: st, M)
    | .lconst _ => some ([], lv, .long w :: st, M)
    | .ldc2_w _ => some ([], lv, .long w :: st, M)
    | .iload _ => match km_get lv x with
      | some (.int v) => some ([], lv, .int v :: st, M)
      | _ => none
    | .iload_n _ => match km_get lv x with
      | some (.int v) => some ([], lv, .int v :: st, M)
      | _ => none
    | .lload _ => match km_get lv x with
      | some (.long v) => some ([], lv, .long v :: st, M)
      | _ => none
    | .lload_n _ => match km_get lv x with
      | some (.long v) => some ([], lv, .long v :: st, M)
      | _ => none
    | .aload _ => match km_get lv x with
      | some (.ref v) => some ([], lv, .ref v :: st, M)
      | _ => none
    | .aload_n _ => match km_get lv x with
      | some (.ref v) => some ([], lv, .ref v :: st, M)
      | _ => none
    | .istore _ => match st with
      | .int v :: s => match Nat.blt x (km_len lv) with
        | true => some ([], km_st1 lv x (.int v), s, M)
        | false => none
      | _ => none
    | .istore_n _ => match st with
      | .int v :: s => match Nat.blt x (km_len lv) with
        | true => some ([], km_st1 lv x (.int v), s, M)
        | false => none
      | _ => none
    | .astore _ => match st with
      | .ref v :: s => match Nat.blt x (km_len lv) with
        | true => some ([], km_st1 lv x (.ref v), s, M)
        | false => none
      | _ => none
    | .astore_n _ => match st with
      | .ref v :: s => match Nat.blt x (km_len lv) with
        | true => some ([], km_st1 lv x (.ref v), s, M)
        | false => none
      | _ => none
    | .lstore _ => match st with
      | .long v :: s => match Nat.blt (x + 1) (km_len lv) with
        | true => some ([], km_st2 lv x (.long v), s, M)
        | false => none
      | _ => none
    | .lstore_n _ => match st with
      | .long v :: s => match Nat.blt (x + 1) (km_len lv) with
        | true => some ([], km_st2 lv x (.long v), s, M)
        | false => none
      | _ => none
    | .iinc _ _ => match km_get lv x with
      | some (.int v) => match Nat.blt x (km_len lv) with
        | true => some ([], km_st1 lv x (.int (v + c)), st, M)
        | false => none
      | _ => none
    | .iadd => match st with
      | .int b :: .int a :: s => some ([], lv, .int (a + b) :: s, M)
      | _ => none
    | .isub => match st with
      | .int b :: .int a :: s => some ([], lv, .int (a - b) :: s, M)
      | _ => none
    | .imul => match st with
      | .int b :: .int a :: s => some ([], lv, .int (a * b) :: s, M)
      | _ => none
    | .iand => match st with
      | .int b :: .int a :: s => some ([], lv, .int (a &&& b) :: s, M)
      | _ => none
    | .ior => match st with
      | .int b :: .int a :: s => some ([], lv, .int (a ||| b) :: s, M)
      | _ => none
    | .ixor => match st with
      | .int b :: .int a :: s => some ([], lv, .int (a ^^^ b) :: s, M)
      | _ => none
    | .idiv => match st with
      | .int b :: .int a :: s => some ([¬ b = 0], lv, .int (a / b) :: s, M)
      | _ => none
    | .irem => match st with
      | .int b :: .int a :: s => some ([¬ b = 0], lv, .int (a - a / b * b) :: s, M)
      | _ => none
    | .ishl => match st with
      | .int b :: .int a :: s => some ([], lv, .int (a <<< (b &&& 31)) :: s, M)
      | _ => none
    | .ishr => match st with
      | .int b :: .int a :: s => some ([], lv, .int (a >>> (b &&& 31)) :: s, M)
      | _ => none
    | .iushr => match st with
      | .int b :: .int a :: s => some ([], lv, .int (a.toUInt32 >>> (b.toUInt32 &&& Int32.toUInt32 31)).toInt32 :: s, M)
      | _ => none
    | .ladd => match st with
      | .long b :: .long a :: s => some ([], lv, .long (a + b) :: s, M)
      | _ => none
    | .lsub => match st with
      | .long b :: .long a :: s => some ([], lv, .long (a - b) :: s, M)
      | _ => none
    | .lmul => match st with
      | .long b :: .long a :: s => some ([], lv, .long (a * b) :: s, M)
      | _ => none
    | .land => match st with
      | .long b :: .long a :: s => some ([], lv, .long (a &&& b) :: s, M)
      | _ => none
    | .lor => match st with
      | .long b :: .long a :: s => some ([], lv, .long (a ||| b) :: s, M)
      | _ => none
    | .lxor => match st with
      | .long b :: .long a :: s => some ([], lv, .long (a ^^^ b) :: s, M)
      | _ => none
    | .ldiv => match st with
      | .long b :: .long a :: s => some ([¬ b = 0], lv, .long (a / b) :: s, M)
      | _ => none
    | .lrem => match st with
      | .long b :: .long a :: s => some ([¬ b = 0], lv, .long (a - a / b * b) :: s, M)
      | _ => none
    | .lneg => match st with
      | .long a :: s => some ([], lv, .long (-a) :: s, M)
      | _ => none
    | .lshl => match st with
      | .int b :: .long a :: s => some ([], lv, .long (a <<< (b.toInt64 &&& 63)) :: s, M)
      | _ => none
    | .lshr => match st with
      | .int b :: .long a :: s => some ([], lv, .long (a >>> (b.toInt64 &&& 63)) :: s, M)
      | _ => none
    | .lushr => match st with
      | .int b :: .long a :: s => some ([], lv, .long (a.toUInt64 >>> (b.toInt64.toUInt64 &&& Int64.toUInt64 63)).toInt64 :: s, M)
      | _ => none
    | .lcmp => match st with
      | .long b :: .long a :: s => some ([], lv, .int (lg_cmp a b) :: s, M)
      | _ => none
    | .i2l => match st with
      | .int a :: s => some ([], lv, .long a.toInt64 :: s, M)
      | _ => none
    | .l2i => match st with
      | .long a :: s => some ([], lv, .int a.toInt32 :: s, M)
      | _ => none
    | .dup => match st with
      | .int a :: s => some ([], lv, .int a :: .int a :: s, M)
      | .ref a :: s => some ([], lv, .ref a :: .ref a :: s, M)
      | _ => none
    | .dup2 => match st with
      | .int b :: .ref a :: s => some ([], lv, .int b :: .ref a :: .int b :: .ref a :: s, M)
      | _ => none
    | .pop => match st with
      | .int a :: s => some ([], lv, s, M)
      | .ref a :: s => some ([], lv, s, M)
      | _ => none
    | .getfield _ => match st with
      | .ref a :: s => some ([(sh a).1 = x], lv, km_ld z M a y :: s, M)
      | _ => none
    | .putfield _ => match z, st with
      | 0, .int v :: .ref a :: s => some ([(sh a).1 = x], lv, s, (km_up M.1 a y v, M.2.1, M.2.2))
      | 1, .long v :: .ref a :: s => some ([(sh a).1 = x], lv, s, (M.1, km_up M.2.1 a y v, M.2.2))
      | 2, .ref v :: .ref a :: s => some ([(sh a).1 = x], lv, s, (M.1, M.2.1, km_up M.2.2 a y v))
      | 3, .int v :: .ref a :: s => some ([(sh a).1 = x, v = 0 ∨ v = 1], lv, s, (km_up M.1 a y v, M.2.1, M.2.2))
      | _, _ => none
    | .iaload => match st with
      | .int j :: .ref a :: s => some ([(sh a).1 = 10, vp_in j (sh a).2], lv, .int (M.1 a j.toNatClampNeg) :: s, M)
      | _ => none
    | .laload => match st with
      | .int j :: .ref a :: s => some ([(sh a).1 = 11, vp_in j (sh a).2], lv, .long (M.2.1 a j.toNatClampNeg) :: s, M)
      | _ => none
    | .baload => match st with
      | .int j :: .ref a :: s => some ([(sh a).1 = 12, vp_in j (sh a).2], lv, .int (M.1 a j.toNatClampNeg) :: s, M)
      | _ => none
    | .aaload => match st with
      | .int j :: .ref a :: s => some ([(sh a).1 = x, x = 13 ∨ x = 14, vp_in j (sh a).2], lv, .ref (M.2.2 a j.toNatClampNeg) :: s, M)
      | _ => none
    | .iastore => match st with
      | .int v :: .int j :: .ref a :: s => some ([(sh a).1 = 10, vp_in j (sh a).2], lv, s, (km_up M.1 a j.toNatClampNeg v, M.2.1, M.2.2))
      | _ => none
    | .lastore => match st with
      | .long v :: .int j :: .ref a :: s => some ([(sh a).1 = 11, vp_in j (sh a).2], lv, s, (M.1, km_up M.2.1 a j.toNatClampNeg v, M.2.2))
      | _ => none
    | .bastore => match st with
      | .int v :: .int j :: .ref a :: s => some ([(sh a).1 = 12, vp_in j (sh a).2, v = 0 ∨ v = 1], lv, s, (km_up M.1 a j.toNatClampNeg v, M.2.1, M.2.2))
      | _ => none
    | .aastore => match st with
      | .ref v :: .int j :: .ref a :: s => some ([(sh a).1 = x, (x = 13 ∧ (sh v).1 = 4) ∨ (x = 14 ∧ (sh v).1 = 11), vp_in j (sh a).2], lv, s, (M.1, M.2.1, km_up M.2.2 a j.toNatClampNeg v))
      | _ => none
    | .arraylength => match st with
      | .ref a :: s => some ([(sh a).1 = x, x = 10 ∨ x = 11], lv, .int (Int32.ofNat (sh a).2) :: s, M)
      | _ => none
    | .invokestatic _ => match z, st with
      | 10, .int k :: .int dp :: .ref b :: .int sp :: .ref a :: s => match Nat.ble (km_wd s) 8 with
        | true => some ([(sh a).1 = 10, (sh b).1 = 10, ¬ sp < 0, ¬ dp < 0, ¬ k < 0, sp.toNatClampNeg + k.toNatClampNeg ≤ (sh a).2, dp.toNatClampNeg + k.toNatClampNeg ≤ (sh b).2], lv, s, (km_cp M.1 a b sp.toNatClampNeg dp.toNatClampNeg k.toNatClampNeg, M.2.1, M.2.2))
        | false => none
      | 11, .int k :: .int dp :: .ref b :: .int sp :: .ref a :: s => match Nat.ble (km_wd s) 8 with
        | true => some ([(sh a).1 = 11, (sh b).1 = 11, ¬ sp < 0, ¬ dp < 0, ¬ k < 0, sp.toNatClampNeg + k.toNatClampNeg ≤ (sh a).2, dp.toNatClampNeg + k.toNatClampNeg ≤ (sh b).2], lv, s, (M.1, km_cp M.2.1 a b sp.toNatClampNeg dp.toNatClampNeg k.toNatClampNeg, M.2.2))
        | false => none
      | 20, .int b :: .int a :: s => match Nat.ble (km_wd s) 8 with
        | true => some ([], lv, .int (if a < b then b else a) :: s, M)
        | false => none
      | 21, .int b :: .int a :: s => match Nat.ble (km_wd s) 8 with
        | true => some ([], lv, .int (if b < a then b else a) :: s, M)
        | false => none
      | _, _ => none
    | _ => none
/-- a branch: when it is taken, when not, and the stack behind it -/
def kQ : Instr → List Value → Option (Prop × Prop × List Value)
  | .if_icmp .eq _, .int b :: .int a :: s => some (a = b, ¬ a = b, s)
  | .if_icmp .ne _, .int b :: .int a :: s => some (¬ a = b, a = b, s)
  | .if_icmp .lt _, .int b :: .int a :: s => some (a < b, ¬ a < b, s)
  | .if_icmp .ge _, .int b :: .int a :: s => some (b ≤ a, ¬ b ≤ a, s)
  | .if_icmp .gt _, .int b :: .int a :: s => some (b < a, ¬ b < a, s)
  | .if_icmp .le _, .int b :: .int a :: s => some (a ≤ b, ¬ a ≤ b, s)
  | .ifCond .eq _, .int a :: s => some (a = 0, ¬ a = 0, s)
  | .ifCond .ne _, .int a :: s => some (¬ a = 0, a = 0, s)
  | .ifCond .lt _, .int a :: s => some (a < 0, ¬ a < 0, s)
  | .ifCond .ge _, .int a :: s => some (0 ≤ a, ¬ 0 ≤ a, s)
  | .ifCond .gt _, .int a :: s => some (0 < a, ¬ 0 < a, s)
  | .ifCond .le _, .int a :: s => some (a ≤ 0, ¬ a ≤ 0, s)
  | _, _ => none
/-- a switch: by its pairs, then by none of them -/
def kT (lv : km_L) (s : List Value) (v : Int32) : List (Int32 × Nat) → Nat → List Prop → List (Prop × Nat × km_L × List Value)
  | [], d, ns => [(km_and ns True, d, lv, s)]
  | (k, t) :: r, d, ns => (v = k, t, lv, s) :: kT lv s v r d ((¬ v = k) :: ns)
/-- the callee's arguments off the stack -/
def kZ : Nat → List Value → List Value → Option (List Value × List Value)
  | 0, st, acc => some (acc, st)
  | n + 1, v :: s, acc => kZ n s (v :: acc)
  | _ + 1, [], _ => none
abbrev km_J : Type := List (Prop × Nat × km_L × List Value)
/-- how a block ends: it goes on, it branches, it returns, it calls -/
abbrev km_O : Type := (Nat × km_L × List Value) ⊕ km_J ⊕ (List Prop × Option Value) ⊕ (List Prop × Nat × List Value × Nat × km_L × List Value)
def kO (sh : Nat → Nat × Nat) (rz : Bool) : km_I → Nat → km_L → List Value → Option km_O
  | (i, n, x, y, z, c, w, t), pc, lv, st => match i with
    | .goto _ => some (.inl (x, lv, st))
    | .if_icmp _ _ => match kQ i st with
      | some (P, Q, s) => some (.inr (.inl [(P, x, lv, s), (Q, pc + n, lv, s)]))
      | none => none
    | .ifCond _ _ => match kQ i st with
      | some (P, Q, s) => some (.inr (.inl [(P, x, lv, s), (Q, pc + n, lv, s)]))
      | none => none
    | .tableswitch _ _ _ _ => match st with
      | .int v :: s => some (.inr (.inl (kT lv s v t x [])))
      | _ => none
    | .lookupswitch _ _ => match st with
      | .int v :: s => some (.inr (.inl (kT lv s v t x [])))
      | _ => none
    | .ireturn => match st with
      | [.int v] => match rz with
        | true => some (.inr (.inr (.inl ([v = 0 ∨ v = 1], some (.int v)))))
        | false => some (.inr (.inr (.inl ([], some (.int v)))))
      | _ => none
    | .lreturn => match st with
      | [.long v] => some (.inr (.inr (.inl ([], some (.long v)))))
      | _ => none
    | .areturn => match st with
      | [.ref v] => some (.inr (.inr (.inl ([], some (.ref v)))))
      | _ => none
    | .return_ => match st with
      | [] => some (.inr (.inr (.inl ([], none))))
      | _ => none
    | .invokevirtual _ => match kZ y st [] with
      | some (.ref a :: as, s) => match Nat.ble (km_wd s) 8 with
        | true => some (.inr (.inr (.inr ([(sh a).1 = z], x, .ref a :: as, pc + n, lv, s))))
        | false => none
      | _ => none
    | .invokestatic _ => match z with
      | 0 => match kZ y st [] with
        | some (as, s) => match Nat.ble (km_wd s) 8 with
          | true => some (.inr (.inr (.inr ([], x, as, pc + n, lv, s))))
          | false => none
        | none => none
      | _ => none
    | _ => none
abbrev km_G : Type := Nat → km_L → List Value → km_M → Prop
abbrev km_C : Type := Nat → List Value → km_M → km_K → Prop
/-- one branch holds, and goes on -/
def kJo (G : km_G) (M : km_M) : km_J → Prop
  | [] => False
  | j :: r => (j.1 ∧ G j.2.1 j.2.2.1 j.2.2.2 M) ∨ kJo G M r
/-- every branch that holds goes on -/
def kJa (G : km_G) (M : km_M) : km_J → Prop
  | [] => True
  | [j] => j.1 → G j.2.1 j.2.2.1 j.2.2.2 M
  | j :: r => (j.1 → G j.2.1 j.2.2.1 j.2.2.2 M) ∧ kJa G M r
def kX (Jm : km_G → km_M → km_J → Prop) (G : km_G) (Rt : km_K) (Cl : km_C) (o : km_O) (M : km_M) : Prop := match o with
  | .inl (pc, lv, s) => G pc lv s M
  | .inr (.inl js) => Jm G M js
  | .inr (.inr (.inl (ps, v))) => km_and ps (Rt v M)
  | .inr (.inr (.inr (ps, m, as, pc, lv, s))) => km_and ps (Cl m as M (fun v M1 => G pc lv (v.toList ++ s) M1))
def kB (sh : Nat → Nat × Nat) (rz : Bool) (Jm : km_G → km_M → km_J → Prop) (G : km_G) (Rt : km_K) (Cl : km_C) : List km_I → Nat → km_L → List Value → km_M → Prop
  | [], pc, lv, st, M => G pc lv st M
  | it :: r, pc, lv, st, M => match kS sh it lv st M with
    | some (ps, lv', st', M') => km_and ps (kB sh rz Jm G Rt Cl r (pc + it.2.1) lv' st' M')
    | none => match kO sh rz it pc lv st with
      | some o => kX Jm G Rt Cl o M
      | none => False
def kF : Nat → List km_B → Option km_B
  | _, [] => none
  | pc, b :: r => match Nat.beq pc b.1 with
    | true => some b
    | false => kF pc r
def kMk (P : km_P) (pc : Nat) : List Bool := match kF pc P.2.2 with
  | some b => b.2.1
  | none => []
def kIn (P : km_P) (as : List Value) : km_L := km_mask (kMk P 0) (km_ent P.1 as)
def kEq (v : Option Value) (M : km_M) : km_K := fun v' M' => v' = v ∧ M' = M
/-- a run by fuel -/
def kG (sh : Nat → Nat × Nat) (pg : Nat → km_P) : Nat → Nat → Nat → km_L → List Value → km_M → km_K → Prop
  | 0, _, _, _, _, _, _ => False
  | f + 1, mid, pc, lv, st, M, K => match kF pc (pg mid).2.2 with
    | none => False
    | some b => kB sh (pg mid).2.1 kJo (fun pc lv st M => kG sh pg f mid pc (km_mask (kMk (pg mid) pc) lv) st M K) K (fun m as M' K' => Nat.ble (km_wd as) (pg m).1 = true ∧ ∃ v M1, kG sh pg f m 0 (kIn (pg m) as) [] M' (kEq v M1) ∧ K' v M1) b.2.2 pc lv st M
/-- it ends, and K holds of the answer and the memory -/
def kW (sh : Nat → Nat × Nat) (pg : Nat → km_P) (mid pc : Nat) (lv : km_L) (st : List Value) (M : km_M) (K : km_K) : Prop := ∃ f, kG sh pg f mid pc lv st M K
def kC (sh : Nat → Nat × Nat) (pg : Nat → km_P) (mid : Nat) (as : List Value) (M : km_M) (K : km_K) : Prop := Nat.ble (km_wd as) (pg mid).1 = true ∧ kW sh pg mid 0 (kIn (pg mid) as) [] M K
