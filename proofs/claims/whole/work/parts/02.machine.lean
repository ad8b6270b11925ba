/-- memory: shape (a row a cell: (0,n) ints, (1,n) longs, (2,n) references, (3,ci) an object), ints, longs, references (0: none, k+1: cell k) -/
abbrev xm_M : Type := List (Nat × Nat) × (Nat → Nat → Int32) × (Nat → Nat → Int64) × (Nat → Nat → Nat)
abbrev xm_L : Type := List (Option Value)
/-- a frame: pc, locals, stack, memory, cells and slots that may still be made -/
abbrev xm_S : Type := Nat × xm_L × List Value × xm_M × Nat × Nat
abbrev xm_R : Type := Option Value × xm_M
/-- a row of a method's table: instruction, next pc, target, places dead behind it, places dead at the target, four numbers, an int, a long, a switch -/
abbrev xm_E : Type := Jvm.ClassFile.Instr × Nat × Nat × List Nat × List Nat × (Nat × Nat × Nat × Nat) × Int32 × Int64 × List (Int32 × Nat × List Nat)
/-- what a step comes to: on; on if; a branch; a reference that isn't null; a call; an answer; an answer if; a switch; nothing -/
abbrev xm_O : Type := xm_S ⊕ (Prop × xm_S) ⊕ (Prop × xm_S × xm_S) ⊕ (Prop × Nat × (Nat → xm_S)) ⊕ (Nat × List Value × xm_M × (xm_R → xm_S)) ⊕ xm_R ⊕ (Prop × xm_R) ⊕ (List (Prop × xm_S) × xm_S) ⊕ Unit
def xm_go (s : xm_S) : xm_O := .inl s
def xm_pre (c : Prop) (s : xm_S) : xm_O := .inr (.inl (c, s))
def xm_br (c : Prop) (s t : xm_S) : xm_O := .inr (.inr (.inl (c, s, t)))
def xm_ex (c : Prop) (x : Nat) (f : Nat → xm_S) : xm_O := .inr (.inr (.inr (.inl (c, x, f))))
def xm_call (m : Nat) (av : List Value) (M : xm_M) (f : xm_R → xm_S) : xm_O := .inr (.inr (.inr (.inr (.inl (m, av, M, f)))))
def xm_ret (r : xm_R) : xm_O := .inr (.inr (.inr (.inr (.inr (.inl r)))))
def xm_retb (c : Prop) (r : xm_R) : xm_O := .inr (.inr (.inr (.inr (.inr (.inr (.inl (c, r)))))))
def xm_sw (l : List (Prop × xm_S)) (d : xm_S) : xm_O := .inr (.inr (.inr (.inr (.inr (.inr (.inr (.inl (l, d))))))))
def xm_bad : xm_O := .inr (.inr (.inr (.inr (.inr (.inr (.inr (.inr ())))))))
def xm_nth {α : Type} : List α → Nat → Option α
  | [], _ => none
  | a :: _, 0 => some a
  | _ :: l, n + 1 => xm_nth l n
def xm_up {α : Type} (f : Nat → Nat → α) (k i : Nat) (v : α) : Nat → Nat → α := fun a j => bif (Nat.beq a k && Nat.beq j i) then v else f a j
def xm_row {α : Type} (f : Nat → Nat → α) (k : Nat) (v : α) : Nat → Nat → α := fun a j => bif Nat.beq a k then v else f a j
def xm_kl (a : Option Value) : Option Value := match a with
  | some (.long _) => none
  | some (.double _) => none
  | a => a
/-- a value of one word at a place -/
def xm_s1 (v : Value) : Nat → xm_L → xm_L
  | _, [] => []
  | 0, _ :: l => some v :: l
  | 1, a :: l => xm_kl a :: xm_s1 v 0 l
  | n + 2, a :: l => a :: xm_s1 v (n + 1) l
def xm_no : Nat → xm_L → xm_L
  | _, [] => []
  | 0, _ :: l => none :: l
  | n + 1, a :: l => a :: xm_no n l
/-- a value of two words -/
def xm_s2 (v : Value) : Nat → xm_L → xm_L
  | _, [] => []
  | 0, _ :: l => some v :: xm_no 0 l
  | 1, a :: l => xm_kl a :: xm_s2 v 0 l
  | n + 2, a :: l => a :: xm_s2 v (n + 1) l
def xm_drop : List Nat → xm_L → xm_L
  | [], L => L
  | i :: D, L => xm_drop D (xm_no i L)
def xm_pI (S : List Value) (k : Int32 → List Value → xm_O) : xm_O := match S with
  | .int x :: S => k x S
  | _ => xm_bad
def xm_pL (S : List Value) (k : Int64 → List Value → xm_O) : xm_O := match S with
  | .long x :: S => k x S
  | _ => xm_bad
def xm_pR (S : List Value) (k : Nat → List Value → xm_O) : xm_O := match S with
  | .ref x :: S => k x S
  | _ => xm_bad
def xm_gI (L : xm_L) (i : Nat) (k : Int32 → xm_O) : xm_O := match xm_nth L i with
  | some (some (.int x)) => k x
  | _ => xm_bad
def xm_gL (L : xm_L) (i : Nat) (k : Int64 → xm_O) : xm_O := match xm_nth L i with
  | some (some (.long x)) => k x
  | _ => xm_bad
def xm_gR (L : xm_L) (i : Nat) (k : Nat → xm_O) : xm_O := match xm_nth L i with
  | some (some (.ref x)) => k x
  | _ => xm_bad
/-- the shape of a cell: kind and number -/
def xm_sh (M : xm_M) (k : Nat) (kind : Nat) (f : Nat → xm_O) : xm_O := match xm_nth M.1 k with
  | some (t, n) => bif Nat.beq t kind then f n else xm_bad
  | _ => xm_bad
def xm_if (c : Bool) (o : xm_O) : xm_O := match c with
  | true => o
  | false => xm_bad
def xm_pop : Nat → List Value → List Value → (List Value → List Value → xm_O) → xm_O
  | 0, acc, S, k => k acc S
  | n + 1, acc, v :: S, k => xm_pop n (v :: acc) S k
  | _ + 1, _, [], _ => xm_bad
def xm_ct (v : Value) : Nat := match v with
  | .long _ => 2
  | .double _ => 2
  | _ => 1
def xm_cat : List Value → Nat
  | [] => 0
  | v :: S => xm_ct v + xm_cat S
def xm_bk (nx : Nat) (L : xm_L) (S : List Value) (bc bs : Nat) (r : xm_R) : xm_S := match r with
  | (none, M) => (nx, L, S, M, bc, bs)
  | (some v, M) => (nx, L, v :: S, M, bc, bs)
def xm_rv (x : Nat) (k : Nat → xm_O) : xm_O := match x with
  | 0 => xm_bad
  | q + 1 => k q
/-- cells and slots that a method's callees and itself may make -/
abbrev xm_Z : Type := (Nat → Nat → Option xm_E) × (Nat → Nat) × (Nat → Nat × Nat)
/-- one instruction -/
def xm_ins (Z : xm_Z) (e : xm_E) (L : xm_L) (S : List Value) (M : xm_M) (bc bs : Nat) : xm_O := match e with
  | (ins, nx, tg, D, D2, (a, b, c, d), kI, kL, sw) => match ins with
    | .iconst _ => xm_go (nx, xm_drop D L, .int kI :: S, M, bc, bs)
    | .bipush _ => xm_go (nx, xm_drop D L, .int kI :: S, M, bc, bs)
    | .sipush _ => xm_go (nx, xm_drop D L, .int kI :: S, M, bc, bs)
    | .ldc _ => xm_go (nx, xm_drop D L, .int kI :: S, M, bc, bs)
    | .ldc_w _ => xm_go (nx, xm_drop D L, .int kI :: S, M, bc, bs)
    | .lconst _ => xm_go (nx, xm_drop D L, .long kL :: S, M, bc, bs)
    | .ldc2_w _ => xm_go (nx, xm_drop D L, .long kL :: S, M, bc, bs)
    | .iload_n _ => xm_gI L a fun x => xm_go (nx, xm_drop D L, .int x :: S, M, bc, bs)
    | .iload _ => xm_gI L a fun x => xm_go (nx, xm_drop D L, .int x :: S, M, bc, bs)
    | .lload_n _ => xm_gL L a fun x => xm_go (nx, xm_drop D L, .long x :: S, M, bc, bs)
    | .lload _ => xm_gL L a fun x => xm_go (nx, xm_drop D L, .long x :: S, M, bc, bs)
    | .aload_n _ => xm_gR L a fun x => xm_go (nx, xm_drop D L, .ref x :: S, M, bc, bs)
    | .aload _ => xm_gR L a fun x => xm_go (nx, xm_drop D L, .ref x :: S, M, bc, bs)
    | .istore_n _ => xm_pI S fun x S => xm_go (nx, xm_drop D (xm_s1 (.int x) a L), S, M, bc, bs)
    | .istore _ => xm_pI S fun x S => xm_go (nx, xm_drop D (xm_s1 (.int x) a L), S, M, bc, bs)
    | .lstore_n _ => xm_pL S fun x S => xm_go (nx, xm_drop D (xm_s2 (.long x) a L), S, M, bc, bs)
    | .lstore _ => xm_pL S fun x S => xm_go (nx, xm_drop D (xm_s2 (.long x) a L), S, M, bc, bs)
    | .astore_n _ => xm_pR S fun x S => xm_go (nx, xm_drop D (xm_s1 (.ref x) a L), S, M, bc, bs)
    | .astore _ => xm_pR S fun x S => xm_go (nx, xm_drop D (xm_s1 (.ref x) a L), S, M, bc, bs)
    | .iinc _ _ => xm_gI L a fun x => xm_go (nx, xm_drop D (xm_s1 (.int (x + kI)) a L), S, M, bc, bs)
    | .iadd => xm_pI S fun y S => xm_pI S fun x S => xm_go (nx, xm_drop D L, .int (x + y) :: S, M, bc, bs)
    | .isub => xm_pI S fun y S => xm_pI S fun x S => xm_go (nx, xm_drop D L, .int (x - y) :: S, M, bc, bs)
    | .imul => xm_pI S fun y S => xm_pI S fun x S => xm_go (nx, xm_drop D L, .int (x * y) :: S, M, bc, bs)
    | .iand => xm_pI S fun y S => xm_pI S fun x S => xm_go (nx, xm_drop D L, .int (x &&& y) :: S, M, bc, bs)
    | .ior => xm_pI S fun y S => xm_pI S fun x S => xm_go (nx, xm_drop D L, .int (x ||| y) :: S, M, bc, bs)
    | .ixor => xm_pI S fun y S => xm_pI S fun x S => xm_go (nx, xm_drop D L, .int (x ^^^ y) :: S, M, bc, bs)
    | .ishl => xm_pI S fun y S => xm_pI S fun x S => xm_go (nx, xm_drop D L, .int (x <<< (y &&& 31)) :: S, M, bc, bs)
    | .ishr => xm_pI S fun y S => xm_pI S fun x S => xm_go (nx, xm_drop D L, .int (x >>> (y &&& 31)) :: S, M, bc, bs)
    | .iushr => xm_pI S fun y S => xm_pI S fun x S => xm_go (nx, xm_drop D L, .int ((x.toUInt32 >>> (y.toUInt32 &&& Int32.toUInt32 31)).toInt32) :: S, M, bc, bs)
    | .ladd => xm_pL S fun y S => xm_pL S fun x S => xm_go (nx, xm_drop D L, .long (x + y) :: S, M, bc, bs)
    | .lsub => xm_pL S fun y S => xm_pL S fun x S => xm_go (nx, xm_drop D L, .long (x - y) :: S, M, bc, bs)
    | .lmul => xm_pL S fun y S => xm_pL S fun x S => xm_go (nx, xm_drop D L, .long (x * y) :: S, M, bc, bs)
    | .land => xm_pL S fun y S => xm_pL S fun x S => xm_go (nx, xm_drop D L, .long (x &&& y) :: S, M, bc, bs)
    | .lor => xm_pL S fun y S => xm_pL S fun x S => xm_go (nx, xm_drop D L, .long (x ||| y) :: S, M, bc, bs)
    | .lxor => xm_pL S fun y S => xm_pL S fun x S => xm_go (nx, xm_drop D L, .long (x ^^^ y) :: S, M, bc, bs)
    | .lshl => xm_pI S fun y S => xm_pL S fun x S => xm_go (nx, xm_drop D L, .long (x <<< (y.toInt64 &&& 63)) :: S, M, bc, bs)
    | .lshr => xm_pI S fun y S => xm_pL S fun x S => xm_go (nx, xm_drop D L, .long (x >>> (y.toInt64 &&& 63)) :: S, M, bc, bs)
    | .lushr => xm_pI S fun y S => xm_pL S fun x S => xm_go (nx, xm_drop D L, .long ((x.toUInt64 >>> (y.toInt64.toUInt64 &&& Int64.toUInt64 63)).toInt64) :: S, M, bc, bs)
    | .i2l => xm_pI S fun x S => xm_go (nx, xm_drop D L, .long x.toInt64 :: S, M, bc, bs)
    | .l2i => xm_pL S fun x S => xm_go (nx, xm_drop D L, .int x.toInt32 :: S, M, bc, bs)
    | .lcmp => xm_pL S fun y S => xm_pL S fun x S => xm_go (nx, xm_drop D L, .int (lg_cmp x y) :: S, M, bc, bs)
    | .dup => (match S with
      | .int x :: S => xm_go (nx, xm_drop D L, .int x :: .int x :: S, M, bc, bs)
      | .ref x :: S => xm_go (nx, xm_drop D L, .ref x :: .ref x :: S, M, bc, bs)
      | _ => xm_bad)
    | .dup2 => xm_pI S fun y S => xm_pR S fun x S => xm_go (nx, xm_drop D L, .int y :: .ref x :: .int y :: .ref x :: S, M, bc, bs)
    | .pop => (match S with
      | .int _ :: S => xm_go (nx, xm_drop D L, S, M, bc, bs)
      | .ref _ :: S => xm_go (nx, xm_drop D L, S, M, bc, bs)
      | _ => xm_bad)
    | .goto _ => xm_go (tg, xm_drop D L, S, M, bc, bs)
    | .ifCond q _ => xm_pI S fun x S => (match q with
      | .eq => xm_br (x = 0) (tg, xm_drop D2 L, S, M, bc, bs) (nx, xm_drop D L, S, M, bc, bs)
      | .ne => xm_br (x = 0) (nx, xm_drop D L, S, M, bc, bs) (tg, xm_drop D2 L, S, M, bc, bs)
      | .lt => xm_br (x < 0) (tg, xm_drop D2 L, S, M, bc, bs) (nx, xm_drop D L, S, M, bc, bs)
      | .ge => xm_br (0 ≤ x) (tg, xm_drop D2 L, S, M, bc, bs) (nx, xm_drop D L, S, M, bc, bs)
      | .gt => xm_br (0 < x) (tg, xm_drop D2 L, S, M, bc, bs) (nx, xm_drop D L, S, M, bc, bs)
      | .le => xm_br (x ≤ 0) (tg, xm_drop D2 L, S, M, bc, bs) (nx, xm_drop D L, S, M, bc, bs))
    | .if_icmp q _ => xm_pI S fun y S => xm_pI S fun x S => (match q with
      | .eq => xm_br (x = y) (tg, xm_drop D2 L, S, M, bc, bs) (nx, xm_drop D L, S, M, bc, bs)
      | .ne => xm_br (x = y) (nx, xm_drop D L, S, M, bc, bs) (tg, xm_drop D2 L, S, M, bc, bs)
      | .lt => xm_br (x < y) (tg, xm_drop D2 L, S, M, bc, bs) (nx, xm_drop D L, S, M, bc, bs)
      | .ge => xm_br (y ≤ x) (tg, xm_drop D2 L, S, M, bc, bs) (nx, xm_drop D L, S, M, bc, bs)
      | .gt => xm_br (y < x) (tg, xm_drop D2 L, S, M, bc, bs) (nx, xm_drop D L, S, M, bc, bs)
      | .le => xm_br (x ≤ y) (tg, xm_drop D2 L, S, M, bc, bs) (nx, xm_drop D L, S, M, bc, bs))
    | .tableswitch _ _ _ _ => xm_pI S fun x S => xm_sw (sw.map fun q => (x = q.1, (q.2.1, xm_drop q.2.2 L, S, M, bc, bs))) (tg, xm_drop D2 L, S, M, bc, bs)
    | .getfield _ => xm_pR S fun k S => (match d with
      | 0 => xm_sh M k 3 fun ci => xm_if (Nat.beq ci a) (match c with
        | 1 => xm_go (nx, xm_drop D L, .long (M.2.2.1 k b) :: S, M, bc, bs)
        | 2 => xm_rv (M.2.2.2 k b) fun q => xm_go (nx, xm_drop D L, .ref q :: S, M, bc, bs)
        | _ => xm_go (nx, xm_drop D L, .int (M.2.1 k b) :: S, M, bc, bs))
      | _ => (match c with
        | 1 => xm_pre (xm_nth M.1 k = some (3, a)) (nx, xm_drop D L, .long (M.2.2.1 k b) :: S, M, bc, bs)
        | 2 => xm_bad
        | _ => xm_pre (xm_nth M.1 k = some (3, a)) (nx, xm_drop D L, .int (M.2.1 k b) :: S, M, bc, bs)))
    | .putfield _ => (match c with
      | 1 => xm_pL S fun x S => xm_pR S fun k S => (match d with
        | 0 => xm_sh M k 3 fun ci => xm_if (Nat.beq ci a) (xm_go (nx, xm_drop D L, S, (M.1, M.2.1, xm_up M.2.2.1 k b x, M.2.2.2), bc, bs))
        | _ => xm_pre (xm_nth M.1 k = some (3, a)) (nx, xm_drop D L, S, (M.1, M.2.1, xm_up M.2.2.1 k b x, M.2.2.2), bc, bs))
      | 2 => xm_pR S fun x S => xm_pR S fun k S => xm_sh M k 3 fun ci => xm_if (Nat.beq ci a) (xm_go (nx, xm_drop D L, S, (M.1, M.2.1, M.2.2.1, xm_up M.2.2.2 k b (x + 1)), bc, bs))
      | 3 => xm_pI S fun x S => xm_pR S fun k S => xm_sh M k 3 fun ci => xm_if (Nat.beq ci a) (xm_pre (x = 0 ∨ x = 1) (nx, xm_drop D L, S, (M.1, xm_up M.2.1 k b x, M.2.2), bc, bs))
      | _ => xm_pI S fun x S => xm_pR S fun k S => (match d with
        | 0 => xm_sh M k 3 fun ci => xm_if (Nat.beq ci a) (xm_go (nx, xm_drop D L, S, (M.1, xm_up M.2.1 k b x, M.2.2), bc, bs))
        | _ => xm_pre (xm_nth M.1 k = some (3, a)) (nx, xm_drop D L, S, (M.1, xm_up M.2.1 k b x, M.2.2), bc, bs)))
    | .iaload => xm_pI S fun i S => xm_pR S fun k S => xm_sh M k 0 fun n => xm_pre (vp_in i n) (nx, xm_drop D L, .int (M.2.1 k i.toNatClampNeg) :: S, M, bc, bs)
    | .laload => xm_pI S fun i S => xm_pR S fun k S => xm_sh M k 1 fun n => xm_pre (vp_in i n) (nx, xm_drop D L, .long (M.2.2.1 k i.toNatClampNeg) :: S, M, bc, bs)
    | .aaload => xm_pI S fun i S => xm_pR S fun k S => xm_sh M k 2 fun n => xm_ex (vp_in i n) (M.2.2.2 k i.toNatClampNeg) fun q => (nx, xm_drop D L, .ref q :: S, M, bc, bs)
    | .iastore => xm_pI S fun x S => xm_pI S fun i S => xm_pR S fun k S => xm_sh M k 0 fun n => xm_pre (vp_in i n) (nx, xm_drop D L, S, (M.1, xm_up M.2.1 k i.toNatClampNeg x, M.2.2), bc, bs)
    | .lastore => xm_pL S fun x S => xm_pI S fun i S => xm_pR S fun k S => xm_sh M k 1 fun n => xm_pre (vp_in i n) (nx, xm_drop D L, S, (M.1, M.2.1, xm_up M.2.2.1 k i.toNatClampNeg x, M.2.2.2), bc, bs)
    | .aastore => xm_pR S fun x S => xm_pI S fun i S => xm_pR S fun k S => xm_sh M k 2 fun n => xm_pre (vp_in i n ∧ xm_nth M.1 x = some (3, a)) (nx, xm_drop D L, S, (M.1, M.2.1, M.2.2.1, xm_up M.2.2.2 k i.toNatClampNeg (x + 1)), bc, bs)
    | .arraylength => xm_pR S fun k S => xm_sh M k 0 fun n => xm_go (nx, xm_drop D L, .int (Int32.ofNat n) :: S, M, bc, bs)
    | .newarray _ => xm_pI S fun x S => xm_if (Nat.ble 1 bc && Nat.ble b bs) (xm_pre (x = kI) (nx, xm_drop D L, .ref M.1.length :: S, (M.1 ++ [(a, b)], xm_row M.2.1 M.1.length 0, xm_row M.2.2.1 M.1.length 0, M.2.2.2), bc - 1, bs - b))
    | .anewarray _ => xm_pI S fun x S => xm_if (Nat.ble 1 bc && Nat.ble b bs) (xm_pre (x = kI) (nx, xm_drop D L, .ref M.1.length :: S, (M.1 ++ [(2, b)], M.2.1, M.2.2.1, xm_row M.2.2.2 M.1.length 0), bc - 1, bs - b))
    | .new _ => xm_if (Nat.ble 1 bc && Nat.ble b bs) (xm_go (nx, xm_drop D L, .ref M.1.length :: S, (M.1 ++ [(3, a)], xm_row M.2.1 M.1.length 0, xm_row M.2.2.1 M.1.length 0, xm_row M.2.2.2 M.1.length 0), bc - 1, bs - b))
    | .invokevirtual _ => xm_pop b [] S fun As S => xm_pR S fun k S => xm_sh M k 3 fun ci => xm_if (Nat.beq ci c && (Nat.ble (xm_cat S) 8 && (Nat.ble (Z.2.2 a).1 bc && Nat.ble (Z.2.2 a).2 bs))) (xm_call a (.ref k :: As) M (xm_bk nx (xm_drop D L) S (bc - (Z.2.2 a).1) (bs - (Z.2.2 a).2)))
    | .invokestatic _ => (match d with
      | 2 => xm_pI S fun y S => xm_pI S fun x S => xm_if (Nat.ble (xm_cat S) 8) (xm_go (nx, xm_drop D L, .int (if x < y then y else x) :: S, M, bc, bs))
      | _ => xm_pop b [] S fun As S => xm_if (Nat.ble (xm_cat S) 8 && (Nat.ble (Z.2.2 a).1 bc && Nat.ble (Z.2.2 a).2 bs)) (xm_call a As M (xm_bk nx (xm_drop D L) S (bc - (Z.2.2 a).1) (bs - (Z.2.2 a).2))))
    | .invokespecial _ => (match d with
      | 0 => xm_pR S fun _ S => xm_if (Nat.ble (xm_cat S) 8) (xm_go (nx, xm_drop D L, S, M, bc, bs))
      | _ => xm_pop b [] S fun As S => xm_pR S fun k S => xm_if (Nat.ble (xm_cat S) 8 && (Nat.ble (Z.2.2 a).1 bc && Nat.ble (Z.2.2 a).2 bs)) (xm_call a (.ref k :: As) M (xm_bk nx (xm_drop D L) S (bc - (Z.2.2 a).1) (bs - (Z.2.2 a).2))))
    | .ireturn => (match S with
      | [.int x] => (match d with
        | 0 => xm_ret (some (.int x), M)
        | _ => xm_retb (x = 0 ∨ x = 1) (some (.int x), M))
      | _ => xm_bad)
    | .lreturn => (match S with
      | [.long x] => xm_ret (some (.long x), M)
      | _ => xm_bad)
    | .return_ => (match S with
      | [] => xm_ret (none, M)
      | _ => xm_bad)
    | _ => xm_bad
def xm_step (Z : xm_Z) (t : Nat → Option xm_E) (s : xm_S) : xm_O := match s with
  | (pc, L, S, M, bc, bs) => match t pc with
    | none => xm_bad
    | some e => xm_ins Z e L S M bc bs
def xm_all (ih : xm_S → Prop) (d : xm_S) : List (Prop × xm_S) → Prop
  | [] => ih d
  | (c, s) :: l => (c → ih s) ∧ (¬ c → xm_all ih d l)
abbrev xm_C : Type := Nat → List Value → xm_M → (xm_R → Prop) → Prop
def xm_F (ic : xm_C) (P : xm_R → Prop) (ih : xm_S → Prop) (o : xm_O) : Prop := match o with
  | .inl s => ih s
  | .inr (.inl (c, s)) => c ∧ ih s
  | .inr (.inr (.inl (c, s, t))) => (c → ih s) ∧ (¬ c → ih t)
  | .inr (.inr (.inr (.inl (c, x, f)))) => c ∧ ∃ k, x = k + 1 ∧ ih (f k)
  | .inr (.inr (.inr (.inr (.inl (m, av, M, f))))) => ∃ P0 : xm_R → Prop, ic m av M P0 ∧ ∀ r, P0 r → ih (f r)
  | .inr (.inr (.inr (.inr (.inr (.inl r))))) => P r
  | .inr (.inr (.inr (.inr (.inr (.inr (.inl (c, r))))))) => c ∧ P r
  | .inr (.inr (.inr (.inr (.inr (.inr (.inr (.inl (l, d)))))))) => xm_all ih d l
  | .inr (.inr (.inr (.inr (.inr (.inr (.inr (.inr ()))))))) => False
theorem xm_all_mono {X Y : xm_S → Prop} (h : ∀ s, X s → Y s) {d : xm_S} : ∀ {l : List (Prop × xm_S)}, xm_all X d l → xm_all Y d l
  | [], q => h _ q
  | (_, _) :: _, q => ⟨fun c => h _ (q.1 c), fun c => xm_all_mono h (q.2 c)⟩
theorem xm_F_mono {ic ic' : xm_C} {P P' : xm_R → Prop} {X Y : xm_S → Prop} (hc : ∀ m av M P0, ic m av M P0 → ic' m av M P0) (hP : ∀ r, P r → P' r) (h : ∀ s, X s → Y s) {o : xm_O} (q : xm_F ic P X o) : xm_F ic' P' Y o := by
  rcases o with s | ⟨c, s⟩ | ⟨c, s, t⟩ | ⟨c, x, f⟩ | ⟨m, av, M, f⟩ | r | ⟨c, r⟩ | ⟨l, d⟩ | u
  · exact h _ q
  · exact ⟨q.1, h _ q.2⟩
  · exact ⟨fun z => h _ (q.1 z), fun z => h _ (q.2 z)⟩
  · obtain ⟨q0, k, q1, q2⟩ := q
    exact ⟨q0, k, q1, h _ q2⟩
  · obtain ⟨P0, q1, q2⟩ := q
    exact ⟨P0, hc _ _ _ _ q1, fun r z => h _ (q2 r z)⟩
  · exact hP _ q
  · exact ⟨q.1, hP _ q.2⟩
  · exact xm_all_mono h q
  · exact q
/-- from here a frame ends, with P -/
def xm_W (Z : xm_Z) (ic : xm_C) (P : xm_R → Prop) (t : Nat → Option xm_E) (s : xm_S) : Prop := ∀ X : xm_S → Prop, (∀ s, xm_F ic P X (xm_step Z t s) → X s) → X s
theorem xm_fold {Z : xm_Z} {ic : xm_C} {P : xm_R → Prop} {t : Nat → Option xm_E} {s : xm_S} (h : xm_F ic P (xm_W Z ic P t) (xm_step Z t s)) : xm_W Z ic P t s :=
  fun X hX => hX s (xm_F_mono (fun _ _ _ _ z => z) (fun _ z => z) (fun _ z => z X hX) h)
theorem xm_W_mono {Z : xm_Z} {ic ic' : xm_C} {P P' : xm_R → Prop} (hc : ∀ m av M P0, ic m av M P0 → ic' m av M P0) (hP : ∀ r, P r → P' r) {t : Nat → Option xm_E} {s : xm_S} (h : xm_W Z ic P t s) : xm_W Z ic' P' t s :=
  h (xm_W Z ic' P' t) (fun _ q => xm_fold (xm_F_mono hc hP (fun _ z => z) q))
/-- up to n steps, through what is straight -/
def xm_run (Z : xm_Z) (ic : xm_C) (P : xm_R → Prop) (ih : xm_S → Prop) (t : Nat → Option xm_E) : Nat → xm_S → Prop
  | 0, s => ih s
  | n + 1, s => match xm_step Z t s with
    | .inl s => xm_run Z ic P ih t n s
    | .inr (.inl (c, s)) => c ∧ xm_run Z ic P ih t n s
    | .inr (.inr (.inr (.inl (c, x, f)))) => c ∧ ∃ k, x = k + 1 ∧ xm_run Z ic P ih t n (f k)
    | o => xm_F ic P ih o
theorem xm_blk {Z : xm_Z} {ic : xm_C} {P : xm_R → Prop} {t : Nat → Option xm_E} : ∀ (n : Nat) {s : xm_S}, xm_run Z ic P (xm_W Z ic P t) t n s → xm_W Z ic P t s := by
  intro n
  induction n with
  | zero => intro s h; exact h
  | succ n ih =>
    intro s h
    refine xm_fold ?_
    unfold xm_run at h
    generalize xm_step Z t s = o at h ⊢
    rcases o with s | ⟨c, s⟩ | ⟨c, s, t⟩ | ⟨c, x, f⟩ | ⟨m, av, M, f⟩ | r | ⟨c, r⟩ | ⟨l, d⟩ | u
    · exact ih h
    · exact ⟨h.1, ih h.2⟩
    · exact h
    · obtain ⟨q0, k, q1, q2⟩ := h
      exact ⟨q0, k, q1, ih q2⟩
    · exact h
    · exact h
    · exact h
    · exact h
    · exact h
/-- a call's beginning -/
def xm_ea : List Value → xm_L
  | [] => []
  | .long x :: vs => some (.long x) :: none :: xm_ea vs
  | .double x :: vs => some (.double x) :: none :: xm_ea vs
  | v :: vs => some v :: xm_ea vs
def xm_pad : Nat → xm_L → xm_L
  | 0, L => L
  | n + 1, [] => none :: xm_pad n []
  | n + 1, a :: L => a :: xm_pad n L
def xm_st (Z : xm_Z) (m : Nat) (av : List Value) (M : xm_M) : xm_S := (bif Nat.ble (xm_cat av) (Z.2.1 m) then 0 else 1000000, xm_pad (Z.2.1 m) (xm_ea av), [], M, (Z.2.2 m).1, (Z.2.2 m).2)
/-- method m, called with av in memory M, ends with P -/
def xm_Ev (Z : xm_Z) (m : Nat) (av : List Value) (M : xm_M) (P : xm_R → Prop) : Prop := ∀ E : xm_C, (∀ m av M P, xm_W Z E P (Z.1 m) (xm_st Z m av M) → E m av M P) → E m av M P
theorem xm_in {Z : xm_Z} {m : Nat} {av : List Value} {M : xm_M} {P : xm_R → Prop} (h : xm_W Z (xm_Ev Z) P (Z.1 m) (xm_st Z m av M)) : xm_Ev Z m av M P :=
  fun E hE => hE m av M P (xm_W_mono (fun _ _ _ _ z => z E hE) (fun _ z => z) h)
theorem xm_Ev.imp {Z : xm_Z} {m : Nat} {av : List Value} {M : xm_M} {P P' : xm_R → Prop} (h : xm_Ev Z m av M P) (hP : ∀ r, P r → P' r) : xm_Ev Z m av M P' := by
  intro E hE
  refine h (fun m av M P => ∀ P' : xm_R → Prop, (∀ r, P r → P' r) → E m av M P') ?_ P' hP
  intro m av M P hW P' hP
  exact hE m av M P' (xm_W_mono (fun _ _ _ _ z => z _ (fun _ q => q)) hP hW)
