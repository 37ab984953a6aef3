-- THE ABSTRACT MACHINE: a fixed set of cells (a shape), their contents as functions, a predicate transformer over decoded code
def xm_tbl : List Cond := lw_tbl.filter goodWord
abbrev xG : Type := (Nat → Nat → Int32) × (Nat → Nat → Int64) × (Nat → Nat → Nat)
/-- a cell of a shape: an array (tag, length), or an object (class, its fields: kind, target) -/
abbrev xC : Type := (Nat × Nat) ⊕ (Nat × List (Nat × Nat))
abbrev xT : Type := List Value → xG → (Option Value → xG → Prop) → Prop
/-- a row of code: cut here?, pc, length, instruction, two numbers, an int, a switch -/
abbrev xE : Type := Bool × Nat × Nat × Instr × Nat × Nat × Int32 × List (Int32 × Nat)
/-- a callee: its index in the pool, kind (0 virtual, 1 static, 2 arraycopy), how many values it takes, its class -/
abbrev xK : Type := Nat × Nat × Nat × Nat
def xm_stop (p : Prop) : Prop := p ∧ True
def xm_get : List Value → Nat → Value
  | [], _ => .retAddr 0
  | v :: _, 0 => v
  | _ :: r, i + 1 => xm_get r i
def xm_nth : List xC → Nat → xC
  | [], _ => .inl (9, 0)
  | v :: _, 0 => v
  | _ :: r, i + 1 => xm_nth r i
def xm_fld : List (Nat × Nat) → Nat → Nat × Nat
  | [], _ => (9, 0)
  | v :: _, 0 => v
  | _ :: r, i + 1 => xm_fld r i
def xm_kth : List xK → Nat → xK
  | [], _ => (0, 9, 0, 0)
  | v :: _, 0 => v
  | _ :: r, i + 1 => xm_kth r i
def xm_tth : List xT → Nat → xT
  | [], _ => fun _ _ _ => False
  | v :: _, 0 => v
  | _ :: r, i + 1 => xm_tth r i
def xm_drop : Nat → List xE → List xE
  | 0, l => l
  | _ + 1, [] => []
  | n + 1, _ :: l => xm_drop n l
/-- one local set (a long ahead of it is lost) -/
def xm_set : List Value → Nat → Value → (List Value → Prop) → Prop
  | [], _, _, _ => False
  | _ :: r, 0, v, k => k (v :: r)
  | w :: r, 1, v, k => match w with
    | .long _ => xm_set r 0 v (fun r' => k (.retAddr 0 :: r'))
    | .double _ => xm_set r 0 v (fun r' => k (.retAddr 0 :: r'))
    | _ => xm_set r 0 v (fun r' => k (w :: r'))
  | w :: r, i + 2, v, k => xm_set r (i + 1) v (fun r' => k (w :: r'))
def xm_pop : Nat → List Value → List Value → (List Value → List Value → Prop) → Prop
  | 0, st, acc, k => k acc st
  | _ + 1, [], _, _ => False
  | n + 1, v :: st, acc, k => xm_pop n st (v :: acc) k
def xm_cat : List Value → Nat
  | [] => 0
  | v :: r => xm_cat r + (match v with | .long _ => 2 | .double _ => 2 | _ => 1)
def xm_u2 (f : Nat → Nat → Int32) (k j : Nat) (v : Int32) : Nat → Nat → Int32 := fun a b => if a = k then (if b = j then v else f a b) else f a b
def xm_u2L (f : Nat → Nat → Int64) (k j : Nat) (v : Int64) : Nat → Nat → Int64 := fun a b => if a = k then (if b = j then v else f a b) else f a b
def xm_u2N (f : Nat → Nat → Nat) (k j : Nat) (v : Nat) : Nat → Nat → Nat := fun a b => if a = k then (if b = j then v else f a b) else f a b
def xm_uA (f : Nat → Nat → Int32) (k : Nat) (v : Nat → Int32) : Nat → Nat → Int32 := fun a => if a = k then v else f a
def xm_sI (g : xG) (k j : Nat) (v : Int32) : xG := (xm_u2 g.1 k j v, g.2)
def xm_sL (g : xG) (k j : Nat) (v : Int64) : xG := (g.1, xm_u2L g.2.1 k j v, g.2.2)
def xm_sR (g : xG) (k j : Nat) (v : Nat) : xG := (g.1, g.2.1, xm_u2N g.2.2 k j v)
def xm_sA (g : xG) (k : Nat) (v : Nat → Int32) : xG := (xm_uA g.1 k v, g.2)
/-- a switch -/
def xm_sw (x : Int32) (go : Nat → Prop) (d : Nat) : List (Int32 × Nat) → Prop
  | [] => go d
  | q :: r => (x = q.1 → go q.2) ∧ (¬ x = q.1 → xm_sw x go d r)
/-- the two texts of the class's own constants: 1000, 1001 are their refs, 2000, 2001 those of their bytes, 3000 that of a static -/
def xm_ln : List Nat := [160, 9]
def xm_by : List (List Int32) := [[115, 108, 105, 100, 101, 32, 32, 32, 112, 101, 114, 115, 111, 110, 32, 32, 115, 104, 111, 119, 110, 32, 32, 32, 116, 97, 107, 101, 115, 32, 32, 32, 102, 97, 100, 101, 115, 32, 32, 32, 112, 97, 121, 115, 32, 32, 32, 32, 119, 97, 115, 104, 101, 115, 32, 32, 115, 101, 101, 100, 32, 32, 32, 32, 105, 102, 32, 32, 32, 32, 32, 32, 116, 104, 101, 110, 32, 32, 32, 32, 101, 108, 115, 101, 32, 32, 32, 32, 103, 108, 111, 119, 32, 32, 32, 32, 119, 97, 114, 109, 32, 32, 32, 32, 98, 114, 105, 103, 104, 116, 32, 32, 119, 101, 101, 107, 32, 32, 32, 32, 115, 101, 97, 116, 32, 32, 32, 32, 106, 111, 105, 110, 115, 32, 32, 32, 119, 104, 105, 99, 104, 32, 32, 32, 111, 116, 104, 101, 114, 115, 32, 32, 115, 108, 105, 100, 101, 115, 32, 32], [59, 61, 43, 45, 42, 47, 60, 40, 41]]
section
variable (S : List xC) (ks : List xK) (Ts : List xT) (C : List xE) (Q : Option Value → xG → Prop)
/-- on to a place: at a cut the evaluation stops -/
def xm_on (rec : List xE → List Value → List Value → xG → Prop) (is : List xE) (L st : List Value) (g : xG) : Prop := match is with
  | (true, _) :: _ => xm_stop (rec is L st g)
  | _ => rec is L st g
def xm_step (rec : List xE → List Value → List Value → xG → Prop) (is : List xE) (L st : List Value) (g : xG) : Prop := match is with
  | [] => False
  | (_, _, _, i, a, b, v, sw) :: r => match i with
    | .iconst _ => xm_on rec r L (.int v :: st) g
    | .bipush _ => xm_on rec r L (.int v :: st) g
    | .sipush _ => xm_on rec r L (.int v :: st) g
    | .ldc _ => match a with
      | 0 => xm_on rec r L (.int v :: st) g
      | _ => xm_on rec r L (.ref (1000 + b) :: st) g
    | .getstatic _ => match b with
      | 0 => xm_on rec r L (.int 1 :: st) g
      | _ => xm_on rec r L (.null :: st) g ∧ xm_on rec r L (.ref 3000 :: st) g
    | .ldc_w _ => xm_on rec r L (.int v :: st) g
    | .lconst _ => xm_on rec r L (.long v.toInt64 :: st) g
    | .ldc2_w _ => xm_on rec r L (.long v.toInt64 :: st) g
    | .iload n => match xm_get L n with
      | .int x => xm_on rec r L (.int x :: st) g
      | _ => False
    | .iload_n n => match xm_get L n.val with
      | .int x => xm_on rec r L (.int x :: st) g
      | _ => False
    | .lload n => match xm_get L n with
      | .long x => xm_on rec r L (.long x :: st) g
      | _ => False
    | .lload_n n => match xm_get L n.val with
      | .long x => xm_on rec r L (.long x :: st) g
      | _ => False
    | .aload n => match xm_get L n with
      | .ref x => xm_on rec r L (.ref x :: st) g
      | _ => False
    | .aload_n n => match xm_get L n.val with
      | .ref x => xm_on rec r L (.ref x :: st) g
      | _ => False
    | .istore n => match st with
      | .int x :: st => xm_set L n (.int x) (fun L => xm_on rec r L st g)
      | _ => False
    | .istore_n n => match st with
      | .int x :: st => xm_set L n.val (.int x) (fun L => xm_on rec r L st g)
      | _ => False
    | .lstore n => match st with
      | .long x :: st => xm_set L n (.long x) (fun L => xm_set L (n + 1) (.retAddr 0) (fun L => xm_set L n (.long x) (fun L => xm_on rec r L st g)))
      | _ => False
    | .lstore_n n => match st with
      | .long x :: st => xm_set L n.val (.long x) (fun L => xm_set L (n.val + 1) (.retAddr 0) (fun L => xm_set L n.val (.long x) (fun L => xm_on rec r L st g)))
      | _ => False
    | .astore n => match st with
      | .ref x :: st => xm_set L n (.ref x) (fun L => xm_on rec r L st g)
      | _ => False
    | .astore_n n => match st with
      | .ref x :: st => xm_set L n.val (.ref x) (fun L => xm_on rec r L st g)
      | _ => False
    | .iinc n _ => match xm_get L n with
      | .int x => xm_set L n (.int (x + v)) (fun L => xm_on rec r L st g)
      | _ => False
    | .iadd => match st with
      | .int y :: .int x :: st => xm_on rec r L (.int (x + y) :: st) g
      | _ => False
    | .isub => match st with
      | .int y :: .int x :: st => xm_on rec r L (.int (x - y) :: st) g
      | _ => False
    | .imul => match st with
      | .int y :: .int x :: st => xm_on rec r L (.int (x * y) :: st) g
      | _ => False
    | .iand => match st with
      | .int y :: .int x :: st => xm_on rec r L (.int (x &&& y) :: st) g
      | _ => False
    | .ior => match st with
      | .int y :: .int x :: st => xm_on rec r L (.int (x ||| y) :: st) g
      | _ => False
    | .ixor => match st with
      | .int y :: .int x :: st => xm_on rec r L (.int (x ^^^ y) :: st) g
      | _ => False
    | .ishl => match st with
      | .int y :: .int x :: st => xm_on rec r L (.int (x <<< (y &&& 31)) :: st) g
      | _ => False
    | .ishr => match st with
      | .int y :: .int x :: st => xm_on rec r L (.int (x >>> (y &&& 31)) :: st) g
      | _ => False
    | .iushr => match st with
      | .int y :: .int x :: st => xm_on rec r L (.int (x.toUInt32 >>> (y.toUInt32 &&& Int32.toUInt32 31)).toInt32 :: st) g
      | _ => False
    | .idiv => match st with
      | .int y :: .int x :: st => ¬ y = 0 ∧ xm_on rec r L (.int (x / y) :: st) g
      | _ => False
    | .irem => match st with
      | .int y :: .int x :: st => ¬ y = 0 ∧ xm_on rec r L (.int (x - x / y * y) :: st) g
      | _ => False
    | .ineg => match st with
      | .int x :: st => xm_on rec r L (.int (-x) :: st) g
      | _ => False
    | .ladd => match st with
      | .long y :: .long x :: st => xm_on rec r L (.long (x + y) :: st) g
      | _ => False
    | .lsub => match st with
      | .long y :: .long x :: st => xm_on rec r L (.long (x - y) :: st) g
      | _ => False
    | .lmul => match st with
      | .long y :: .long x :: st => xm_on rec r L (.long (x * y) :: st) g
      | _ => False
    | .lcmp => match st with
      | .long y :: .long x :: st => xm_on rec r L (.int (lg_cmp x y) :: st) g
      | _ => False
    | .i2l => match st with
      | .int x :: st => xm_on rec r L (.long x.toInt64 :: st) g
      | _ => False
    | .l2i => match st with
      | .long x :: st => xm_on rec r L (.int x.toInt32 :: st) g
      | _ => False
    | .i2b => match st with
      | .int x :: st => xm_on rec r L (.int x.toInt8.toInt32 :: st) g
      | _ => False
    | .i2c => match st with
      | .int x :: st => xm_on rec r L (.int (x.toUInt32 % 65536).toInt32 :: st) g
      | _ => False
    | .dup => match st with
      | .int x :: st => xm_on rec r L (.int x :: .int x :: st) g
      | .ref x :: st => xm_on rec r L (.ref x :: .ref x :: st) g
      | _ => False
    | .dup2 => match st with
      | .int x :: .ref y :: st => xm_on rec r L (.int x :: .ref y :: .int x :: .ref y :: st) g
      | _ => False
    | .pop => match st with
      | .int _ :: st => xm_on rec r L st g
      | .ref _ :: st => xm_on rec r L st g
      | _ => False
    | .goto _ => xm_on rec (xm_drop a C) L st g
    | .ifCond .eq _ => match st with
      | .int x :: st => (x = 0 → xm_on rec (xm_drop a C) L st g) ∧ (¬ x = 0 → xm_on rec r L st g)
      | _ => False
    | .ifCond .ne _ => match st with
      | .int x :: st => (¬ x = 0 → xm_on rec (xm_drop a C) L st g) ∧ (x = 0 → xm_on rec r L st g)
      | _ => False
    | .ifCond .lt _ => match st with
      | .int x :: st => (x < 0 → xm_on rec (xm_drop a C) L st g) ∧ (0 ≤ x → xm_on rec r L st g)
      | _ => False
    | .ifCond .ge _ => match st with
      | .int x :: st => (0 ≤ x → xm_on rec (xm_drop a C) L st g) ∧ (x < 0 → xm_on rec r L st g)
      | _ => False
    | .ifCond .gt _ => match st with
      | .int x :: st => (0 < x → xm_on rec (xm_drop a C) L st g) ∧ (x ≤ 0 → xm_on rec r L st g)
      | _ => False
    | .ifCond .le _ => match st with
      | .int x :: st => (x ≤ 0 → xm_on rec (xm_drop a C) L st g) ∧ (0 < x → xm_on rec r L st g)
      | _ => False
    | .if_icmp .eq _ => match st with
      | .int y :: .int x :: st => (x = y → xm_on rec (xm_drop a C) L st g) ∧ (¬ x = y → xm_on rec r L st g)
      | _ => False
    | .if_icmp .ne _ => match st with
      | .int y :: .int x :: st => (¬ x = y → xm_on rec (xm_drop a C) L st g) ∧ (x = y → xm_on rec r L st g)
      | _ => False
    | .if_icmp .lt _ => match st with
      | .int y :: .int x :: st => (x < y → xm_on rec (xm_drop a C) L st g) ∧ (y ≤ x → xm_on rec r L st g)
      | _ => False
    | .if_icmp .ge _ => match st with
      | .int y :: .int x :: st => (y ≤ x → xm_on rec (xm_drop a C) L st g) ∧ (x < y → xm_on rec r L st g)
      | _ => False
    | .if_icmp .gt _ => match st with
      | .int y :: .int x :: st => (y < x → xm_on rec (xm_drop a C) L st g) ∧ (x ≤ y → xm_on rec r L st g)
      | _ => False
    | .if_icmp .le _ => match st with
      | .int y :: .int x :: st => (x ≤ y → xm_on rec (xm_drop a C) L st g) ∧ (y < x → xm_on rec r L st g)
      | _ => False
    | .tableswitch .. => match st with
      | .int x :: st => xm_sw x (fun t => xm_on rec (xm_drop t C) L st g) a sw
      | _ => False
    | .lookupswitch .. => match st with
      | .int x :: st => xm_sw x (fun t => xm_on rec (xm_drop t C) L st g) a sw
      | _ => False
    | .arraylength => match st with
      | .ref k :: st => match xm_nth S k with
        | .inl (0, n) => xm_on rec r L (.int (nI n) :: st) g
        | .inl (1, n) => xm_on rec r L (.int (nI n) :: st) g
        | .inl (2, n) => xm_on rec r L (.int (nI n) :: st) g
        | .inl (3, n) => xm_on rec r L (.int (nI n) :: st) g
        | .inl (9, _) => match Nat.ble 2000 k && Nat.ble k 2001 with
          | true => xm_on rec r L (.int (nI (xm_ln.getD (k - 2000) 0)) :: st) g
          | false => False
        | _ => False
      | _ => False
    | .getfield _ => match st with
      | .ref k :: st => match xm_nth S k with
        | .inr (ci, fs) => match Nat.beq ci a with
          | true => match xm_fld fs b with
            | (0, _) => xm_on rec r L (.int (g.1 k b) :: st) g
            | (1, t) => xm_on rec r L (.ref t :: st) g
            | (2, _) => xm_on rec r L (.int (g.1 k b) :: st) g
            | (3, t) => g.2.2 k b = t ∧ xm_on rec r L (.ref t :: st) g
            | (4, _) => ∃ t, g.2.2 k b = t ∧ xm_on rec r L (.ref t :: st) g
            | _ => False
          | false => False
        | .inl (9, _) => match Nat.beq a 100 with
          | true => match Nat.ble 1000 k && Nat.ble k 1001 with
            | true => match b with
              | 0 => xm_on rec r L (.ref (k + 1000) :: st) g
              | _ => xm_on rec r L (.int 0 :: st) g
            | false => False
          | false => False
        | _ => False
      | _ => False
    | .putfield _ => match st with
      | .int x :: .ref k :: st => match xm_nth S k with
        | .inr (ci, fs) => match Nat.beq ci a with
          | true => match xm_fld fs b with
            | (0, _) => xm_on rec r L st (xm_sI g k b x)
            | (2, _) => (x = 0 ∨ x = 1) ∧ xm_on rec r L st (xm_sI g k b x)
            | _ => False
          | false => False
        | _ => False
      | .ref y :: .ref k :: st => match xm_nth S k with
        | .inr (ci, fs) => match Nat.beq ci a with
          | true => match xm_fld fs b with
            | (3, _) => xm_on rec r L st (xm_sR g k b y)
            | (4, _) => xm_on rec r L st (xm_sR g k b y)
            | _ => False
          | false => False
        | _ => False
      | _ => False
    | .iaload => match st with
      | .int i :: .ref k :: st => match xm_nth S k with
        | .inl (0, n) => ∃ j : Nat, (j < n ∧ i = nI j) ∧ xm_on rec r L (.int (g.1 k j) :: st) g
        | _ => False
      | _ => False
    | .baload => match st with
      | .int i :: .ref k :: st => match xm_nth S k with
        | .inl (1, n) => ∃ j : Nat, (j < n ∧ i = nI j) ∧ xm_on rec r L (.int (g.1 k j) :: st) g
        | .inl (2, n) => ∃ j : Nat, (j < n ∧ i = nI j) ∧ xm_on rec r L (.int (g.1 k j) :: st) g
        | .inl (9, _) => match Nat.ble 2000 k && Nat.ble k 2001 with
          | true => ∃ j : Nat, (j < xm_ln.getD (k - 2000) 0 ∧ i = nI j) ∧ xm_on rec r L (.int ((xm_by.getD (k - 2000) []).getD j 0) :: st) g
          | false => False
        | _ => False
      | _ => False
    | .laload => match st with
      | .int i :: .ref k :: st => match xm_nth S k with
        | .inl (3, n) => ∃ j : Nat, (j < n ∧ i = nI j) ∧ xm_on rec r L (.long (g.2.1 k j) :: st) g
        | _ => False
      | _ => False
    | .iastore => match st with
      | .int x :: .int i :: .ref k :: st => match xm_nth S k with
        | .inl (0, n) => ∃ j : Nat, (j < n ∧ i = nI j) ∧ xm_on rec r L st (xm_sI g k j x)
        | _ => False
      | _ => False
    | .bastore => match st with
      | .int x :: .int i :: .ref k :: st => match xm_nth S k with
        | .inl (1, n) => ∃ j : Nat, (j < n ∧ i = nI j) ∧ xm_on rec r L st (xm_sI g k j x.toInt8.toInt32)
        | .inl (2, n) => ∃ j : Nat, (j < n ∧ i = nI j ∧ (x = 0 ∨ x = 1)) ∧ xm_on rec r L st (xm_sI g k j x)
        | _ => False
      | _ => False
    | .lastore => match st with
      | .long x :: .int i :: .ref k :: st => match xm_nth S k with
        | .inl (3, n) => ∃ j : Nat, (j < n ∧ i = nI j) ∧ xm_on rec r L st (xm_sL g k j x)
        | _ => False
      | _ => False
    | .invokevirtual _ => match xm_kth ks a with
      | (_, 0, n, b) => xm_pop n st [] (fun av st => match av with
      | .ref k :: _ => match xm_nth S k with
        | .inr (ci, _) => match Nat.beq ci b, Nat.ble (xm_cat st) 8 with
          | true, true => xm_tth Ts a av g (fun o g => match o with
            | none => xm_on rec r L st g
            | some x => xm_on rec r L (x :: st) g)
          | _, _ => False
        | _ => False
      | _ => False)
      | (_, 3, n, _) => xm_pop n st [] (fun av st => match av with
      | .ref k :: _ => match Nat.ble 1000 k && Nat.ble k 1001 with
        | true => match Nat.ble (xm_cat st) 8 with
          | true => xm_tth Ts a av g (fun o g => match o with
            | none => xm_on rec r L st g
            | some x => xm_on rec r L (x :: st) g)
          | false => False
        | false => False
      | _ => False)
      | _ => False
    | .invokestatic _ => match xm_kth ks a with
      | (_, 1, n, _) => xm_pop n st [] (fun av st => match Nat.ble (xm_cat st) 8 with
          | true => xm_tth Ts a av g (fun o g => match o with
            | none => xm_on rec r L st g
            | some x => xm_on rec r L (x :: st) g)
          | false => False)
      | (_, 2, _, _) => match st with
        | .int n :: .int dp :: .ref d :: .int sp :: .ref k :: st => match xm_nth S k, xm_nth S d, Nat.ble (xm_cat st) 8 with
          | .inl (0, n0), .inl (0, n1), true => ∃ sj dj nj : Nat, (sp = nI sj ∧ dp = nI dj ∧ n = nI nj ∧ sj + nj ≤ n0 ∧ dj + nj ≤ n1) ∧ xm_on rec r L st (xm_sA g d (va_cpy (g.1 k) (g.1 d) sj dj nj))
          | _, _, _ => False
        | _ => False
      | _ => False
    | .ireturn => match st with
      | [.int x] => match a with
        | 0 => Q (some (.int x)) g
        | 1 => (x = 0 ∨ x = 1) ∧ Q (some (.int x)) g
        | 2 => narrow .char (.int x) = .int x ∧ Q (some (.int x)) g
        | _ => narrow .byte (.int x) = .int x ∧ Q (some (.int x)) g
      | _ => False
    | .lreturn => match st with
      | [.long x] => Q (some (.long x)) g
      | _ => False
    | .return_ => match st with
      | [] => Q none g
      | _ => False
    | _ => False
/-- the least predicate that the steps keep: from here the code ends with Q -/
def xm_go (is : List xE) (L st : List Value) (g : xG) : Prop := ∀ P : List xE → List Value → List Value → xG → Prop, (∀ is L st g, xm_step S ks Ts C Q P is L st g → P is L st g) → P is L st g
def xm_run : Nat → List xE → List Value → List Value → xG → Prop
  | 0 => xm_go S ks Ts C Q
  | n + 1 => xm_step S ks Ts C Q (xm_run n)
end
