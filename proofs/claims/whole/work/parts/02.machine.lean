/-! The plain machine: what the class files' instructions do to rows of numbers. A memory: ints, longs, references (0: null, k + 1: cell k), the shapes of the cells, how long the script is. Cells 0 .. are made; 1000 .. are constants (never written); 2000 is the script. -/
abbrev gM : Type := (Nat → Nat → Int32) × (Nat → Nat → Int64) × (Nat → Nat → Nat) × List (Nat × Nat) × Nat
abbrev gCE : Type := Nat × Instr × Nat × Nat × Nat × Nat
abbrev gLs : Type := List (Option Value)
abbrev gRs : Type := Option (Option Value × gM)
def g_ref (k : Nat) : Value := match k with
  | 0 => .null
  | k + 1 => .ref k
def g_nth : gLs → Nat → Option Value
  | [], _ => none
  | v :: _, 0 => v
  | _ :: l, k + 1 => g_nth l k
def g_cut (u : Option Value) : Option Value := match u with
  | some (.long _) => none
  | some (.double _) => none
  | u => u
def g_put : gLs → Nat → Value → gLs
  | [], _, _ => []
  | _ :: l, 0, v => some v :: l
  | u :: l, 1, v => match l with
    | [] => [g_cut u]
    | _ :: l => g_cut u :: some v :: l
  | u :: l, k + 2, v => u :: g_put l (k + 1) v
def g_clr : gLs → Nat → gLs
  | [], _ => []
  | _ :: l, 0 => none :: l
  | u :: l, k + 1 => u :: g_clr l k
def g_put2 (l : gLs) (k : Nat) (v : Value) : gLs := g_clr (g_put l k v) (k + 1)
def g_args : List Value → gLs
  | [] => []
  | .long x :: l => some (.long x) :: none :: g_args l
  | .double x :: l => some (.double x) :: none :: g_args l
  | v :: l => some v :: g_args l
def g_pad : Nat → gLs → gLs
  | 0, _ => []
  | n + 1, [] => none :: g_pad n []
  | n + 1, v :: l => v :: g_pad n l
def g_up {α : Type} (f : Nat → Nat → α) (a i : Nat) (x : α) : Nat → Nat → α := fun b j => if b = a then (if j = i then x else f a j) else f b j
def g_all {α : Type} (f : Nat → Nat → α) (a : Nat) (x : α) : Nat → Nat → α := fun b j => if b = a then x else f b j
def g_sh1 : List (Nat × Nat) → Nat → Option (Nat × Nat)
  | [], _ => none
  | q :: _, 0 => some q
  | _ :: l, k + 1 => g_sh1 l k
def g_sh (cs : List (Nat × Nat)) (m : gM) (k : Nat) : Option (Nat × Nat) :=
  bif Nat.blt k 1000 then g_sh1 m.2.2.2.1 k else bif Nat.blt k 2000 then g_sh1 cs (k - 1000) else bif Nat.beq k 2000 then some (12, m.2.2.2.2) else none
def g_find (jt : List (Nat × List gCE)) (t : Nat) : List gCE := match jt with
  | [] => []
  | q :: l => bif Nat.beq q.1 t then q.2 else g_find l t
def g_pop : Nat → List Value → List Value → Option (List Value × List Value)
  | 0, st, acc => some (acc, st)
  | n + 1, v :: st, acc => g_pop n st (v :: acc)
  | _ + 1, [], _ => none
def g_bool (x : Int32) : Prop := x = 0 ∨ x = 1
def g_b1 (st : List Value) (k : Int32 → List Value → gRs) : gRs := match st with
  | .int x :: st => k x st
  | _ => none
def g_b2 (st : List Value) (k : Int32 → Int32 → List Value → gRs) : gRs := match st with
  | .int y :: .int x :: st => k x y st
  | _ => none
def g_l1 (st : List Value) (k : Int64 → List Value → gRs) : gRs := match st with
  | .long x :: st => k x st
  | _ => none
def g_l2 (st : List Value) (k : Int64 → Int64 → List Value → gRs) : gRs := match st with
  | .long y :: .long x :: st => k x y st
  | _ => none
def g_il (st : List Value) (k : Int64 → Int32 → List Value → gRs) : gRs := match st with
  | .int y :: .long x :: st => k x y st
  | _ => none
def g_ai (st : List Value) (k : Nat → Int32 → List Value → gRs) : gRs := match st with
  | .int i :: .ref a :: st => k a i st
  | _ => none
def g_aii (st : List Value) (k : Nat → Int32 → Int32 → List Value → gRs) : gRs := match st with
  | .int x :: .int i :: .ref a :: st => k a i x st
  | _ => none
def g_ail (st : List Value) (k : Nat → Int32 → Int64 → List Value → gRs) : gRs := match st with
  | .long x :: .int i :: .ref a :: st => k a i x st
  | _ => none
def g_a1 (st : List Value) (k : Nat → List Value → gRs) : gRs := match st with
  | .ref a :: st => k a st
  | _ => none
def g_ifc (c : Jvm.ClassFile.Cond) (x : Int32) (t f : gRs) : gRs := match c with
  | .eq => if x = 0 then t else f
  | .ne => if x = 0 then f else t
  | .lt => if x < 0 then t else f
  | .ge => if 0 ≤ x then t else f
  | .gt => if 0 < x then t else f
  | .le => if x ≤ 0 then t else f
def g_icmp (c : Jvm.ClassFile.Cond) (x y : Int32) (t f : gRs) : gRs := match c with
  | .eq => if x = y then t else f
  | .ne => if x = y then f else t
  | .lt => if x < y then t else f
  | .ge => if y ≤ x then t else f
  | .gt => if y < x then t else f
  | .le => if x ≤ y then t else f
def g_chk (i : Int32) (n : Nat) (k : gRs) : gRs := if i < 0 ∨ n ≤ i.toNatClampNeg then none else k
abbrev gK : Type := Option Nat → gLs → List Value → gM → gRs
/-- constants: the shapes of the cells from 1000 on, what their places hold -/
abbrev gC : Type := List (Nat × Nat) × (Nat → Nat → Int32) × (Nat → Nat → Nat) × Nat
def g_ldi (L : gLs) (i : Nat) (st : List Value) (m : gM) (k : gK) : gRs := match g_nth L i with
  | some (.int x) => k none L (.int x :: st) m
  | _ => none
def g_ldl (L : gLs) (i : Nat) (st : List Value) (m : gM) (k : gK) : gRs := match g_nth L i with
  | some (.long x) => k none L (.long x :: st) m
  | _ => none
def g_lda (L : gLs) (i : Nat) (st : List Value) (m : gM) (k : gK) : gRs := match g_nth L i with
  | some (.ref x) => k none L (.ref x :: st) m
  | _ => none
/-- a field, by its kind (0 int, 1 long, 2 reference, 3 boolean, 4 char) -/
def g_get (C : gC) (e : gCE) (L : gLs) (st : List Value) (m : gM) (k : gK) : gRs := g_a1 st fun o st =>
  match g_sh C.1 m o with
  | some (0, cl) => bif Nat.beq cl e.2.2.2.1 then (match e.2.2.2.2.2 with
    | 1 => k none L (.long (m.2.1 o e.2.2.2.2.1) :: st) m
    | 2 => k none L (g_ref (m.2.2.1 o e.2.2.2.2.1) :: st) m
    | _ => k none L (.int (m.1 o e.2.2.2.2.1) :: st) m) else none
  | some (10, cl) => bif Nat.beq cl e.2.2.2.1 then (match e.2.2.2.2.2 with
    | 1 => none
    | 2 => k none L (g_ref (C.2.2.1 o e.2.2.2.2.1) :: st) m
    | _ => k none L (.int (C.2.1 o e.2.2.2.2.1) :: st) m) else none
  | _ => none
/-- cells that are made, and constants -/
def g_wf (n : Nat) (v : Value) : Bool := match v with
  | .ref k => Nat.blt k n || Nat.ble 1000 k
  | _ => true
def g_wfL (n : Nat) : gLs → Bool
  | [] => true
  | none :: l => g_wfL n l
  | some v :: l => g_wf n v && g_wfL n l
def g_wfS (n : Nat) : List Value → Bool
  | [] => true
  | v :: l => g_wf n v && g_wfS n l
/-- where cells may still be made: what is held must be made -/
def g_old (C : gC) (L : gLs) (st : List Value) (m : gM) (k : gRs) : gRs := match C.2.2.2 with
  | 0 => k
  | _ + 1 => bif g_wfL m.2.2.2.1.length L && g_wfS m.2.2.2.1.length st then k else none
def g_set (C : gC) (e : gCE) (L : gLs) (st : List Value) (m : gM) (k : gK) : gRs := match st with
  | v :: .ref o :: st => (match g_sh C.1 m o with
    | some (0, cl) => bif Nat.beq cl e.2.2.2.1 then (match e.2.2.2.2.2, v with
      | 0, .int x => k none L st (g_up m.1 o e.2.2.2.2.1 x, m.2)
      | 1, .long x => k none L st (m.1, g_up m.2.1 o e.2.2.2.2.1 x, m.2.2)
      | 2, .ref x => bif g_wf m.2.2.2.1.length (.ref x) then k none L st (m.1, m.2.1, g_up m.2.2.1 o e.2.2.2.2.1 (x + 1), m.2.2.2) else none
      | 3, .int x => if x = 0 ∨ x = 1 then k none L st (g_up m.1 o e.2.2.2.2.1 x, m.2) else none
      | _, _ => none) else none
    | _ => none)
  | _ => none
/-- a number that stands in the code -/
def g_num (e : gCE) : Int32 := match e.2.2.2.2.2 with
  | 0 => Int32.ofNat e.2.2.2.1
  | _ => -(Int32.ofNat e.2.2.2.1)
def g_step (C : gC) (e : gCE) (L : gLs) (st : List Value) (m : gM) (k : gK) : gRs := match e.2.1 with
  | .iconst _ => k none L (.int (g_num e) :: st) m
  | .bipush _ => k none L (.int (g_num e) :: st) m
  | .sipush _ => k none L (.int (g_num e) :: st) m
  | .lconst _ => k none L (.long (Int64.ofNat e.2.2.2.1) :: st) m
  | .ldc _ => (match e.2.2.2.2.2 with
    | 2 => k none L (.ref e.2.2.2.1 :: st) m
    | _ => k none L (.int (g_num e) :: st) m)
  | .ldc_w _ => k none L (.int (g_num e) :: st) m
  | .ldc2_w _ => k none L (.long (Int64.ofNat e.2.2.2.1) :: st) m
  | .iload_n i => g_ldi L i st m k
  | .iload i => g_ldi L i st m k
  | .lload_n i => g_ldl L i st m k
  | .lload i => g_ldl L i st m k
  | .aload_n i => g_lda L i st m k
  | .aload i => g_lda L i st m k
  | .istore_n i => g_b1 st fun x st => bif Nat.blt i L.length then k none (g_put L i (.int x)) st m else none
  | .istore i => g_b1 st fun x st => bif Nat.blt i L.length then k none (g_put L i (.int x)) st m else none
  | .lstore_n i => g_l1 st fun x st => bif Nat.blt (i + 1) L.length then k none (g_put2 L i (.long x)) st m else none
  | .lstore i => g_l1 st fun x st => bif Nat.blt (i + 1) L.length then k none (g_put2 L i (.long x)) st m else none
  | .astore_n i => g_a1 st fun x st => bif Nat.blt i L.length then k none (g_put L i (.ref x)) st m else none
  | .astore i => g_a1 st fun x st => bif Nat.blt i L.length then k none (g_put L i (.ref x)) st m else none
  | .iinc i _ => (match g_nth L i with
    | some (.int x) => bif Nat.blt i L.length then k none (g_put L i (.int (x + g_num e))) st m else none
    | _ => none)
  | .iadd => g_b2 st fun x y st => k none L (.int (x + y) :: st) m
  | .isub => g_b2 st fun x y st => k none L (.int (x - y) :: st) m
  | .imul => g_b2 st fun x y st => k none L (.int (x * y) :: st) m
  | .idiv => g_b2 st fun x y st => if y = 0 then none else k none L (.int (x / y) :: st) m
  | .irem => g_b2 st fun x y st => if y = 0 then none else k none L (.int (x - x / y * y) :: st) m
  | .ineg => g_b1 st fun x st => k none L (.int (-x) :: st) m
  | .iand => g_b2 st fun x y st => k none L (.int (x &&& y) :: st) m
  | .ior => g_b2 st fun x y st => k none L (.int (x ||| y) :: st) m
  | .ixor => g_b2 st fun x y st => k none L (.int (x ^^^ y) :: st) m
  | .ishl => g_b2 st fun x y st => k none L (.int (x <<< (y &&& 31)) :: st) m
  | .ishr => g_b2 st fun x y st => k none L (.int (x >>> (y &&& 31)) :: st) m
  | .iushr => g_b2 st fun x y st => k none L (.int (x.toUInt32 >>> (y.toUInt32 &&& Int32.toUInt32 31)).toInt32 :: st) m
  | .ladd => g_l2 st fun x y st => k none L (.long (x + y) :: st) m
  | .lsub => g_l2 st fun x y st => k none L (.long (x - y) :: st) m
  | .lmul => g_l2 st fun x y st => k none L (.long (x * y) :: st) m
  | .ldiv => g_l2 st fun x y st => if y = 0 then none else k none L (.long (x / y) :: st) m
  | .lrem => g_l2 st fun x y st => if y = 0 then none else k none L (.long (x - x / y * y) :: st) m
  | .land => g_l2 st fun x y st => k none L (.long (x &&& y) :: st) m
  | .lor => g_l2 st fun x y st => k none L (.long (x ||| y) :: st) m
  | .lshl => g_il st fun x y st => k none L (.long (x <<< (y.toInt64 &&& 63)) :: st) m
  | .lshr => g_il st fun x y st => k none L (.long (x >>> (y.toInt64 &&& 63)) :: st) m
  | .lushr => g_il st fun x y st => k none L (.long (x.toUInt64 >>> (y.toInt64.toUInt64 &&& Int64.toUInt64 63)).toInt64 :: st) m
  | .lcmp => g_l2 st fun x y st => k none L (.int (lg_cmp x y) :: st) m
  | .i2l => g_b1 st fun x st => k none L (.long x.toInt64 :: st) m
  | .l2i => g_l1 st fun x st => k none L (.int x.toInt32 :: st) m
  | .i2c => g_b1 st fun x st => k none L (.int (x.toUInt32 % 65536).toInt32 :: st) m
  | .i2b => g_b1 st fun x st => k none L (.int x.toInt8.toInt32 :: st) m
  | .dup => (match st with
    | .int x :: st => k none L (.int x :: .int x :: st) m
    | .ref x :: st => k none L (.ref x :: .ref x :: st) m
    | _ => none)
  | .dup2 => (match st with
    | .int y :: .int x :: st => k none L (.int y :: .int x :: .int y :: .int x :: st) m
    | .int y :: .ref x :: st => k none L (.int y :: .ref x :: .int y :: .ref x :: st) m
    | _ => none)
  | .pop => (match st with
    | .int _ :: st => k none L st m
    | .ref _ :: st => k none L st m
    | _ => none)
  | .ifCond c _ => g_b1 st fun x st => g_ifc c x (k (some e.2.2.2.1) L st m) (k none L st m)
  | .if_icmp c _ => g_b2 st fun x y st => g_icmp c x y (k (some e.2.2.2.1) L st m) (k none L st m)
  | .goto _ => k (some e.2.2.2.1) L st m
  | .tableswitch d lo hi offs => g_b1 st fun x st => if x.toInt < lo ∨ hi < x.toInt then (if (e.1 : Int) + d < 0 then none else k (some ((e.1 : Int) + d).toNat) L st m) else (match offs[(x.toInt - lo).toNat]? with
    | some off => if (e.1 : Int) + off < 0 then none else k (some ((e.1 : Int) + off).toNat) L st m
    | none => none)
  | .arraylength => g_a1 st fun a st => (match g_sh C.1 m a with
    | some (1, n) => k none L (.int (Int32.ofNat n) :: st) m
    | some (2, n) => k none L (.int (Int32.ofNat n) :: st) m
    | some (3, n) => k none L (.int (Int32.ofNat n) :: st) m
    | some (4, n) => k none L (.int (Int32.ofNat n) :: st) m
    | some (11, n) => k none L (.int (Int32.ofNat n) :: st) m
    | some (12, n) => k none L (.int (Int32.ofNat n) :: st) m
    | some (13, n) => k none L (.int (Int32.ofNat n) :: st) m
    | _ => none)
  | .iaload => g_ai st fun a i st => (match g_sh C.1 m a with
    | some (1, n) => g_chk i n (k none L (.int (m.1 a i.toNatClampNeg) :: st) m)
    | some (11, n) => g_chk i n (k none L (.int (C.2.1 a i.toNatClampNeg) :: st) m)
    | some (12, n) => g_chk i n (k none L (.int (m.1 2000 i.toNatClampNeg) :: st) m)
    | _ => none)
  | .laload => g_ai st fun a i st => (match g_sh C.1 m a with
    | some (2, n) => g_chk i n (k none L (.long (m.2.1 a i.toNatClampNeg) :: st) m)
    | _ => none)
  | .caload => g_ai st fun a i st => (match g_sh C.1 m a with
    | some (3, n) => g_chk i n (k none L (.int (m.1 a i.toNatClampNeg) :: st) m)
    | _ => none)
  | .baload => g_ai st fun a i st => (match g_sh C.1 m a with
    | some (4, n) => g_chk i n (k none L (.int (m.1 a i.toNatClampNeg) :: st) m)
    | some (13, n) => g_chk i n (k none L (.int (C.2.1 a i.toNatClampNeg) :: st) m)
    | _ => none)
  | .iastore => g_aii st fun a i x st => (match g_sh C.1 m a with
    | some (1, n) => g_chk i n (k none L st (g_up m.1 a i.toNatClampNeg x, m.2))
    | _ => none)
  | .lastore => g_ail st fun a i x st => (match g_sh C.1 m a with
    | some (2, n) => g_chk i n (k none L st (m.1, g_up m.2.1 a i.toNatClampNeg x, m.2.2))
    | _ => none)
  | .castore => g_aii st fun a i x st => (match g_sh C.1 m a with
    | some (3, n) => g_chk i n (k none L st (g_up m.1 a i.toNatClampNeg (vp_nar .char x), m.2))
    | _ => none)
  | .bastore => g_aii st fun a i x st => (match g_sh C.1 m a with
    | some (4, n) => g_chk i n (k none L st (g_up m.1 a i.toNatClampNeg (vp_nar .boolean x), m.2))
    | _ => none)
  | .getfield _ => g_get C e L st m k
  | .putfield _ => g_set C e L st m k
  | .getstatic _ => (match e.2.2.2.2.2 with
    | 0 => k none L (.int (Int32.ofNat e.2.2.2.1) :: st) m
    | 2 => k none L (.float 0 :: st) m
    | _ => k none L (.ref e.2.2.2.1 :: st) m)
  | .new _ => bif Nat.blt 0 C.2.2.2 && Nat.blt m.2.2.2.1.length 1000 then g_old C L st m (k none L (.ref m.2.2.2.1.length :: st) (g_all m.1 m.2.2.2.1.length 0, g_all m.2.1 m.2.2.2.1.length 0, g_all m.2.2.1 m.2.2.2.1.length 0, m.2.2.2.1 ++ [(0, e.2.2.2.1)], m.2.2.2.2)) else none
  | .newarray _ => g_b1 st fun x st => if x < 0 ∨ 100000 ≤ x.toNatClampNeg then none else bif Nat.blt 0 C.2.2.2 && Nat.blt m.2.2.2.1.length 1000 then
      g_old C L st m (k none L (.ref m.2.2.2.1.length :: st) (g_all m.1 m.2.2.2.1.length 0, g_all m.2.1 m.2.2.2.1.length 0, g_all m.2.2.1 m.2.2.2.1.length 0, m.2.2.2.1 ++ [(e.2.2.2.1, x.toNatClampNeg)], m.2.2.2.2)) else none
  | _ => none
def g_cats : List Value → Nat
  | [] => 0
  | .long _ :: l => g_cats l + 2
  | .double _ :: l => g_cats l + 2
  | _ :: l => g_cats l + 1
def g_cpy {α : Type} (f g : Nat → α) (sp dp n : Nat) : Nat → α := fun k => if dp ≤ k ∧ k < dp + n then f (sp + (k - dp)) else g k
def g_row {α : Type} (f : Nat → Nat → α) (a : Nat) (r : Nat → α) : Nat → Nat → α := fun b j => if b = a then r j else f b j
abbrev gF : Type := Nat → List Value → gM → gRs
def g_bind (r : gRs) (k : Option Value → gM → gRs) : gRs := match r with
  | none => none
  | some (v, m) => k v m
/-- is the receiver of the kind that is named? -/
def g_recv (C : gC) (As : List Value) (m : gM) (cl : Nat) : Bool := match As with
  | .ref o :: _ => (match g_sh C.1 m o with
    | some (0, c) => Nat.beq c cl
    | some (10, c) => Nat.beq c cl
    | _ => false)
  | _ => false
/-- calls, by kinds: 0 virtual, 1 virtual of a nest mate, 2 static, 3 static of a nest mate, 4 a constructor, 5 a nest mate's; 6 Object's constructor, 7 arraycopy, 8 max, 9 min, 10 abs -/
def g_inv (C : gC) (call : gF) (e : gCE) (L : gLs) (st : List Value) (m : gM) (k : gK) : gRs := match e.2.2.2.2.2 % 16 with
  | 6 => g_a1 st fun _ st => bif Nat.ble (g_cats st) 8 then k none L st m else none
  | 7 => (match st with
    | .int n :: .int dp :: .ref d :: .int sp :: .ref a :: st => (match g_sh C.1 m a, g_sh C.1 m d with
      | some (1, na), some (1, nd) => if (sp < 0 ∨ dp < 0 ∨ n < 0) ∨ (na < sp.toNatClampNeg + n.toNatClampNeg ∨ nd < dp.toNatClampNeg + n.toNatClampNeg) then none else
          bif Nat.beq a d then none else bif Nat.ble (g_cats st) 8 then k none L st (g_row m.1 d (g_cpy (m.1 a) (m.1 d) sp.toNatClampNeg dp.toNatClampNeg n.toNatClampNeg), m.2) else none
      | _, _ => none)
    | _ => none)
  | 8 => g_b2 st fun x y st => bif Nat.ble (g_cats st) 8 then k none L (.int (if x < y then y else x) :: st) m else none
  | 9 => g_b2 st fun x y st => bif Nat.ble (g_cats st) 8 then k none L (.int (if y < x then y else x) :: st) m else none
  | 10 => g_b1 st fun x st => bif Nat.ble (g_cats st) 8 then k none L (.int (if 0 ≤ x then x else 0 - x) :: st) m else none
  | 2 => (match g_pop e.2.2.2.2.1 st [] with
    | some (As, st) => bif Nat.ble (g_cats st) 8 then g_old C L st m (g_bind (call e.2.2.2.1 As m) fun v m => k none L (v.toList ++ st) m) else none
    | none => none)
  | 3 => (match g_pop e.2.2.2.2.1 st [] with
    | some (As, st) => bif Nat.ble (g_cats st) 8 then g_old C L st m (g_bind (call e.2.2.2.1 As m) fun v m => k none L (v.toList ++ st) m) else none
    | none => none)
  | _ => (match g_pop (e.2.2.2.2.1 + 1) st [] with
    | some (As, st) => bif g_recv C As m (e.2.2.2.2.2 / 16) then bif Nat.ble (g_cats st) 8 then g_old C L st m (g_bind (call e.2.2.2.1 As m) fun v m => k none L (v.toList ++ st) m) else none else none
    | none => none)
def g_op (C : gC) (call : gF) (e : gCE) (L : gLs) (st : List Value) (m : gM) (k : gK) : gRs := match e.2.1 with
  | .ireturn => (match st with
    | [.int x] => (match e.2.2.2.2.2 with
      | 0 => some (some (.int x), m)
      | 3 => if x = 0 ∨ x = 1 then some (some (.int x), m) else none
      | _ => if (x.toUInt32 % 65536).toInt32 = x then some (some (.int x), m) else none)
    | _ => none)
  | .lreturn => (match st with
    | [.long x] => some (some (.long x), m)
    | _ => none)
  | .return_ => (match st with
    | [] => some (none, m)
    | _ => none)
  | .invokevirtual _ => g_inv C call e L st m k
  | .invokespecial _ => g_inv C call e L st m k
  | .invokestatic _ => g_inv C call e L st m k
  | _ => g_step C e L st m k
noncomputable def g_run (C : gC) (call : gF) (jt : List (Nat × List gCE)) (n : Nat) : List gCE → gLs → List Value → gM → gRs :=
  Nat.rec (motive := fun _ => List gCE → gLs → List Value → gM → gRs) (fun _ _ _ _ => none) (fun _ ih cur L st m => match cur with
    | [] => none
    | e :: nx => g_op C call e L st m fun j L st m => match j with
      | none => ih nx L st m
      | some t => ih (g_find jt t) L st m) n
/-- a method: its name, its bytes, its locals, its answer's type, its code, where its jumps go -/
abbrev gMD : Type := MethodName × ByteArray × Nat × Option FieldType × List gCE × List (Nat × List gCE)
noncomputable def g_exec (C : gC) (T : Nat → Option gMD) (n d : Nat) : gF :=
  Nat.rec (motive := fun _ => gF) (fun _ _ _ => none) (fun _ ih i As m => match T i with
    | none => none
    | some md => bif Nat.ble (g_args As).length md.2.2.1 then g_run C ih md.2.2.2.2.2 n md.2.2.2.2.1 (g_pad md.2.2.1 (g_args As)) [] m else none) d
