/-! The machine of whole numbers: the plain machine's rows over Int, with what must not overflow as checks of its own. -/
abbrev iV : Type := Option (Int ⊕ Int ⊕ Nat)
abbrev gI : Type := (Nat → Int → Int) × (Nat → Int → Int)
abbrev iM : Type := gI × (Nat → Nat → Nat)
abbrev iLs : Type := List (Option iV)
abbrev iRs : Type := Option (Option iV × iM)
abbrev iK : Type := Option Nat → iLs → List iV → iM → iRs
abbrev iF : Type := Nat → List iV → iM → iRs
abbrev vI (x : Int) : iV := some (.inl x)
abbrev vJ (x : Int) : iV := some (.inr (.inl x))
abbrev vR (k : Nat) : iV := some (.inr (.inr k))
def rg (x : Int) : Prop := -2147483648 ≤ x ∧ x ≤ 2147483647
def rgl (x : Int) : Prop := -9223372036854775808 ≤ x ∧ x ≤ 9223372036854775807
def iov {α : Type} (x : Int) (k : Option α) : Option α := if -2147483648 ≤ x ∧ x ≤ 2147483647 then k else none
def iol {α : Type} (x : Int) (k : Option α) : Option α := if -9223372036854775808 ≤ x ∧ x ≤ 9223372036854775807 then k else none
def ick {α : Type} (i n : Int) (k : Option α) : Option α := if 0 ≤ i ∧ i < n then k else none
def idv {α : Type} (x y : Int) (k : Option α) : Option α := if 0 ≤ x ∧ 0 < y then k else none
def ib1 {α : Type} (x : Int) (k : Option α) : Option α := if x = 0 ∨ x = 1 then k else none
def ich {α : Type} (x : Int) (k : Option α) : Option α := if 0 ≤ x ∧ x < 65536 then k else none
def icp {α : Type} (sp dp n na nd : Int) (k : Option α) : Option α := if 0 ≤ sp ∧ 0 ≤ dp ∧ 0 ≤ n ∧ sp + n ≤ na ∧ dp + n ≤ nd then k else none
def i_and (x y : Int) : Int := (Int32.ofInt x &&& Int32.ofInt y).toInt
def i_or (x y : Int) : Int := (Int32.ofInt x ||| Int32.ofInt y).toInt
def i_xor (x y : Int) : Int := (Int32.ofInt x ^^^ Int32.ofInt y).toInt
def i_shl (x y : Int) : Int := (Int32.ofInt x <<< (Int32.ofInt y &&& 31)).toInt
def i_shr (x y : Int) : Int := (Int32.ofInt x >>> (Int32.ofInt y &&& 31)).toInt
def i_ushr (x y : Int) : Int := ((Int32.ofInt x).toUInt32 >>> ((Int32.ofInt y).toUInt32 &&& Int32.toUInt32 31)).toInt32.toInt
def j_and (x y : Int) : Int := (Int64.ofInt x &&& Int64.ofInt y).toInt
def j_or (x y : Int) : Int := (Int64.ofInt x ||| Int64.ofInt y).toInt
def j_shl (x y : Int) : Int := (Int64.ofInt x <<< ((Int32.ofInt y).toInt64 &&& 63)).toInt
def j_shr (x y : Int) : Int := (Int64.ofInt x >>> ((Int32.ofInt y).toInt64 &&& 63)).toInt
def j_ushr (x y : Int) : Int := ((Int64.ofInt x).toUInt64 >>> ((Int32.ofInt y).toInt64.toUInt64 &&& Int64.toUInt64 63)).toInt64.toInt
def i_cmp (x y : Int) : Int := if y < x then 1 else if x = y then 0 else -1
def iup (f : Nat → Int → Int) (a : Nat) (i x : Int) : Nat → Int → Int := fun b j => if b = a ∧ j = i then x else f b j
def irw (f : Nat → Int → Int) (a d : Nat) (sp dp n : Int) : Nat → Int → Int := fun b j => if b = d then (if dp ≤ j ∧ j < dp + n then f a (sp + (j - dp)) else f d j) else f b j
def iw (s : gI) (a : Nat) (i x : Int) : gI := (iup s.1 a i x, s.2)
def iwl (s : gI) (a : Nat) (i x : Int) : gI := (s.1, iup s.2 a i x)
def icw (s : gI) (a d : Nat) (sp dp n : Int) : gI := (irw s.1 a d sp dp n, s.2)
def i_cin : List (List Int) := [[0, -1, 0, 1, -1, 1, -1, 0, 1], [0, -1, -1, -1, 0, 0, 1, 1, 1], [0, -1, 0, 1, -1, 1, -1, 0, 1], [0, -1, 0, 1, -1, 1, -1, 0, 1], [0, -1, 0, 1, -1, 1, -1, 0, 1], [0, -1, 0, 1, -1, 1, -1, 0, 1], [0, -1, 0, 1, -1, 1, -1, 0, 1], [0, -1, 0, 1, -1, 1, -1, 0, 1], [0, -1, 0, 1, -1, 1, -1, 0, 1], [0, -1, 0, 1, -1, 1, -1, 0, 1], [0, 0], [110, 111, 32, 115, 117, 99, 104, 32, 116, 104, 114, 111, 119], [0, 0], [110, 111, 32, 116, 104, 114, 111, 119, 32, 116, 111, 32, 99, 104, 111, 111, 115, 101], [0, 0], [110, 111, 32, 115, 117, 99, 104, 32, 97, 110, 115, 119, 101, 114], [0, 0], [108, 111, 115, 116], [0, 0], [118, 97, 108, 117, 101], [0, 0], [100, 97, 121, 115], [0, 0], [110, 111, 116], [0, 0], [97, 110, 100], [0, 0], [111, 114], [0, 0], [114, 111, 111, 102], [0, 0], [114, 111, 119], [0, 0], [102, 100, 117, 108, 114, 109, 103, 112, 99], [0, 0], [40, 41, 60, 61, 43, 45, 42, 59], [0, 0], [112, 101, 114, 115, 111, 110], [0, 0], [116, 104, 105, 110, 103], [0, 0], [115, 104, 111, 116], [0, 0], [110, 101, 116], [0, 0], [119, 105, 110, 100, 111, 119], [0, 0], [102, 105, 114, 115, 116], [0, 0], [116, 101, 109, 112, 101, 114], [0, 0], [100, 97, 109, 97, 103, 101], [0, 0], [97, 114, 109], [0, 0], [111, 102], [0, 0], [119, 111, 114, 116, 104], [0, 0], [108, 101, 102, 116], [0, 0], [114, 105, 103, 104, 116], [0, 0], [117, 112], [0, 0], [116, 105, 109, 101, 115], [0, 0], [114, 101, 97, 99, 104], [0, 0], [98, 97, 108, 108], [0, 0], [115, 104, 111, 101], [0, 0], [102, 114, 105, 115, 98, 101, 101], [0, 0], [115, 116, 105, 99, 107], [0, 0], [110, 111, 116], [0, 0], [97, 110, 100], [0, 0], [111, 114]]
theorem i_c_ex : ∃ f : Nat → Int → Int, ∀ k i, f k i = (i_cin.getD (k - 1000) []).getD i.toNat 0 := ⟨fun k i => (i_cin.getD (k - 1000) []).getD i.toNat 0, fun _ _ => rfl⟩
noncomputable def i_c : Nat → Int → Int := Classical.choose i_c_ex
theorem i_c_def (k : Nat) (i : Int) : i_c k i = (i_cin.getD (k - 1000) []).getD i.toNat 0 := Classical.choose_spec i_c_ex k i
def i_nth : iLs → Nat → Option iV
  | [], _ => none
  | v :: _, 0 => v
  | _ :: l, k + 1 => i_nth l k
def i_cut (u : Option iV) : Option iV := match u with
  | some (some (.inr (.inl _))) => none
  | u => u
def i_put : iLs → Nat → iV → iLs
  | [], _, _ => []
  | _ :: l, 0, v => some v :: l
  | u :: l, 1, v => match l with
    | [] => [i_cut u]
    | _ :: l => i_cut u :: some v :: l
  | u :: l, k + 2, v => u :: i_put l (k + 1) v
def i_clr : iLs → Nat → iLs
  | [], _ => []
  | _ :: l, 0 => none :: l
  | u :: l, k + 1 => u :: i_clr l k
def i_put2 (l : iLs) (k : Nat) (v : iV) : iLs := i_clr (i_put l k v) (k + 1)
def i_args : List iV → iLs
  | [] => []
  | some (.inr (.inl x)) :: l => some (vJ x) :: none :: i_args l
  | v :: l => some v :: i_args l
def i_pad : Nat → iLs → iLs
  | 0, _ => []
  | n + 1, [] => none :: i_pad n []
  | n + 1, v :: l => v :: i_pad n l
def i_pop : Nat → List iV → List iV → Option (List iV × List iV)
  | 0, st, acc => some (acc, st)
  | n + 1, v :: st, acc => i_pop n st (v :: acc)
  | _ + 1, [], _ => none
def i_cats : List iV → Nat
  | [] => 0
  | some (.inr (.inl _)) :: l => i_cats l + 2
  | _ :: l => i_cats l + 1
def i_b1 (st : List iV) (k : Int → List iV → iRs) : iRs := match st with
  | some (.inl x) :: st => k x st
  | _ => none
def i_b2 (st : List iV) (k : Int → Int → List iV → iRs) : iRs := match st with
  | some (.inl y) :: some (.inl x) :: st => k x y st
  | _ => none
def i_l1 (st : List iV) (k : Int → List iV → iRs) : iRs := match st with
  | some (.inr (.inl x)) :: st => k x st
  | _ => none
def i_l2 (st : List iV) (k : Int → Int → List iV → iRs) : iRs := match st with
  | some (.inr (.inl y)) :: some (.inr (.inl x)) :: st => k x y st
  | _ => none
def i_il (st : List iV) (k : Int → Int → List iV → iRs) : iRs := match st with
  | some (.inl y) :: some (.inr (.inl x)) :: st => k x y st
  | _ => none
def i_ai (st : List iV) (k : Nat → Int → List iV → iRs) : iRs := match st with
  | some (.inl i) :: some (.inr (.inr a)) :: st => k a i st
  | _ => none
def i_aii (st : List iV) (k : Nat → Int → Int → List iV → iRs) : iRs := match st with
  | some (.inl x) :: some (.inl i) :: some (.inr (.inr a)) :: st => k a i x st
  | _ => none
def i_ail (st : List iV) (k : Nat → Int → Int → List iV → iRs) : iRs := match st with
  | some (.inr (.inl x)) :: some (.inl i) :: some (.inr (.inr a)) :: st => k a i x st
  | _ => none
def i_a1 (st : List iV) (k : Nat → List iV → iRs) : iRs := match st with
  | some (.inr (.inr a)) :: st => k a st
  | _ => none
def i_ifc (c : Jvm.ClassFile.Cond) (x : Int) (t f : iRs) : iRs := match c with
  | .eq => if x = 0 then t else f
  | .ne => if x = 0 then f else t
  | .lt => if x < 0 then t else f
  | .ge => if 0 ≤ x then t else f
  | .gt => if 0 < x then t else f
  | .le => if x ≤ 0 then t else f
def i_icmp (c : Jvm.ClassFile.Cond) (x y : Int) (t f : iRs) : iRs := match c with
  | .eq => if x = y then t else f
  | .ne => if x = y then f else t
  | .lt => if x < y then t else f
  | .ge => if y ≤ x then t else f
  | .gt => if y < x then t else f
  | .le => if x ≤ y then t else f
/-- sums and products, checked; where ints wrap, wrapped -/
def i_ar {α : Type} (wr : Bool) (x : Int) (k : Int → Option α) : Option α := match wr with
  | true => k (x.bmod 4294967296)
  | false => iov x (k x)
def i_ldi (L : iLs) (i : Nat) (st : List iV) (m : iM) (k : iK) : iRs := match i_nth L i with
  | some (some (.inl x)) => k none L (vI x :: st) m
  | _ => none
def i_ldl (L : iLs) (i : Nat) (st : List iV) (m : iM) (k : iK) : iRs := match i_nth L i with
  | some (some (.inr (.inl x))) => k none L (vJ x :: st) m
  | _ => none
def i_lda (L : iLs) (i : Nat) (st : List iV) (m : iM) (k : iK) : iRs := match i_nth L i with
  | some (some (.inr (.inr x))) => k none L (vR x :: st) m
  | _ => none
/-- the plain memory that a memory of whole numbers stands for -/
def cM (L : Nat) (m : iM) : gM := (fun a j => Int32.ofInt (m.1.1 a j), fun a j => Int64.ofInt (m.1.2 a j), m.2, g_shp, L)
def i_sh (L : Nat) (m : iM) (k : Nat) : Option (Nat × Nat) := g_sh (g_C 0).1 (cM L m) k
noncomputable def i_get (L : Nat) (e : gCE) (Ls : iLs) (st : List iV) (m : iM) (k : iK) : iRs := i_a1 st fun o st =>
  match i_sh L m o with
  | some (0, cl) => bif Nat.beq cl e.2.2.2.1 then (match e.2.2.2.2.2 with
    | 1 => k none Ls (vJ (m.1.2 o e.2.2.2.2.1) :: st) m
    | 2 => (match m.2 o e.2.2.2.2.1 with
      | 0 => none
      | x + 1 => k none Ls (vR x :: st) m)
    | _ => k none Ls (vI (m.1.1 o e.2.2.2.2.1) :: st) m) else none
  | some (10, cl) => bif Nat.beq cl e.2.2.2.1 then (match e.2.2.2.2.2 with
    | 1 => none
    | 2 => (match (g_C 0).2.2.1 o e.2.2.2.2.1 with
      | 0 => none
      | x + 1 => k none Ls (vR x :: st) m)
    | _ => k none Ls (vI (i_c o e.2.2.2.2.1) :: st) m) else none
  | _ => none
def i_set (L : Nat) (e : gCE) (Ls : iLs) (st : List iV) (m : iM) (k : iK) : iRs := match st with
  | v :: some (.inr (.inr o)) :: st => (match i_sh L m o with
    | some (0, cl) => bif Nat.beq cl e.2.2.2.1 then (match e.2.2.2.2.2, v with
      | 0, some (.inl x) => k none Ls st (iw m.1 o e.2.2.2.2.1 x, m.2)
      | 1, some (.inr (.inl x)) => k none Ls st (iwl m.1 o e.2.2.2.2.1 x, m.2)
      | 2, some (.inr (.inr x)) => bif g_wf 82 (.ref x) then k none Ls st (m.1, g_up m.2 o e.2.2.2.2.1 (x + 1)) else none
      | 3, some (.inl x) => ib1 x (k none Ls st (iw m.1 o e.2.2.2.2.1 x, m.2))
      | _, _ => none) else none
    | _ => none)
  | _ => none
def i_num (e : gCE) : Int := match e.2.2.2.2.2 with
  | 0 => (e.2.2.2.1 : Int)
  | _ => -(e.2.2.2.1 : Int)
noncomputable def i_step (wr : Bool) (L : Nat) (e : gCE) (Ls : iLs) (st : List iV) (m : iM) (k : iK) : iRs := match e.2.1 with
  | .iconst _ => k none Ls (vI (i_num e) :: st) m
  | .bipush _ => k none Ls (vI (i_num e) :: st) m
  | .sipush _ => k none Ls (vI (i_num e) :: st) m
  | .lconst _ => k none Ls (vJ (e.2.2.2.1 : Int) :: st) m
  | .ldc _ => (match e.2.2.2.2.2 with
    | 2 => k none Ls (vR e.2.2.2.1 :: st) m
    | _ => k none Ls (vI (i_num e) :: st) m)
  | .ldc_w _ => k none Ls (vI (i_num e) :: st) m
  | .ldc2_w _ => k none Ls (vJ (e.2.2.2.1 : Int) :: st) m
  | .iload_n i => i_ldi Ls i st m k
  | .iload i => i_ldi Ls i st m k
  | .lload_n i => i_ldl Ls i st m k
  | .lload i => i_ldl Ls i st m k
  | .aload_n i => i_lda Ls i st m k
  | .aload i => i_lda Ls i st m k
  | .istore_n i => i_b1 st fun x st => bif Nat.blt i Ls.length then k none (i_put Ls i (vI x)) st m else none
  | .istore i => i_b1 st fun x st => bif Nat.blt i Ls.length then k none (i_put Ls i (vI x)) st m else none
  | .astore_n i => i_a1 st fun x st => bif Nat.blt i Ls.length then k none (i_put Ls i (vR x)) st m else none
  | .astore i => i_a1 st fun x st => bif Nat.blt i Ls.length then k none (i_put Ls i (vR x)) st m else none
  | .lstore_n i => i_l1 st fun x st => bif Nat.blt (i + 1) Ls.length then k none (i_put2 Ls i (vJ x)) st m else none
  | .lstore i => i_l1 st fun x st => bif Nat.blt (i + 1) Ls.length then k none (i_put2 Ls i (vJ x)) st m else none
  | .iinc i _ => (match i_nth Ls i with
    | some (some (.inl x)) => bif Nat.blt i Ls.length then iov (x + i_num e) (k none (i_put Ls i (vI (x + i_num e))) st m) else none
    | _ => none)
  | .iadd => i_b2 st fun x y st => i_ar wr (x + y) fun z => k none Ls (vI z :: st) m
  | .isub => i_b2 st fun x y st => i_ar wr (x - y) fun z => k none Ls (vI z :: st) m
  | .imul => i_b2 st fun x y st => i_ar wr (x * y) fun z => k none Ls (vI z :: st) m
  | .idiv => i_b2 st fun x y st => idv x y (k none Ls (vI (x / y) :: st) m)
  | .irem => i_b2 st fun x y st => idv x y (k none Ls (vI (x % y) :: st) m)
  | .ineg => i_b1 st fun x st => iov (-x) (k none Ls (vI (-x) :: st) m)
  | .iand => i_b2 st fun x y st => k none Ls (vI (i_and x y) :: st) m
  | .ior => i_b2 st fun x y st => k none Ls (vI (i_or x y) :: st) m
  | .ixor => i_b2 st fun x y st => k none Ls (vI (i_xor x y) :: st) m
  | .ishl => i_b2 st fun x y st => k none Ls (vI (i_shl x y) :: st) m
  | .ishr => i_b2 st fun x y st => k none Ls (vI (i_shr x y) :: st) m
  | .iushr => i_b2 st fun x y st => k none Ls (vI (i_ushr x y) :: st) m
  | .ladd => i_l2 st fun x y st => iol (x + y) (k none Ls (vJ (x + y) :: st) m)
  | .lsub => i_l2 st fun x y st => iol (x - y) (k none Ls (vJ (x - y) :: st) m)
  | .lmul => i_l2 st fun x y st => iol (x * y) (k none Ls (vJ (x * y) :: st) m)
  | .ldiv => i_l2 st fun x y st => idv x y (k none Ls (vJ (x / y) :: st) m)
  | .lrem => i_l2 st fun x y st => idv x y (k none Ls (vJ (x % y) :: st) m)
  | .land => i_l2 st fun x y st => k none Ls (vJ (j_and x y) :: st) m
  | .lor => i_l2 st fun x y st => k none Ls (vJ (j_or x y) :: st) m
  | .lshl => i_il st fun x y st => k none Ls (vJ (j_shl x y) :: st) m
  | .lshr => i_il st fun x y st => k none Ls (vJ (j_shr x y) :: st) m
  | .lushr => i_il st fun x y st => k none Ls (vJ (j_ushr x y) :: st) m
  | .lcmp => i_l2 st fun x y st => k none Ls (vI (i_cmp x y) :: st) m
  | .i2l => i_b1 st fun x st => k none Ls (vJ x :: st) m
  | .l2i => i_l1 st fun x st => k none Ls (vI (x.bmod 4294967296) :: st) m
  | .i2c => i_b1 st fun x st => ich x (k none Ls (vI x :: st) m)
  | .i2b => i_b1 st fun x st => ick x 128 (k none Ls (vI x :: st) m)
  | .dup => (match st with
    | some (.inl x) :: st => k none Ls (vI x :: vI x :: st) m
    | some (.inr (.inr x)) :: st => k none Ls (vR x :: vR x :: st) m
    | _ => none)
  | .dup2 => (match st with
    | some (.inl y) :: some (.inl x) :: st => k none Ls (vI y :: vI x :: vI y :: vI x :: st) m
    | some (.inl y) :: some (.inr (.inr x)) :: st => k none Ls (vI y :: vR x :: vI y :: vR x :: st) m
    | _ => none)
  | .pop => (match st with
    | some (.inl _) :: st => k none Ls st m
    | some (.inr (.inr _)) :: st => k none Ls st m
    | _ => none)
  | .ifCond c _ => i_b1 st fun x st => i_ifc c x (k (some e.2.2.2.1) Ls st m) (k none Ls st m)
  | .if_icmp c _ => i_b2 st fun x y st => i_icmp c x y (k (some e.2.2.2.1) Ls st m) (k none Ls st m)
  | .goto _ => k (some e.2.2.2.1) Ls st m
  | .tableswitch d lo hi offs => i_b1 st fun x st => if x < lo ∨ hi < x then (if (e.1 : Int) + d < 0 then none else k (some ((e.1 : Int) + d).toNat) Ls st m) else (match offs[(x - lo).toNat]? with
    | some off => if (e.1 : Int) + off < 0 then none else k (some ((e.1 : Int) + off).toNat) Ls st m
    | none => none)
  | .arraylength => i_a1 st fun a st => (match i_sh L m a with
    | some (1, n) => iov n (k none Ls (vI n :: st) m)
    | some (2, n) => iov n (k none Ls (vI n :: st) m)
    | some (3, n) => iov n (k none Ls (vI n :: st) m)
    | some (4, n) => iov n (k none Ls (vI n :: st) m)
    | some (11, n) => iov n (k none Ls (vI n :: st) m)
    | some (12, n) => iov n (k none Ls (vI n :: st) m)
    | some (13, n) => iov n (k none Ls (vI n :: st) m)
    | _ => none)
  | .iaload => i_ai st fun a i st => (match i_sh L m a with
    | some (1, n) => ick i n (k none Ls (vI (m.1.1 a i) :: st) m)
    | some (11, n) => ick i n (k none Ls (vI (i_c a i) :: st) m)
    | some (12, n) => ick i n (k none Ls (vI (m.1.1 2000 i) :: st) m)
    | _ => none)
  | .laload => i_ai st fun a i st => (match i_sh L m a with
    | some (2, n) => ick i n (k none Ls (vJ (m.1.2 a i) :: st) m)
    | _ => none)
  | .caload => i_ai st fun a i st => (match i_sh L m a with
    | some (3, n) => ick i n (k none Ls (vI (m.1.1 a i) :: st) m)
    | _ => none)
  | .baload => i_ai st fun a i st => (match i_sh L m a with
    | some (4, n) => ick i n (k none Ls (vI (m.1.1 a i) :: st) m)
    | some (13, n) => ick i n (k none Ls (vI (i_c a i) :: st) m)
    | _ => none)
  | .iastore => i_aii st fun a i x st => (match i_sh L m a with
    | some (1, n) => ick i n (k none Ls st (iw m.1 a i x, m.2))
    | _ => none)
  | .lastore => i_ail st fun a i x st => (match i_sh L m a with
    | some (2, n) => ick i n (k none Ls st (iwl m.1 a i x, m.2))
    | _ => none)
  | .castore => i_aii st fun a i x st => (match i_sh L m a with
    | some (3, n) => ick i n (ich x (k none Ls st (iw m.1 a i x, m.2)))
    | _ => none)
  | .bastore => i_aii st fun a i x st => (match i_sh L m a with
    | some (4, n) => ick i n (ib1 x (k none Ls st (iw m.1 a i x, m.2)))
    | _ => none)
  | .getfield _ => i_get L e Ls st m k
  | .putfield _ => i_set L e Ls st m k
  | .getstatic _ => (match e.2.2.2.2.2 with
    | 0 => k none Ls (vI (e.2.2.2.1 : Int) :: st) m
    | 2 => k none Ls (none :: st) m
    | _ => k none Ls (vR e.2.2.2.1 :: st) m)
  | _ => none
def i_bind (r : iRs) (k : Option iV → iM → iRs) : iRs := match r with
  | none => none
  | some (v, m) => k v m
def i_recv (L : Nat) (As : List iV) (m : iM) (cl : Nat) : Bool := match As with
  | some (.inr (.inr o)) :: _ => (match i_sh L m o with
    | some (0, c) => Nat.beq c cl
    | some (10, c) => Nat.beq c cl
    | _ => false)
  | _ => false
def i_inv (L : Nat) (call : iF) (e : gCE) (Ls : iLs) (st : List iV) (m : iM) (k : iK) : iRs := match e.2.2.2.2.2 % 16 with
  | 6 => i_a1 st fun _ st => bif Nat.ble (i_cats st) 8 then k none Ls st m else none
  | 7 => (match st with
    | some (.inl n) :: some (.inl dp) :: some (.inr (.inr d)) :: some (.inl sp) :: some (.inr (.inr a)) :: st => (match i_sh L m a, i_sh L m d with
      | some (1, na), some (1, nd) => icp sp dp n na nd (bif Nat.beq a d then none else bif Nat.ble (i_cats st) 8 then k none Ls st (icw m.1 a d sp dp n, m.2) else none)
      | _, _ => none)
    | _ => none)
  | 8 => i_b2 st fun x y st => bif Nat.ble (i_cats st) 8 then k none Ls (vI (if x < y then y else x) :: st) m else none
  | 9 => i_b2 st fun x y st => bif Nat.ble (i_cats st) 8 then k none Ls (vI (if y < x then y else x) :: st) m else none
  | 10 => i_b1 st fun x st => bif Nat.ble (i_cats st) 8 then iov (0 - x) (k none Ls (vI (if 0 ≤ x then x else 0 - x) :: st) m) else none
  | 2 => (match i_pop e.2.2.2.2.1 st [] with
    | some (As, st) => bif Nat.ble (i_cats st) 8 then i_bind (call e.2.2.2.1 As m) fun v m => k none Ls (v.toList ++ st) m else none
    | none => none)
  | 3 => (match i_pop e.2.2.2.2.1 st [] with
    | some (As, st) => bif Nat.ble (i_cats st) 8 then i_bind (call e.2.2.2.1 As m) fun v m => k none Ls (v.toList ++ st) m else none
    | none => none)
  | _ => (match i_pop (e.2.2.2.2.1 + 1) st [] with
    | some (As, st) => bif i_recv L As m (e.2.2.2.2.2 / 16) then bif Nat.ble (i_cats st) 8 then i_bind (call e.2.2.2.1 As m) fun v m => k none Ls (v.toList ++ st) m else none else none
    | none => none)
noncomputable def i_op (wr : Bool) (L : Nat) (call : iF) (e : gCE) (Ls : iLs) (st : List iV) (m : iM) (k : iK) : iRs := match e.2.1 with
  | .ireturn => (match st with
    | [some (.inl x)] => (match e.2.2.2.2.2 with
      | 0 => some (some (vI x), m)
      | 3 => ib1 x (some (some (vI x), m))
      | _ => ich x (some (some (vI x), m)))
    | _ => none)
  | .lreturn => (match st with
    | [some (.inr (.inl x))] => some (some (vJ x), m)
    | _ => none)
  | .return_ => (match st with
    | [] => some (none, m)
    | _ => none)
  | .invokevirtual _ => i_inv L call e Ls st m k
  | .invokespecial _ => i_inv L call e Ls st m k
  | .invokestatic _ => i_inv L call e Ls st m k
  | _ => i_step wr L e Ls st m k
noncomputable def i_run (wr : Bool) (L : Nat) (call : iF) (jt : List (Nat × List gCE)) : Nat → List gCE → iLs → List iV → iM → iRs
  | 0, _, _, _, _ => none
  | n + 1, cur, Ls, st, m => match cur with
    | [] => none
    | e :: nx => i_op wr L call e Ls st m fun j Ls st m => match j with
      | none => i_run wr L call jt n nx Ls st m
      | some t => i_run wr L call jt n (g_find jt t) Ls st m
/-- methods whose numbers wrap: join of the laws, both of the reference; rolls and otherwise of the reference (8 * y + x ahead of their tests) -/
def i_wr (i : Nat) : Bool := Nat.beq i 26 || Nat.beq i 214 || Nat.beq i 259 || Nat.beq i 287
noncomputable def i_exec (L n d : Nat) : iF :=
  Nat.rec (motive := fun _ => iF) (fun _ _ _ => none) (fun _ ih i As m => match g_T i with
    | none => none
    | some md => bif Nat.ble (i_args As).length md.2.2.1 then i_run (i_wr i) L ih md.2.2.2.2.2 n md.2.2.2.2.1 (i_pad md.2.2.1 (i_args As)) [] m else none) d
