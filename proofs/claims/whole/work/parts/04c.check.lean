/-! What is looked at in a method's code: each row is what its bytes say, each link stands in the tables, each row's next one follows it. -/
def g_len : Instr → Nat
  | .bipush _ => 2
  | .sipush _ => 3
  | .ldc _ => 2
  | .ldc_w _ => 3
  | .ldc2_w _ => 3
  | .iload _ => 2
  | .lload _ => 2
  | .aload _ => 2
  | .istore _ => 2
  | .lstore _ => 2
  | .astore _ => 2
  | .iinc _ _ => 3
  | .ifCond _ _ => 3
  | .if_icmp _ _ => 3
  | .goto _ => 3
  | .getfield _ => 3
  | .putfield _ => 3
  | .getstatic _ => 3
  | .new _ => 3
  | .newarray _ => 2
  | .invokevirtual _ => 3
  | .invokespecial _ => 3
  | .invokestatic _ => 3
  | _ => 1
def g_at2 {α : Type} (on ix : Nat) (r : Nat × Nat × α) : Bool := Nat.beq r.1 on && Nat.beq r.2.1 ix
def g_okI (on : Nat) (ini : Bool) (ret : Option FieldType) (e : gCE) : Bool := match e.2.1 with
  | .iconst i => decide (Int32.ofInt i = g_num e)
  | .bipush i => decide ((Int8.ofInt i).toInt32 = g_num e)
  | .sipush i => decide ((Int16.ofInt i).toInt32 = g_num e)
  | .lconst l => decide (Int64.ofNat (l : Nat) = Int64.ofNat e.2.2.2.1)
  | .iinc _ n => decide (Int32.ofInt n = g_num e)
  | .ldc ix => (match e.2.2.2.2.2 with
    | 2 => g_sl.any fun r => g_at2 on ix r && Nat.beq r.2.2.1 e.2.2.2.1
    | c => g_kl.any fun r => g_at2 on ix r && (Nat.beq r.2.2.1 e.2.2.2.1 && Nat.beq r.2.2.2.1 c))
  | .ldc_w ix => g_kl.any fun r => g_at2 on ix r && (Nat.beq r.2.2.1 e.2.2.2.1 && Nat.beq r.2.2.2.1 e.2.2.2.2.2)
  | .ldc2_w ix => g_ll.any fun r => g_at2 on ix r && Nat.beq r.2.2.1 e.2.2.2.1
  | .getfield ix => g_fl.any fun r => g_at2 on ix r && (Nat.beq r.2.2.1 e.2.2.2.1 && (Nat.beq r.2.2.2.1 e.2.2.2.2.1 && Nat.beq r.2.2.2.2.1 e.2.2.2.2.2))
  | .putfield ix => Nat.blt e.2.2.2.1 13 && (((!(g_fd e.2.2.2.1 e.2.2.2.2.1).2.2.2) || (ini && Nat.beq e.2.2.2.1 on)) && g_fl.any fun r => g_at2 on ix r && (Nat.beq r.2.2.1 e.2.2.2.1 && (Nat.beq r.2.2.2.1 e.2.2.2.2.1 && Nat.beq r.2.2.2.2.1 e.2.2.2.2.2)))
  | .getstatic ix => g_gs.any fun r => g_at2 on ix r && (Nat.beq r.2.2.1 e.2.2.2.1 && Nat.beq r.2.2.2.1 e.2.2.2.2.2)
  | .new ix => g_nl.any fun r => g_at2 on ix r && Nat.beq r.2.2.1 e.2.2.2.1
  | .newarray t => decide ((newarray.typeOf t, e.2.2.2.1) ∈ [(FieldType.int, 1), (.long, 2), (.char, 3), (.boolean, 4)])
  | .invokevirtual ix => g_ml.any fun r => g_at2 on ix r && (Nat.beq r.2.2.1 e.2.2.2.1 && (Nat.beq r.2.2.2.1 e.2.2.2.2.1 && (Nat.beq r.2.2.2.2.1 e.2.2.2.2.2 && Nat.beq (r.2.2.2.2.1 % 16) 0)))
  | .invokespecial ix => (match e.2.2.2.2.2 with
    | 6 => g_ol.any fun r => g_at2 on ix r
    | c => g_ml.any fun r => g_at2 on ix r && (Nat.beq r.2.2.1 e.2.2.2.1 && (Nat.beq r.2.2.2.1 e.2.2.2.2.1 && (Nat.beq r.2.2.2.2.1 c && Nat.ble 4 (r.2.2.2.2.1 % 16)))))
  | .invokestatic ix => (match e.2.2.2.2.2 with
    | 7 => g_al.any fun r => g_at2 on ix r
    | 8 => g_mt.any fun r => g_at2 on ix r && Nat.beq r.2.2.1 8
    | 9 => g_mt.any fun r => g_at2 on ix r && Nat.beq r.2.2.1 9
    | 10 => g_mt.any fun r => g_at2 on ix r && Nat.beq r.2.2.1 10
    | c => g_ml.any fun r => g_at2 on ix r && (Nat.beq r.2.2.1 e.2.2.2.1 && (Nat.beq r.2.2.2.1 e.2.2.2.2.1 && (Nat.beq r.2.2.2.2.1 c && (Nat.beq (r.2.2.2.2.1 % 16) 2 || Nat.beq (r.2.2.2.2.1 % 16) 3)))))
  | .ifCond _ o => decide ((e.1 : Int) + o = (e.2.2.2.1 : Int))
  | .if_icmp _ o => decide ((e.1 : Int) + o = (e.2.2.2.1 : Int))
  | .goto o => decide ((e.1 : Int) + o = (e.2.2.2.1 : Int))
  | .ireturn => decide ((ret, e.2.2.2.2.2) ∈ [(some FieldType.int, 0), (some .boolean, 3), (some .byte, 3), (some .char, 4)])
  | .lreturn => decide (ret = some .long)
  | .return_ => decide (ret = none)
  | _ => true
def g_okD (bytes : ByteArray) (e : gCE) : Bool := decide (decode bytes e.1 = .ok (e.2.1, e.2.2.1)) && (match e.2.1 with
  | .tableswitch .. => true
  | i => Nat.beq (g_len i) e.2.2.1)
def g_okC (on : Nat) (ini : Bool) (bytes : ByteArray) (ret : Option FieldType) : List gCE → Bool
  | [] => true
  | e :: nx => g_okD bytes e && (g_okI on ini ret e && ((match nx with
    | [] => true
    | e2 :: _ => Nat.beq e2.1 (e.1 + e.2.2.1)) && g_okC on ini bytes ret nx))
def g_hd (t : Nat) (c : List gCE) : Bool := match c with
  | [] => true
  | e :: _ => Nat.beq e.1 t
def g_okM (i : Nat) (md : gMD) : Bool := decide (md.1 = g_y i) && (g_hd 0 md.2.2.2.2.1 && (g_okC (g_yo i) (decide (md.1.name = "<init>")) md.2.1 md.2.2.2.1 md.2.2.2.2.1 && md.2.2.2.2.2.all fun q => g_hd q.1 q.2 && g_okC (g_yo i) (decide (md.1.name = "<init>")) md.2.1 md.2.2.2.1 q.2))
