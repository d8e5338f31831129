/-! what the methods decode to -/
def mm_ln (i : Instr) (len : Nat) : Bool := match i with
  | .tableswitch _ _ _ _ => true
  | .iload _ => len == 2
  | .lload _ => len == 2
  | .aload _ => len == 2
  | .istore _ => len == 2
  | .lstore _ => len == 2
  | .astore _ => len == 2
  | .bipush _ => len == 2
  | .newarray _ => len == 2
  | .ldc _ => len == 2
  | .ldc_w _ => len == 3
  | .iinc _ _ => len == 3
  | .sipush _ => len == 3
  | .ldc2_w _ => len == 3
  | .goto _ => len == 3
  | .ifCond _ _ => len == 3
  | .if_icmp _ _ => len == 3
  | .getfield _ => len == 3
  | .putfield _ => len == 3
  | .getstatic _ => len == 3
  | .new _ => len == 3
  | .anewarray _ => len == 3
  | .multianewarray _ _ => len == 4
  | .invokevirtual _ => len == 3
  | .invokespecial _ => len == 3
  | .invokestatic _ => len == 3
  | _ => len == 1
def mm_tg (i : Instr) (pc tgt : Nat) : Bool := match i with
  | .goto off => decide ((pc : Int) + off = (tgt : Int))
  | .ifCond _ off => decide ((pc : Int) + off = (tgt : Int))
  | .if_icmp _ off => decide ((pc : Int) + off = (tgt : Int))
  | _ => true
def mm_ok1 (bs : ByteArray) (e : Nat × Instr × Nat × Nat) : Bool := decide (decode bs e.1 = .ok (e.2.1, e.2.2.1)) && mm_ln e.2.1 e.2.2.1 && mm_tg e.2.1 e.1 e.2.2.2
