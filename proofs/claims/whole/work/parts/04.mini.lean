/-! THE MINI-MACHINE: the program over places (0: the script, 1: PRIMES, from 2 on: what is made, as it comes) -/
/-- the heap: ints (fields and rows), longs, references, the kind of a place (0 .. 8 an object's class; 9 int[], 10 long[], 11 boolean[], 12 Sum[], 13 Witness[], 14 int[][], 15 long[][]; 20 the script, 21 PRIMES; 99 none), the length of a row, how many places there are -/
abbrev MH : Type := (Nat → Nat → Int32) × (Nat → Nat → Int64) × (Nat → Nat → Option Nat) × (Nat → Nat) × (Nat → Nat) × Nat
abbrev hI (h : MH) : Nat → Nat → Int32 := h.1
abbrev hJ (h : MH) : Nat → Nat → Int64 := h.2.1
abbrev hR (h : MH) : Nat → Nat → Option Nat := h.2.2.1
abbrev hK (h : MH) : Nat → Nat := h.2.2.2.1
abbrev hL (h : MH) : Nat → Nat := h.2.2.2.2.1
abbrev hN (h : MH) : Nat := h.2.2.2.2.2
def mm_up {α : Type} (f : Nat → Nat → α) (a k : Nat) (v : α) : Nat → Nat → α := fun b j => if b = a ∧ j = k then v else f b j
def mm_row {α : Type} (f : Nat → Nat → α) (a : Nat) (g : Nat → α) : Nat → Nat → α := fun b j => if b = a then g j else f b j
def mm_u1 {α : Type} (f : Nat → α) (a : Nat) (v : α) : Nat → α := fun b => if b = a then v else f b
abbrev putI (h : MH) (a k : Nat) (v : Int32) : MH := (mm_up (hI h) a k v, hJ h, hR h, hK h, hL h, hN h)
abbrev putJ (h : MH) (a k : Nat) (v : Int64) : MH := (hI h, mm_up (hJ h) a k v, hR h, hK h, hL h, hN h)
abbrev putR (h : MH) (a k : Nat) (v : Option Nat) : MH := (hI h, hJ h, mm_up (hR h) a k v, hK h, hL h, hN h)
abbrev rowJ (h : MH) (a : Nat) (g : Nat → Int64) : MH := (hI h, mm_row (hJ h) a g, hR h, hK h, hL h, hN h)
/-- a new place: all 0, all null -/
def mm_mk (h : MH) (kind len : Nat) : MH := (mm_row (hI h) (hN h) (fun _ => 0), mm_row (hJ h) (hN h) (fun _ => 0), mm_row (hR h) (hN h) (fun _ => none), mm_u1 (hK h) (hN h) kind, mm_u1 (hL h) (hN h) len, hN h + 1)
/-- n new places, one behind the other -/
def mm_mks (h : MH) (kind len : Nat) : Nat → MH
  | 0 => h
  | n + 1 => mm_mk (mm_mks h kind len n) kind len
abbrev ML : Type := List (Option Value)
def mm_rv (r : Option Nat) : Value := match r with
  | none => .null
  | some q => .ref q
def mm_st1 (L : ML) (i : Nat) (v : Value) : ML := match i with
  | 0 => L.set 0 (some v)
  | j + 1 => match L[j]? with
    | some (some w) => bif Nat.beq w.category 2 then (L.set j none).set (j + 1) (some v) else L.set (j + 1) (some v)
    | _ => L.set (j + 1) (some v)
def mm_st2 (L : ML) (i : Nat) (v : Value) : ML := (mm_st1 L i v).set (i + 1) none
def mm_lk {α : Type} (l : List (Nat × α)) (i : Nat) : Option α := match l with
  | [] => none
  | (j, a) :: r => bif Nat.beq j i then some a else mm_lk r i
abbrev MI : Type := Nat × Nat × Nat × Nat × Nat × Nat × Nat × Nat × Nat
def mm_of (mid : Nat) : MI := mm_inf.getD mid (0, 0, 0, 0, 0, 0, 0, 0, 0)
abbrev mi_c (q : MI) : Nat := q.1
abbrev mi_n (q : MI) : Nat := q.2.1
abbrev mi_s (q : MI) : Nat := q.2.2.1
abbrev mi_r (q : MI) : Nat := q.2.2.2.1
abbrev mi_l (q : MI) : Nat := q.2.2.2.2.1
abbrev mi_f (q : MI) : Nat := q.2.2.2.2.2.1
abbrev mi_w (q : MI) : Nat := q.2.2.2.2.2.2.1
abbrev mi_mc (q : MI) : Nat := q.2.2.2.2.2.2.2.1
abbrev mi_ms (q : MI) : Nat := q.2.2.2.2.2.2.2.2
def mm_fld (own idx : Nat) : Option (Nat × Nat) := mm_lk (mm_fl.getD own []) idx
def mm_mth (own idx : Nat) : Option Nat := mm_lk (mm_ml.getD own []) idx
def mm_new (own idx : Nat) : Option Nat := mm_lk (mm_nl.getD own []) idx
def mm_cI (own idx : Nat) : Option Int32 := mm_lk (mm_cs.getD own []) idx
def mm_cJ (own idx : Nat) : Option Int64 := mm_lk (mm_cl.getD own []) idx
def mm_ty (ci k : Nat) : Nat := (mm_ft.getD ci []).getD k 9
def mm_isF (ci k : Nat) : Bool := (mm_fin.getD ci []).getD k true
def mm_cN (ci : Nat) : Nat := (mm_ft.getD ci []).length
def mm_fet (mid pc : Nat) : Option (Instr × Nat × Nat) := mm_lk (mm_kd.getD mid []) pc
/-- the methods that are constructors -/
def mm_ini (mid : Nat) : Bool := Nat.blt 0 (mi_mc (mm_of mid)) && Nat.blt (mi_mc (mm_of mid)) 600000
abbrev MS : Type := Nat × ML × List Value × MH × Nat × Nat
abbrev MR : Type := Option Value × MH
abbrev MC : Type := Nat × List Value × MS
abbrev MO : Type := Option (MS ⊕ MR ⊕ MC)
def mm_nx (pc : Nat) (L : ML) (st : List Value) (h : MH) (cu su : Nat) : MO := some (.inl (pc, L, st, h, cu, su))
def mm_in (x : Int32) (n : Nat) : Bool := !(decide (x < 0)) && Nat.blt x.toNatClampNeg n
/-- a field's value -/
def mm_fv (h : MH) (a ci k : Nat) : Value := match mm_ty ci k with
  | 0 => .int (hI h a k)
  | 1 => .int (hI h a k)
  | 2 => .long (hJ h a k)
  | _ => mm_rv (hR h a k)
def mm_i2 (i : Instr) (x y : Int32) : Option Int32 := match i with
  | .iadd => some (x + y)
  | .isub => some (x - y)
  | .imul => some (x * y)
  | .iand => some (x &&& y)
  | .ior => some (x ||| y)
  | .ixor => some (x ^^^ y)
  | .ishl => some (x <<< (y &&& 31))
  | .ishr => some (x >>> (y &&& 31))
  | .iushr => some (x.toUInt32 >>> (y.toUInt32 &&& Int32.toUInt32 31)).toInt32
  | .idiv => if y = 0 then none else some (x / y)
  | .irem => if y = 0 then none else some (x - x / y * y)
  | _ => none
def mm_l2 (i : Instr) (x y : Int64) : Option Int64 := match i with
  | .ladd => some (x + y)
  | .lsub => some (x - y)
  | .lmul => some (x * y)
  | .land => some (x &&& y)
  | .lor => some (x ||| y)
  | .ldiv => if y = 0 then none else some (x / y)
  | .lrem => if y = 0 then none else some (x - x / y * y)
  | _ => none
def mm_ic (c : ClassFile.Cond) (x y : Int32) : Bool := match c with
  | .eq => decide (x = y)
  | .ne => decide (¬ x = y)
  | .lt => decide (x < y)
  | .ge => decide (y ≤ x)
  | .gt => decide (y < x)
  | .le => decide (x ≤ y)
def mm_cat (st : List Value) : Nat := (st.map fun v => v.category).sum
/-- a call of mid2 from mid fits mid's room -/
def mm_fit (q q2 : MI) (cu su : Nat) (r : List Value) : Bool := Nat.ble (mi_f q2 + 1) (mi_f q) && Nat.ble (8 + (mi_l q2 + 11) + mi_w q2) (mi_w q) && Nat.ble (mm_cat r) 8 && Nat.ble (cu + mi_mc q2) (mi_mc q) && Nat.ble (su + mi_ms q2) (mi_ms q)
def mm_inv (mid own idx pc : Nat) (virt : Bool) (L : ML) (st : List Value) (h : MH) (cu su : Nat) : MO := match mm_mth own idx with
  | none => none
  | some 900 => match st with
    | .ref _ :: r => if virt = true ∧ Nat.ble 1 (mi_f (mm_of mid)) = true ∧ Nat.ble (mm_cat r + 12) (mi_w (mm_of mid)) = true then mm_nx (pc + 3) L r h cu su else none
    | _ => none
  | some 901 => match st with
    | .int n :: .int dp :: .ref a :: .int sp :: .ref b :: r => if virt = false ∧ hK h a = 10 ∧ hK h b = 10 ∧ sp = 0 ∧ dp = 0 ∧ ¬ n < 0 ∧ n.toNatClampNeg ≤ hL h a ∧ n.toNatClampNeg ≤ hL h b ∧ Nat.ble 1 (mi_f (mm_of mid)) = true ∧ Nat.ble (mm_cat r + 45) (mi_w (mm_of mid)) = true then mm_nx (pc + 3) L r (rowJ h a (fun j => if j < n.toNatClampNeg then hJ h b j else hJ h a j)) cu su else none
    | _ => none
  | some 902 => match st with
    | .int y :: .int x :: r => if virt = false ∧ Nat.ble 1 (mi_f (mm_of mid)) = true ∧ Nat.ble (mm_cat r + 13) (mi_w (mm_of mid)) = true then mm_nx (pc + 3) L (.int (if y < x then y else x) :: r) h cu su else none
    | _ => none
  | some m2 => bif Nat.beq (mi_s (mm_of m2)) 1
    then (if virt = false ∧ mi_n (mm_of m2) ≤ st.length ∧ mm_fit (mm_of mid) (mm_of m2) cu su (st.drop (mi_n (mm_of m2))) = true then some (.inr (.inr (m2, (st.take (mi_n (mm_of m2))).reverse, (pc + 3, L, st.drop (mi_n (mm_of m2)), h, cu + mi_mc (mm_of m2), su + mi_ms (mm_of m2))))) else none)
    else (match st.drop (mi_n (mm_of m2)) with
      | .ref b :: r => if virt = true ∧ hK h b = mi_c (mm_of m2) ∧ mm_fit (mm_of mid) (mm_of m2) cu su r = true then some (.inr (.inr (m2, .ref b :: (st.take (mi_n (mm_of m2))).reverse, (pc + 3, L, r, h, cu + mi_mc (mm_of m2), su + mi_ms (mm_of m2))))) else none
      | _ => none)
/-- one instruction -/
def mm_stp (mid : Nat) (i : Instr) (len tgt pc : Nat) (L : ML) (st : List Value) (h : MH) (cu su : Nat) : MO := match i with
  | .iload_n k => match L.getD k none with
    | some (.int x) => mm_nx (pc + 1) L (.int x :: st) h cu su
    | _ => none
  | .iload k => match L.getD k none with
    | some (.int x) => mm_nx (pc + 2) L (.int x :: st) h cu su
    | _ => none
  | .lload_n k => match L.getD k none with
    | some (.long x) => mm_nx (pc + 1) L (.long x :: st) h cu su
    | _ => none
  | .lload k => match L.getD k none with
    | some (.long x) => mm_nx (pc + 2) L (.long x :: st) h cu su
    | _ => none
  | .aload_n k => match L.getD k none with
    | some (.ref x) => mm_nx (pc + 1) L (.ref x :: st) h cu su
    | _ => none
  | .aload k => match L.getD k none with
    | some (.ref x) => mm_nx (pc + 2) L (.ref x :: st) h cu su
    | _ => none
  | .istore_n k => match st with
    | .int x :: r => if k.val < L.length then mm_nx (pc + 1) (mm_st1 L k (.int x)) r h cu su else none
    | _ => none
  | .istore k => match st with
    | .int x :: r => if k < L.length then mm_nx (pc + 2) (mm_st1 L k (.int x)) r h cu su else none
    | _ => none
  | .astore_n k => match st with
    | .ref x :: r => if k.val < L.length then mm_nx (pc + 1) (mm_st1 L k (.ref x)) r h cu su else none
    | _ => none
  | .astore k => match st with
    | .ref x :: r => if k < L.length then mm_nx (pc + 2) (mm_st1 L k (.ref x)) r h cu su else none
    | _ => none
  | .lstore_n k => match st with
    | .long x :: r => if k.val + 1 < L.length then mm_nx (pc + 1) (mm_st2 L k (.long x)) r h cu su else none
    | _ => none
  | .lstore k => match st with
    | .long x :: r => if k + 1 < L.length then mm_nx (pc + 2) (mm_st2 L k (.long x)) r h cu su else none
    | _ => none
  | .iinc k n => match L.getD k none with
    | some (.int x) => if k < L.length then mm_nx (pc + 3) (mm_st1 L k (.int (x + Int32.ofInt n))) st h cu su else none
    | _ => none
  | .iconst n => mm_nx (pc + 1) L (.int (Int32.ofInt n) :: st) h cu su
  | .bipush n => mm_nx (pc + 2) L (.int (Int8.ofInt n).toInt32 :: st) h cu su
  | .sipush n => mm_nx (pc + 3) L (.int (Int16.ofInt n).toInt32 :: st) h cu su
  | .lconst n => mm_nx (pc + 1) L (.long (Int64.ofNat n.val) :: st) h cu su
  | .ldc k => match mm_cI (mi_c (mm_of mid)) k with
    | some v => mm_nx (pc + 2) L (.int v :: st) h cu su
    | none => none
  | .ldc_w k => match mm_cI (mi_c (mm_of mid)) k with
    | some v => mm_nx (pc + 3) L (.int v :: st) h cu su
    | none => none
  | .ldc2_w k => match mm_cJ (mi_c (mm_of mid)) k with
    | some v => mm_nx (pc + 3) L (.long v :: st) h cu su
    | none => none
  | .dup => match st with
    | v :: r => if v.category = 1 then mm_nx (pc + 1) L (v :: v :: r) h cu su else none
    | _ => none
  | .dup2 => match st with
    | v :: w :: r => if v.category = 1 ∧ w.category = 1 then mm_nx (pc + 1) L (v :: w :: v :: w :: r) h cu su else none
    | _ => none
  | .pop => match st with
    | v :: r => if v.category = 1 then mm_nx (pc + 1) L r h cu su else none
    | _ => none
  | .ineg => match st with
    | .int x :: r => mm_nx (pc + 1) L (.int (-x) :: r) h cu su
    | _ => none
  | .i2l => match st with
    | .int x :: r => mm_nx (pc + 1) L (.long x.toInt64 :: r) h cu su
    | _ => none
  | .l2i => match st with
    | .long x :: r => mm_nx (pc + 1) L (.int x.toInt32 :: r) h cu su
    | _ => none
  | .lcmp => match st with
    | .long y :: .long x :: r => mm_nx (pc + 1) L (.int (lg_cmp x y) :: r) h cu su
    | _ => none
  | .lshl => match st with
    | .int y :: .long x :: r => mm_nx (pc + 1) L (.long (x <<< (y.toInt64 &&& 63)) :: r) h cu su
    | _ => none
  | .lshr => match st with
    | .int y :: .long x :: r => mm_nx (pc + 1) L (.long (x >>> (y.toInt64 &&& 63)) :: r) h cu su
    | _ => none
  | .goto _ => mm_nx tgt L st h cu su
  | .ifCond c _ => match st with
    | .int x :: r => if mm_ic c x 0 = true then mm_nx tgt L r h cu su else mm_nx (pc + 3) L r h cu su
    | _ => none
  | .if_icmp c _ => match st with
    | .int y :: .int x :: r => if mm_ic c x y = true then mm_nx tgt L r h cu su else mm_nx (pc + 3) L r h cu su
    | _ => none
  | .tableswitch dflt lo hi offs => match st with
    | .int x :: r => if x.toInt < lo ∨ hi < x.toInt then (if 0 ≤ (pc : Int) + dflt then mm_nx ((pc : Int) + dflt).toNat L r h cu su else none)
      else match offs[(x.toInt - lo).toNat]? with
        | some off => if 0 ≤ (pc : Int) + off then mm_nx ((pc : Int) + off).toNat L r h cu su else none
        | none => none
    | _ => none
  | .getfield k => match mm_fld (mi_c (mm_of mid)) k, st with
    | some (ci, f), .ref a :: r => if hK h a = ci then mm_nx (pc + 3) L (mm_fv h a ci f :: r) h cu su else none
    | _, _ => none
  | .putfield k => match mm_fld (mi_c (mm_of mid)) k, st with
    | some (ci, f), v :: .ref a :: r => if hK h a = ci ∧ (mm_isF ci f = true → mm_ini mid = true ∧ mi_c (mm_of mid) = ci) then (match mm_ty ci f, v with
        | 0, .int x => mm_nx (pc + 3) L r (putI h a f x) cu su
        | 1, .int x => if x = 0 ∨ x = 1 then mm_nx (pc + 3) L r (putI h a f x) cu su else none
        | 2, .long x => mm_nx (pc + 3) L r (putJ h a f x) cu su
        | 3, .ref q => mm_nx (pc + 3) L r (putR h a f (some q)) cu su
        | _, _ => none) else none
    | _, _ => none
  | .getstatic _ => mm_nx (pc + 3) L (.ref 1 :: st) h cu su
  | .iaload => match st with
    | .int x :: .ref a :: r => if (hK h a = 9 ∨ hK h a = 20) ∧ mm_in x (hL h a) = true then mm_nx (pc + 1) L (.int (hI h a x.toNatClampNeg) :: r) h cu su else none
    | _ => none
  | .laload => match st with
    | .int x :: .ref a :: r => if (hK h a = 10 ∨ hK h a = 21) ∧ mm_in x (hL h a) = true then mm_nx (pc + 1) L (.long (hJ h a x.toNatClampNeg) :: r) h cu su else none
    | _ => none
  | .baload => match st with
    | .int x :: .ref a :: r => if hK h a = 11 ∧ mm_in x (hL h a) = true then mm_nx (pc + 1) L (.int (hI h a x.toNatClampNeg) :: r) h cu su else none
    | _ => none
  | .aaload => match st with
    | .int x :: .ref a :: r => if (hK h a = 12 ∨ hK h a = 13 ∨ hK h a = 14 ∨ hK h a = 15) ∧ mm_in x (hL h a) = true then mm_nx (pc + 1) L (mm_rv (hR h a x.toNatClampNeg) :: r) h cu su else none
    | _ => none
  | .arraylength => match st with
    | .ref a :: r => if (9 ≤ hK h a ∧ hK h a ≤ 15) ∨ hK h a = 20 ∨ hK h a = 21 then mm_nx (pc + 1) L (.int (Int32.ofNat (hL h a)) :: r) h cu su else none
    | _ => none
  | .iastore => match st with
    | .int v :: .int x :: .ref a :: r => if hK h a = 9 ∧ mm_in x (hL h a) = true then mm_nx (pc + 1) L r (putI h a x.toNatClampNeg v) cu su else none
    | _ => none
  | .lastore => match st with
    | .long v :: .int x :: .ref a :: r => if hK h a = 10 ∧ mm_in x (hL h a) = true then mm_nx (pc + 1) L r (putJ h a x.toNatClampNeg v) cu su else none
    | _ => none
  | .bastore => match st with
    | .int v :: .int x :: .ref a :: r => if hK h a = 11 ∧ mm_in x (hL h a) = true ∧ (v = 0 ∨ v = 1) then mm_nx (pc + 1) L r (putI h a x.toNatClampNeg v) cu su else none
    | _ => none
  | .aastore => match st with
    | .ref v :: .int x :: .ref a :: r => if ((hK h a = 12 ∧ hK h v = 5) ∨ (hK h a = 13 ∧ hK h v = 6) ∨ (hK h a = 15 ∧ hK h v = 10)) ∧ mm_in x (hL h a) = true then mm_nx (pc + 1) L r (putR h a x.toNatClampNeg (some v)) cu su else none
    | _ => none
  | .new k => match mm_new (mi_c (mm_of mid)) k with
    | some ci => if ci ≤ 8 ∧ cu + 1 ≤ mi_mc (mm_of mid) ∧ su + mm_cN ci ≤ mi_ms (mm_of mid) then mm_nx (pc + 3) L (.ref (hN h) :: st) (mm_mk h ci 0) (cu + 1) (su + mm_cN ci) else none
    | none => none
  | .newarray t => match st with
    | .int n :: r => if ¬ n < 0 ∧ n.toNatClampNeg ≤ 1000 ∧ cu + 1 ≤ mi_mc (mm_of mid) ∧ su + n.toNatClampNeg ≤ mi_ms (mm_of mid) then (match t with
        | .int => mm_nx (pc + 2) L (.ref (hN h) :: r) (mm_mk h 9 n.toNatClampNeg) (cu + 1) (su + n.toNatClampNeg)
        | .long => mm_nx (pc + 2) L (.ref (hN h) :: r) (mm_mk h 10 n.toNatClampNeg) (cu + 1) (su + n.toNatClampNeg)
        | .boolean => mm_nx (pc + 2) L (.ref (hN h) :: r) (mm_mk h 11 n.toNatClampNeg) (cu + 1) (su + n.toNatClampNeg)
        | _ => none) else none
    | _ => none
  | .anewarray k => match mm_new (mi_c (mm_of mid)) k, st with
    | some ci, .int n :: r => if ¬ n < 0 ∧ n.toNatClampNeg ≤ 1000 ∧ cu + 1 ≤ mi_mc (mm_of mid) ∧ su + n.toNatClampNeg ≤ mi_ms (mm_of mid) ∧ (ci = 5 ∨ ci = 6) then mm_nx (pc + 3) L (.ref (hN h) :: r) (mm_mk h (ci + 7) n.toNatClampNeg) (cu + 1) (su + n.toNatClampNeg) else none
    | _, _ => none
  | .multianewarray k d => match mm_new (mi_c (mm_of mid)) k, st with
    | some ci, .int m :: .int n :: r => if d = 2 ∧ ¬ n < 0 ∧ ¬ m < 0 ∧ n.toNatClampNeg ≤ 1000 ∧ m.toNatClampNeg ≤ 1000 ∧ cu + (1 + n.toNatClampNeg) ≤ mi_mc (mm_of mid) ∧ su + (n.toNatClampNeg + n.toNatClampNeg * m.toNatClampNeg) ≤ mi_ms (mm_of mid) ∧ (ci = 14 ∨ ci = 15) then
        mm_nx (pc + 4) L (.ref (hN h) :: r) ((fun g : MH => (hI g, hJ g, mm_row (hR g) (hN h) (fun j => if j < n.toNatClampNeg then some (hN h + 1 + j) else none), hK g, hL g, hN g)) (mm_mks (mm_mk h ci n.toNatClampNeg) (ci - 5) m.toNatClampNeg n.toNatClampNeg)) (cu + 1 + n.toNatClampNeg) (su + n.toNatClampNeg + n.toNatClampNeg * m.toNatClampNeg) else none
    | _, _ => none
  | .invokevirtual k => mm_inv mid (mi_c (mm_of mid)) k pc true L st h cu su
  | .invokespecial k => mm_inv mid (mi_c (mm_of mid)) k pc true L st h cu su
  | .invokestatic k => mm_inv mid (mi_c (mm_of mid)) k pc false L st h cu su
  | .ireturn => match st with
    | [.int x] => if mi_r (mm_of mid) = 1 ∨ (mi_r (mm_of mid) = 2 ∧ (x = 0 ∨ x = 1)) then some (.inr (.inl (some (.int x), h))) else none
    | _ => none
  | .lreturn => match st with
    | [.long x] => if mi_r (mm_of mid) = 3 then some (.inr (.inl (some (.long x), h))) else none
    | _ => none
  | .return_ => match st with
    | [] => if mi_r (mm_of mid) = 0 then some (.inr (.inl (none, h))) else none
    | _ => none
  | j => match st with
    | .int y :: .int x :: r => match mm_i2 j x y with
      | some z => mm_nx (pc + 1) L (.int z :: r) h cu su
      | none => none
    | .long y :: .long x :: r => match mm_l2 j x y with
      | some z => mm_nx (pc + 1) L (.long z :: r) h cu su
      | none => none
    | _ => none
def mm_one (mid pc : Nat) (L : ML) (st : List Value) (h : MH) (cu su : Nat) : MO := match mm_fet mid pc with
  | some (i, len, tgt) => mm_stp mid i len tgt pc L st h cu su
  | none => none
