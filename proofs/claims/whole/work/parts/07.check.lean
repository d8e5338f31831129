/-! THE TABLES ARE THE STATEMENT'S -/
def mm_on (own : Nat) : String := mm_cn.getD own ""
def ck_f1 (own : Nat) (e : Nat × Nat × Nat) : Bool := match mm_C[e.2.1]? with
  | some (C, T, N) => Nat.ble e.2.1 8 && Nat.blt e.2.2 N && decide (Jvm.Cond.fieldLink (mm_on own) e.1 (T e.2.2).1 (T e.2.2).2.1 (T e.2.2).2.2.1 ∈ tables_1)
  | none => false
theorem ck_fl : ((List.range 16).all fun own => (mm_fl.getD own []).all (ck_f1 own)) = true := by decide +kernel
def ck_t1 (ci k : Nat) : Bool := match mm_C[ci]? with
  | some (C, T, N) => Nat.beq N (mm_cN ci) && decide ((T k).1 = C) && decide ((T k).2.2.2 = mm_isF ci k) && decide (C = mm_on ci) && decide (u_lay C T k ∈ tables_1) && (match mm_ty ci k, parseFieldDescriptor (T k).2.2.1 with
    | 0, some .int => true
    | 1, some .boolean => true
    | 2, some .long => true
    | 3, some (.object _) => true
    | 3, some (.array _) => true
    | _, _ => false)
  | none => false
theorem ck_ty : ((List.range 9).all fun ci => (List.range (mm_cN ci)).all (ck_t1 ci)) = true := by decide +kernel
theorem ck_c1 : ((List.range 16).all fun own => (mm_cs.getD own []).all fun e => decide (Jvm.Cond.constant (mm_on own) e.1 e.2 ∈ tables_1)) = true := by decide +kernel
theorem ck_c2 : ((List.range 16).all fun own => (mm_cl.getD own []).all fun e => decide (Jvm.Cond.constantLong (mm_on own) e.1 e.2 ∈ tables_1)) = true := by decide +kernel
