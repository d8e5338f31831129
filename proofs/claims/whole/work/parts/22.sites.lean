/-! what each instruction links -/
def ck_i1 (mid : Nat) (e : Nat × Instr × Nat × Nat) : Bool := match e.2.1 with
  | .invokevirtual k => (match mm_mth (mi_c (mm_of mid)) k with
    | some m2 => Nat.blt m2 177 && !(mm_ini m2) && decide (mi_s (mm_of m2) = 0)
    | none => false)
  | .invokespecial k => (match mm_mth (mi_c (mm_of mid)) k with
    | some m2 => Nat.beq m2 900 || (Nat.blt m2 177 && mm_ini m2 && decide (mi_s (mm_of m2) = 0))
    | none => false)
  | .invokestatic k => (match mm_mth (mi_c (mm_of mid)) k with
    | some m2 => Nat.beq m2 901 || Nat.beq m2 902 || (Nat.blt m2 177 && decide (mi_s (mm_of m2) = 1))
    | none => false)
  | .getstatic k => decide (Jvm.Cond.fieldLinkNest (mm_on (mi_c (mm_of mid))) k "DrawnTold" "PRIMES" "[J" "DrawnTold" ∈ tables_1) || decide (Jvm.Cond.fieldLink (mm_on (mi_c (mm_of mid))) k "DrawnTold" "PRIMES" "[J" ∈ tables_1)
  | .new k => (match mm_new (mi_c (mm_of mid)) k with
    | some ci => Nat.ble ci 8 && decide (Jvm.Cond.classLink (mm_on (mi_c (mm_of mid))) k (mm_on ci) ∈ tables_1)
    | none => false)
  | .anewarray k => (match mm_new (mi_c (mm_of mid)) k with
    | some ci => Nat.ble ci 8 && decide (Jvm.Cond.classLink (mm_on (mi_c (mm_of mid))) k (mm_on ci) ∈ tables_1)
    | none => false)
  | .multianewarray k _ => (match mm_new (mi_c (mm_of mid)) k with
    | some 14 => decide (Jvm.Cond.classLink (mm_on (mi_c (mm_of mid))) k "[[I" ∈ tables_1)
    | some 15 => decide (Jvm.Cond.classLink (mm_on (mi_c (mm_of mid))) k "[[J" ∈ tables_1)
    | _ => false)
  | _ => true
theorem ck_is : ((List.range 178).all fun mid => (mm_kd.getD mid []).all (ck_i1 mid)) = true := by decide +kernel
theorem ck_n1 : ((List.range 9).all fun ci => decide (Jvm.Cond.instantiable (mm_on ci) (mm_cN ci) ∈ tables_1) && decide (Jvm.Cond.initialized (mm_on ci) ∈ tables_1)) = true := by decide +kernel
theorem ck_a1 : Jvm.Cond.arrayClass .int ∈ tables_1 ∧ Jvm.Cond.arrayClass .long ∈ tables_1 ∧ Jvm.Cond.arrayClass .boolean ∈ tables_1 ∧ Jvm.Cond.arrayOver (.object "DrawnTold$Sum") ∈ tables_1 ∧ Jvm.Cond.arrayOver (.object "DrawnTold$Witness") ∈ tables_1 ∧ Jvm.Cond.arrayOver (.array .int) ∈ tables_1 ∧ Jvm.Cond.arrayOver (.array .long) ∈ tables_1 := by decide +kernel
theorem ck_o1 : Jvm.Cond.instanceMethod Lib.objectInit ∈ tables_1 ∧ Jvm.Cond.native arraycopyName ∈ tables_1 ∧ Jvm.Cond.static arraycopyName ∈ tables_1 ∧ Jvm.Cond.initialized "java/lang/System" ∈ tables_1 ∧ Jvm.Cond.laysStatic "DrawnTold" "PRIMES" "[J" ∈ tables_1 ∧ Jvm.Cond.initialized "DrawnTold" ∈ tables_1 := by decide +kernel
/-- the words that go along into a call -/
def mm_ws : List Jvm.Cond := lw_tbl.filter goodWord
/-- those that do not -/
def mm_nm : List (Nat × MethodName) := [(19, ⟨"DrawnTold$Sum", "<init>", "()V"⟩), (36, ⟨"DrawnTold$Balance", "<init>", "()V"⟩), (50, ⟨"DrawnTold$Frame", "<init>", "()V"⟩)]
theorem ck_mn : Jvm.Cond.static Lib.Math.min.name ∈ tables_1 ∧ Jvm.Cond.initialized "java/lang/Math" ∈ tables_1 ∧ Jvm.Cond.code Lib.Math.min.name Lib.Math.min.code 2 (some .int) ∈ tables_1 ∧ Jvm.Cond.code Lib.objectInit ⟨#[0xb1]⟩ 1 none ∈ tables_1 := by decide +kernel
theorem ck_nm : ((List.range 9).all fun ci => match mm_C[ci]? with
  | some (_, T, N) => (List.range N).all fun a => (List.range N).all fun b => a == b || decide ((T a).2.1 ≠ (T b).2.1)
  | none => false) = true := by decide +kernel
