/-! runs -/
def mm_slots (args : List Value) : ML := match args with
  | [] => []
  | v :: r => bif Nat.beq v.category 2 then some v :: none :: mm_slots r else some v :: mm_slots r
def mm_ent (mid : Nat) (args : List Value) : ML := mm_slots args ++ List.replicate (mi_l (mm_of mid) - (mm_slots args).length) none
/-- runs: n bounds the instructions on the longest way -/
def mm_ex : Nat → Nat → MS → Option MR
  | 0, _, _ => none
  | n + 1, mid, s => match mm_one mid s.1 s.2.1 s.2.2.1 s.2.2.2.1 s.2.2.2.2.1 s.2.2.2.2.2 with
    | none => none
    | some (.inl s') => mm_ex n mid s'
    | some (.inr (.inl r)) => some r
    | some (.inr (.inr (m2, args, s'))) => bif Nat.ble (mm_slots args).length (mi_l (mm_of m2)) then (match mm_ex n m2 (0, mm_ent m2 args, [], s'.2.2.2.1, 0, 0) with
      | none => none
      | some (v, h') => mm_ex n mid (s'.1, s'.2.1, v.toList ++ s'.2.2.1, h', s'.2.2.2.2.1, s'.2.2.2.2.2)) else none
