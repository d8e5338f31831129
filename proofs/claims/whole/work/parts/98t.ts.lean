section TS0
variable {mid pc : Nat} {L : ML} {sk : List Value} {h : MH} {cu su : Nat} {Q : Option Value → MH → Prop}
/-- the table's rest -/
theorem WP.tsd {d lo hi : Int} {offs : Array Int} {len tg tgt : Nat} {x : Int32} (hf : mm_fet mid pc = some (.tableswitch d lo hi offs, len, tg)) (hc : x.toInt < lo ∨ hi < x.toInt) (h0 : (pc : Int) + d = (tgt : Int)) (k : WP mid (tgt, L, sk, h, cu, su) Q) : WP mid (pc, L, .int x :: sk, h, cu, su) Q := by
  refine WP.st ?_ k
  rw [mm_one_of hf]
  show (if x.toInt < lo ∨ hi < x.toInt then _ else _) = _
  rw [if_pos hc, h0, if_pos (Int.natCast_nonneg tgt), Int.toNat_natCast]
  rfl
/-- the table's row i -/
theorem WP.tsi {d lo hi off : Int} {offs : Array Int} {len tg tgt : Nat} {x : Int32} (hf : mm_fet mid pc = some (.tableswitch d lo hi offs, len, tg)) (hc : ¬ (x.toInt < lo ∨ hi < x.toInt)) (ho : offs[(x.toInt - lo).toNat]? = some off) (h0 : (pc : Int) + off = (tgt : Int)) (k : WP mid (tgt, L, sk, h, cu, su) Q) : WP mid (pc, L, .int x :: sk, h, cu, su) Q := by
  refine WP.st ?_ k
  rw [mm_one_of hf]
  show (if x.toInt < lo ∨ hi < x.toInt then _ else (match offs[(x.toInt - lo).toNat]? with | some off => _ | none => _)) = _
  rw [if_neg hc, ho]
  show (if 0 ≤ (pc : Int) + off then _ else _) = _
  rw [h0, if_pos (Int.natCast_nonneg tgt), Int.toNat_natCast]
  rfl
end TS0
