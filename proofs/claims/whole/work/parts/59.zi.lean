/-! ints as whole numbers -/
def zI (z : Int) : Int32 := Int32.ofInt z
theorem zI_add (a b : Int) : zI a + zI b = zI (a + b) := (Int32.ofInt_add a b).symm
theorem zI_sub (a b : Int) : zI a - zI b = zI (a - b) := (Int32.ofInt_sub a b).symm
theorem zI_mul (a b : Int) : zI a * zI b = zI (a * b) := (Int32.ofInt_mul a b).symm
theorem zI_neg (a : Int) : -zI a = zI (-a) := (Int32.ofInt_neg a).symm
theorem zI_int {z : Int} (h1 : -2 ^ 31 ≤ z) (h2 : z < 2 ^ 31) : (zI z).toInt = z := Int32.toInt_ofInt_of_le h1 h2
theorem zI_of (x : Int32) : x = zI x.toInt := (Int32.ofInt_toInt x).symm
theorem zI_lt {a b : Int} (a1 : -2 ^ 31 ≤ a) (a2 : a < 2 ^ 31) (b1 : -2 ^ 31 ≤ b) (b2 : b < 2 ^ 31) : zI a < zI b ↔ a < b := by rw [Int32.lt_iff_toInt_lt, zI_int a1 a2, zI_int b1 b2]
theorem zI_le {a b : Int} (a1 : -2 ^ 31 ≤ a) (a2 : a < 2 ^ 31) (b1 : -2 ^ 31 ≤ b) (b2 : b < 2 ^ 31) : zI a ≤ zI b ↔ a ≤ b := by rw [Int32.le_iff_toInt_le, zI_int a1 a2, zI_int b1 b2]
theorem zI_eq {a b : Int} (a1 : -2 ^ 31 ≤ a) (a2 : a < 2 ^ 31) (b1 : -2 ^ 31 ≤ b) (b2 : b < 2 ^ 31) : zI a = zI b ↔ a = b := by rw [← Int32.toInt_inj, zI_int a1 a2, zI_int b1 b2]
theorem zI_l {a : Int} (a1 : -2 ^ 31 ≤ a) (a2 : a < 2 ^ 31) : (zI a).toInt64 = zJ a := by
  rw [← Int64.toInt_inj, Int32.toInt_toInt64, zI_int a1 a2, zJ_int (by omega) (by omega)]
theorem nI_zI (n : Nat) : nI n = zI n := (Int32.ofInt_eq_ofNat).symm
