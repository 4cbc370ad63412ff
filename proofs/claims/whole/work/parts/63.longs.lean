/-! Longs as whole numbers. -/
def iL (n : Int) : Int64 := Int64.ofInt n
theorem iL_add (a b : Int) : iL a + iL b = iL (a + b) := (Int64.ofInt_add a b).symm
theorem iL_sub (a b : Int) : iL a - iL b = iL (a - b) := (Int64.ofInt_sub a b).symm
theorem iL_mul (a b : Int) : iL a * iL b = iL (a * b) := (Int64.ofInt_mul a b).symm
theorem iL_ti {a : Int} (h1 : -9223372036854775808 ≤ a) (h2 : a < 9223372036854775808) : (iL a).toInt = a := Int64.toInt_ofInt_of_le (by omega) (by omega)
theorem iL_lt {a b : Int} (h1 : -9223372036854775808 ≤ a) (h2 : a < 9223372036854775808) (h3 : -9223372036854775808 ≤ b) (h4 : b < 9223372036854775808) : (iL a < iL b) = (a < b) := by
  rw [Int64.lt_iff_toInt_lt, iL_ti h1 h2, iL_ti h3 h4]
theorem iL_le {a b : Int} (h1 : -9223372036854775808 ≤ a) (h2 : a < 9223372036854775808) (h3 : -9223372036854775808 ≤ b) (h4 : b < 9223372036854775808) : (iL a ≤ iL b) = (a ≤ b) := by
  rw [Int64.le_iff_toInt_le, iL_ti h1 h2, iL_ti h3 h4]
theorem iL_eq {a b : Int} (h1 : -9223372036854775808 ≤ a) (h2 : a < 9223372036854775808) (h3 : -9223372036854775808 ≤ b) (h4 : b < 9223372036854775808) : (iL a = iL b) = (a = b) := by
  rw [← Int64.toInt_inj, iL_ti h1 h2, iL_ti h3 h4]
theorem iL_div {a b : Int} (h1 : -9223372036854775808 ≤ a) (h2 : a < 9223372036854775808) (h3 : -9223372036854775808 ≤ b) (h4 : b < 9223372036854775808) : iL a / iL b = iL (a.tdiv b) := by
  have e1 : Int64.minValue.toInt = -9223372036854775808 := by decide
  have e2 : Int64.maxValue.toInt = 9223372036854775807 := by decide
  exact (Int64.ofInt_tdiv (by omega) (by omega) (by omega) (by omega)).symm
theorem iL_rm {a b : Int} (h1 : -9223372036854775808 ≤ a) (h2 : a < 9223372036854775808) (h3 : -9223372036854775808 ≤ b) (h4 : b < 9223372036854775808) : l_rm (iL a) (iL b) = iL (a.tmod b) := by
  unfold l_rm
  rw [iL_div h1 h2 h3 h4, iL_mul, iL_sub, Int.mul_comm, ← Int.tmod_def]
theorem iL_z {a : Int} (h1 : -2147483648 ≤ a) (h2 : a < 2147483648) : (iZ a).toInt64 = iL a := by
  rw [← Int64.ofInt_int32ToInt, iZ_ti h1 h2]; rfl
theorem iZ_L {a : Int} (h1 : -9223372036854775808 ≤ a) (h2 : a < 9223372036854775808) : (iL a).toInt32 = iZ a := by
  rw [← Int32.ofInt_int64ToInt, iL_ti h1 h2]; rfl
theorem tmod_b {x y : Int} : -(if 0 ≤ x then x else -x) ≤ x.tmod y ∧ x.tmod y ≤ (if 0 ≤ x then x else -x) := by
  have h : (x.tmod y).natAbs = x.natAbs % y.natAbs := Int.natAbs_tmod x y
  have h2 : x.natAbs % y.natAbs ≤ x.natAbs := Nat.mod_le _ _
  split <;> omega
theorem tdiv_b {x y : Int} (hy : y ≠ 0) : -(if 0 ≤ x then x else -x) ≤ x.tdiv y ∧ x.tdiv y ≤ (if 0 ≤ x then x else -x) := by
  have h : (x.tdiv y).natAbs = x.natAbs / y.natAbs := Int.natAbs_tdiv x y
  have h2 : x.natAbs / y.natAbs ≤ x.natAbs := Nat.div_le_self _ _
  split <;> omega
theorem mul_b {x y B : Int} (hB : 0 ≤ B) (x1 : -B ≤ x) (x2 : x ≤ B) (y1 : -B ≤ y) (y2 : y ≤ B) : -(B * B) ≤ x * y ∧ x * y ≤ B * B := by
  have h : (x * y).natAbs ≤ B.natAbs * B.natAbs := by rw [Int.natAbs_mul]; exact Nat.mul_le_mul (by omega) (by omega)
  have h3 : ((B.natAbs * B.natAbs : Nat) : Int) = B * B := by rw [Int.natCast_mul, Int.natAbs_of_nonneg hB]
  omega
