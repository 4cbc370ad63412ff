/-! floorMod by a positive number, as the class has it. -/
theorem xor_neg {x y : Int} (x1 : -100000 ≤ x) (x2 : x < 0) (y1 : 0 < y) (y2 : y ≤ 100) : iZ x ^^^ iZ y < 0 := by
  have h : (iZ x ^^^ iZ y).toBitVec.msb = true := by
    rw [Int32.toBitVec_xor, BitVec.msb_xor]
    have a : (iZ x).toBitVec.msb = true := by
      rw [BitVec.msb_eq_toInt, show (iZ x).toBitVec.toInt = (iZ x).toInt from rfl, iZ_ti (by omega) (by omega)]
      exact decide_eq_true x2
    have c : (iZ y).toBitVec.msb = false := by
      rw [BitVec.msb_eq_toInt, show (iZ y).toBitVec.toInt = (iZ y).toInt from rfl, iZ_ti (by omega) (by omega)]
      exact decide_eq_false (by omega)
    rw [a, c]; rfl
  rw [BitVec.msb_eq_toInt] at h
  have h2 := of_decide_eq_true h
  rw [Int32.lt_iff_toInt_lt]
  exact h2
theorem xor_pos {x y : Int} (x1 : 0 ≤ x) (x2 : x ≤ 100000) (y1 : 0 < y) (y2 : y ≤ 100) : 0 ≤ iZ x ^^^ iZ y := by
  have h : (iZ x ^^^ iZ y).toBitVec.msb = false := by
    rw [Int32.toBitVec_xor, BitVec.msb_xor]
    have a : (iZ x).toBitVec.msb = false := by
      rw [BitVec.msb_eq_toInt, show (iZ x).toBitVec.toInt = (iZ x).toInt from rfl, iZ_ti (by omega) (by omega)]
      exact decide_eq_false (by omega)
    have c : (iZ y).toBitVec.msb = false := by
      rw [BitVec.msb_eq_toInt, show (iZ y).toBitVec.toInt = (iZ y).toInt from rfl, iZ_ti (by omega) (by omega)]
      exact decide_eq_false (by omega)
    rw [a, c]; rfl
  rw [BitVec.msb_eq_toInt] at h
  have h2 := of_decide_eq_false h
  rw [Int32.le_iff_toInt_le]
  have : (0 : Int32).toInt = 0 := rfl
  have e : (iZ x ^^^ iZ y).toBitVec.toInt = (iZ x ^^^ iZ y).toInt := rfl
  omega
theorem em_neg {x y : Int} (x2 : x < 0) (y1 : 0 < y) : (x.tmod y = 0 → x % y = 0) ∧ (x.tmod y ≠ 0 → x % y = x.tmod y + y) := by
  have e1 : x.tmod y = -((-x) % y) := by
    have := Int.neg_tmod (-x) y
    rw [Int.neg_neg] at this
    rw [this, Int.tmod_eq_emod_of_nonneg (by omega)]
  have q0 := Int.emod_nonneg (-x) (show y ≠ 0 by omega)
  have q1 := Int.emod_lt_of_pos (-x) y1
  have e2 := Int.emod_add_mul_ediv (-x) y
  refine ⟨fun z => ?_, fun z => ?_⟩
  · have h : x = y * (-((-x) / y)) := by rw [Int.mul_neg]; omega
    rw [h, Int.mul_emod_right]
  · have h : x = (y - (-x) % y) + y * (-((-x) / y) - 1) := by rw [Int.mul_sub, Int.mul_neg, Int.mul_one]; omega
    rw [e1]
    have : x % y = (y - (-x) % y) % y := by
      conv => lhs; rw [h]
      rw [Int.add_mul_emod_self_left]
    rw [this, Int.emod_eq_of_lt (by omega) (by omega)]
    omega
/-- floorMod -/
theorem fm_ok {x y : Int} (x1 : -100000 ≤ x) (x2 : x ≤ 100000) (y1 : 0 < y) (y2 : y ≤ 100) : fJ9_floorMod_7cf53 (iZ x) (iZ y) = iZ (x % y) := by
  unfold fJ9_floorMod_7cf53
  rw [iZ_rm (by omega) (by omega) (by omega) (by omega)]
  by_cases c : 0 ≤ x
  · rw [if_pos (xor_pos c x2 y1 y2), Int.tmod_eq_emod_of_nonneg c]
  · have n := xor_neg x1 (show x < 0 by omega) y1 y2
    rw [if_neg (by rw [Int32.not_le]; exact n)]
    have tb := tmod_b (x := x) (y := y)
    rw [if_neg (by omega)] at tb
    obtain ⟨m1, m2⟩ := em_neg (show x < 0 by omega) y1
    have e0 : (iZ (x.tmod y) = 0) = (x.tmod y = 0) := by rw [iZ_l0, iZ_eq (by omega) (by omega) (by omega) (by omega)]
    by_cases c2 : x.tmod y = 0
    · rw [if_pos (by rw [e0]; exact c2), m1 c2, c2]
    · rw [if_neg (by rw [e0]; exact c2), iZ_add, m2 c2]
