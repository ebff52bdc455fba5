theorem shl_pw (k : Int32) (h0 : 0 ≤ k) (h1 : k ≤ 13) : (1 : Int32) <<< (k &&& 31) = pw k ∧ 1 ≤ pw k ∧ pw k ≤ 8192 := by
  have b := Int32.le_iff_toInt_le.mp h1
  have z : (13 : Int32).toInt = 13 := rfl
  rw [z] at b
  exact i32_cases (P := fun k => (1 : Int32) <<< (k &&& 31) = pw k ∧ 1 ≤ pw k ∧ pw k ≤ 8192) 13 h0 b (by decide)
theorem pw_12 (k : Int32) (h0 : 0 ≤ k) (h1 : k ≤ 12) : pw k ≤ 4096 := by
  have b := Int32.le_iff_toInt_le.mp h1
  have z : (12 : Int32).toInt = 12 := rfl
  rw [z] at b
  exact i32_cases (P := fun k => pw k ≤ 4096) 12 h0 b (by decide)
theorem pg24 {x y : Int32} (hx : 0 ≤ x ∧ x ≤ 23) (hy : 0 ≤ y ∧ y ≤ 23) : 0 ≤ (24 : Int32) * y + x ∧ (24 : Int32) * y + x ≤ 575 := by
  constructor <;> (simp only [xl, Int32.reduceToInt] at * <;> simp (disch := omega) only [Int32.toInt_add, Int32.toInt_mul, Nat.reducePow, Int32.reduceToInt, bmi] at * <;> omega)
