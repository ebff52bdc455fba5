theorem pw_3b (n : Int32) (h0 : 0 ≤ n) (h1 : n ≤ 3) : 1 ≤ pw n ∧ pw n ≤ 8 := by
  have b := Int32.le_iff_toInt_le.mp h1
  have z : (3 : Int32).toInt = 3 := rfl
  rw [z] at b
  exact i32_cases (P := fun n => 1 ≤ pw n ∧ pw n ≤ 8) 3 h0 b (by decide)
