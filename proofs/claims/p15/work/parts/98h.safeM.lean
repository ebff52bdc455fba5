set_option maxHeartbeats 4000000 in
set_option maxRecDepth 20000 in
theorem s_Mo_thrown {mo_thrown : Int32} : ok (f_Mo_thrown mo_thrown) (fun o => True) := by
  refine ok_Q (fun Q9 hQ9 => ?_)
  unfold f_Mo_thrown
  exact ok_some (hQ9 _ trivial)

set_option maxHeartbeats 4000000 in
set_option maxRecDepth 20000 in
theorem s_Mo_within {p0 : Int32} {p1 : Int32} {p2 : Int32} : ok (f_Mo_within p0 p1 p2) (fun o => True) := by
  refine ok_Q (fun Q9 hQ9 => ?_)
  unfold f_Mo_within
  refine ok_if (fun q_1 => ?_) (fun q_1 => ?_)
  · skip
    refine ok_if (fun q_2 => ?_) (fun q_2 => ?_)
    · skip
      exact ok_some (hQ9 _ trivial)
    · skip
      exact ok_some (hQ9 _ trivial)
  · skip
    exact ok_some (hQ9 _ trivial)

set_option maxHeartbeats 4000000 in
set_option maxRecDepth 20000 in
theorem s_Mo_isIn {p0 : Int32} {p1 : Int32} {p2 : Int32} : ok (f_Mo_isIn p0 p1 p2) (fun o => ((0 : Int32) ≤ o ∧ o ≤ (1 : Int32)) ∧ (o = 1 → p1 ≤ p0 ∧ p0 ≤ p2)) := by
  refine ok_Q (fun Q9 hQ9 => ?_)
  unfold f_Mo_isIn
  refine ok_if (fun q_1 => ?_) (fun q_1 => ?_)
  · skip
    exact ok_some (hQ9 _ ⟨by clear hQ9; first | with_reducible assumption | (simp only [xl, xt, xe, xa, xb, xm, xg, ne_eq, Int32.reduceToInt] at * <;> omega) | (simp only [xl, xt, xe, ne_eq, Int32.reduceToInt] at * <;> simp (disch := omega) only [Int32.toInt_add, Int32.toInt_sub, Int32.toInt_mul, Int32.toInt_neg, Nat.reducePow, Int32.reduceToInt, bmi] at * <;> omega) | grind, by clear hQ9; first | with_reducible assumption | (simp only [xl, xt, xe, xa, xb, xm, xg, ne_eq, Int32.reduceToInt] at * <;> omega) | (simp only [xl, xt, xe, ne_eq, Int32.reduceToInt] at * <;> simp (disch := omega) only [Int32.toInt_add, Int32.toInt_sub, Int32.toInt_mul, Int32.toInt_neg, Nat.reducePow, Int32.reduceToInt, bmi] at * <;> omega) | grind⟩)
  · skip
    refine ok_if (fun q_2 => ?_) (fun q_2 => ?_)
    · skip
      exact ok_some (hQ9 _ ⟨by clear hQ9; first | with_reducible assumption | (simp only [xl, xt, xe, xa, xb, xm, xg, ne_eq, Int32.reduceToInt] at * <;> omega) | (simp only [xl, xt, xe, ne_eq, Int32.reduceToInt] at * <;> simp (disch := omega) only [Int32.toInt_add, Int32.toInt_sub, Int32.toInt_mul, Int32.toInt_neg, Nat.reducePow, Int32.reduceToInt, bmi] at * <;> omega) | grind, by clear hQ9; first | with_reducible assumption | (simp only [xl, xt, xe, xa, xb, xm, xg, ne_eq, Int32.reduceToInt] at * <;> omega) | (simp only [xl, xt, xe, ne_eq, Int32.reduceToInt] at * <;> simp (disch := omega) only [Int32.toInt_add, Int32.toInt_sub, Int32.toInt_mul, Int32.toInt_neg, Nat.reducePow, Int32.reduceToInt, bmi] at * <;> omega) | grind⟩)
    · skip
      exact ok_some (hQ9 _ ⟨by clear hQ9; first | with_reducible assumption | (simp only [xl, xt, xe, xa, xb, xm, xg, ne_eq, Int32.reduceToInt] at * <;> omega) | (simp only [xl, xt, xe, ne_eq, Int32.reduceToInt] at * <;> simp (disch := omega) only [Int32.toInt_add, Int32.toInt_sub, Int32.toInt_mul, Int32.toInt_neg, Nat.reducePow, Int32.reduceToInt, bmi] at * <;> omega) | grind, by clear hQ9; first | with_reducible assumption | (simp only [xl, xt, xe, xa, xb, xm, xg, ne_eq, Int32.reduceToInt] at * <;> omega) | (simp only [xl, xt, xe, ne_eq, Int32.reduceToInt] at * <;> simp (disch := omega) only [Int32.toInt_add, Int32.toInt_sub, Int32.toInt_mul, Int32.toInt_neg, Nat.reducePow, Int32.reduceToInt, bmi] at * <;> omega) | grind⟩)

set_option maxHeartbeats 4000000 in
set_option maxRecDepth 20000 in
theorem s_Mo_symbol {mo_symbols : Int32} {mo_wide : (Nat → Int32)} {mo_high : (Nat → Int32)} {mo_dark : (Nat → Int64)} {p0 : Int32} {p1 : Int32} (q_1 : ((0 : Int32) ≤ mo_symbols ∧ mo_symbols ≤ (16 : Int32))) (q_2 : R mo_wide (0 : Int32) (8 : Int32)) (q_3 : R mo_high (0 : Int32) (8 : Int32)) : ok (f_Mo_symbol mo_symbols mo_wide mo_high mo_dark p0 p1) (fun o => ((0 : Int32) ≤ o.2.2.1 ∧ o.2.2.1 ≤ (16 : Int32)) ∧ R o.2.2.2.1 (0 : Int32) (8 : Int32) ∧ R o.2.2.2.2.1 (0 : Int32) (8 : Int32)) := by
  refine ok_Q (fun Q9 hQ9 => ?_)
  unfold f_Mo_symbol
  refine ok_bd (s_Mo_isIn) (fun o9 h9 => ?_)
  obtain ⟨r_1, rfl⟩ : ∃ z9, z9 = o9 := ⟨_, rfl⟩
  obtain ⟨q_4, q_5⟩ := h9
  refine ok_jn (fun j9 => ∀ (s_2 : Int32), ((0 : Int32) ≤ s_2 ∧ s_2 ≤ (2 : Int32)) → (s_2 = 0 → (1 : Int32) ≤ p0 ∧ p0 ≤ 8 ∧ (1 : Int32) ≤ p1 ∧ p1 ≤ 8 ∧ ¬ mo_symbols = 16) → ok (j9 s_2) Q9) ?_ (fun j39 h_j39 => ?_)
  · intro s_2 q_6 q_7
    refine ok_if (fun q_8 => ?_) (fun q_8 => ?_)
    · skip
      refine ok_gq (16 : Int32) (by decide) (by clear hQ9; first | with_reducible assumption | (simp only [xl, xt, xe, xa, xb, xm, xg, ne_eq, Int32.reduceToInt] at * <;> omega) | (simp only [xl, xt, xe, ne_eq, Int32.reduceToInt] at * <;> simp (disch := omega) only [Int32.toInt_add, Int32.toInt_sub, Int32.toInt_mul, Int32.toInt_neg, Nat.reducePow, Int32.reduceToInt, bmi] at * <;> omega) | grind) (by clear hQ9; first | with_reducible assumption | (simp only [xl, xt, xe, xa, xb, xm, xg, ne_eq, Int32.reduceToInt] at * <;> omega) | (simp only [xl, xt, xe, ne_eq, Int32.reduceToInt] at * <;> simp (disch := omega) only [Int32.toInt_add, Int32.toInt_sub, Int32.toInt_mul, Int32.toInt_neg, Nat.reducePow, Int32.reduceToInt, bmi] at * <;> omega) | grind) ?_
      have q_9 : R (upd mo_wide (mo_symbols).toNatClampNeg p0) (0 : Int32) (8 : Int32) := R_upd (by assumption) _ (by clear hQ9; first | with_reducible assumption | (simp only [xl, xt, xe, xa, xb, xm, xg, ne_eq, Int32.reduceToInt] at * <;> omega) | (simp only [xl, xt, xe, ne_eq, Int32.reduceToInt] at * <;> simp (disch := omega) only [Int32.toInt_add, Int32.toInt_sub, Int32.toInt_mul, Int32.toInt_neg, Nat.reducePow, Int32.reduceToInt, bmi] at * <;> omega) | grind)
      refine ok_gq (16 : Int32) (by decide) (by clear hQ9; first | with_reducible assumption | (simp only [xl, xt, xe, xa, xb, xm, xg, ne_eq, Int32.reduceToInt] at * <;> omega) | (simp only [xl, xt, xe, ne_eq, Int32.reduceToInt] at * <;> simp (disch := omega) only [Int32.toInt_add, Int32.toInt_sub, Int32.toInt_mul, Int32.toInt_neg, Nat.reducePow, Int32.reduceToInt, bmi] at * <;> omega) | grind) (by clear hQ9; first | with_reducible assumption | (simp only [xl, xt, xe, xa, xb, xm, xg, ne_eq, Int32.reduceToInt] at * <;> omega) | (simp only [xl, xt, xe, ne_eq, Int32.reduceToInt] at * <;> simp (disch := omega) only [Int32.toInt_add, Int32.toInt_sub, Int32.toInt_mul, Int32.toInt_neg, Nat.reducePow, Int32.reduceToInt, bmi] at * <;> omega) | grind) ?_
      have q_10 : R (upd mo_high (mo_symbols).toNatClampNeg p1) (0 : Int32) (8 : Int32) := R_upd (by assumption) _ (by clear hQ9; first | with_reducible assumption | (simp only [xl, xt, xe, xa, xb, xm, xg, ne_eq, Int32.reduceToInt] at * <;> omega) | (simp only [xl, xt, xe, ne_eq, Int32.reduceToInt] at * <;> simp (disch := omega) only [Int32.toInt_add, Int32.toInt_sub, Int32.toInt_mul, Int32.toInt_neg, Nat.reducePow, Int32.reduceToInt, bmi] at * <;> omega) | grind)
      refine ok_gq (16 : Int32) (by decide) (by clear hQ9; first | with_reducible assumption | (simp only [xl, xt, xe, xa, xb, xm, xg, ne_eq, Int32.reduceToInt] at * <;> omega) | (simp only [xl, xt, xe, ne_eq, Int32.reduceToInt] at * <;> simp (disch := omega) only [Int32.toInt_add, Int32.toInt_sub, Int32.toInt_mul, Int32.toInt_neg, Nat.reducePow, Int32.reduceToInt, bmi] at * <;> omega) | grind) (by clear hQ9; first | with_reducible assumption | (simp only [xl, xt, xe, xa, xb, xm, xg, ne_eq, Int32.reduceToInt] at * <;> omega) | (simp only [xl, xt, xe, ne_eq, Int32.reduceToInt] at * <;> simp (disch := omega) only [Int32.toInt_add, Int32.toInt_sub, Int32.toInt_mul, Int32.toInt_neg, Nat.reducePow, Int32.reduceToInt, bmi] at * <;> omega) | grind) ?_
      refine ok_nl (fun symbols_3 e_symbols_3 => ?_)
      have q_11 : ((0 : Int32) ≤ symbols_3 ∧ symbols_3 ≤ (16 : Int32)) := by clear hQ9; first | with_reducible assumption | (simp only [xl, xt, xe, xa, xb, xm, xg, ne_eq, Int32.reduceToInt] at * <;> omega) | (simp only [xl, xt, xe, ne_eq, Int32.reduceToInt] at * <;> simp (disch := omega) only [Int32.toInt_add, Int32.toInt_sub, Int32.toInt_mul, Int32.toInt_neg, Nat.reducePow, Int32.reduceToInt, bmi] at * <;> omega) | grind
      exact ok_some (hQ9 _ ⟨by clear hQ9; first | with_reducible assumption | (simp only [xl, xt, xe, xa, xb, xm, xg, ne_eq, Int32.reduceToInt] at * <;> omega) | (simp only [xl, xt, xe, ne_eq, Int32.reduceToInt] at * <;> simp (disch := omega) only [Int32.toInt_add, Int32.toInt_sub, Int32.toInt_mul, Int32.toInt_neg, Nat.reducePow, Int32.reduceToInt, bmi] at * <;> omega) | grind, by assumption, by assumption⟩)
    · skip
      exact ok_some (hQ9 _ ⟨by clear hQ9; first | with_reducible assumption | (simp only [xl, xt, xe, xa, xb, xm, xg, ne_eq, Int32.reduceToInt] at * <;> omega) | (simp only [xl, xt, xe, ne_eq, Int32.reduceToInt] at * <;> simp (disch := omega) only [Int32.toInt_add, Int32.toInt_sub, Int32.toInt_mul, Int32.toInt_neg, Nat.reducePow, Int32.reduceToInt, bmi] at * <;> omega) | grind, by assumption, by assumption⟩)
  refine ok_jn (fun j9 => ∀ (_ : Unit), ok (j9 ()) Q9) ?_ (fun j21 h_j21 => ?_)
  · intro _
    exact h_j39 _ (by clear hQ9 h_j39; first | with_reducible assumption | (simp only [xl, xt, xe, xa, xb, xm, xg, ne_eq, Int32.reduceToInt] at * <;> omega) | (simp only [xl, xt, xe, ne_eq, Int32.reduceToInt] at * <;> simp (disch := omega) only [Int32.toInt_add, Int32.toInt_sub, Int32.toInt_mul, Int32.toInt_neg, Nat.reducePow, Int32.reduceToInt, bmi] at * <;> omega) | grind) (by clear hQ9 h_j39; first | with_reducible assumption | (simp only [xl, xt, xe, xa, xb, xm, xg, ne_eq, Int32.reduceToInt] at * <;> omega) | (simp only [xl, xt, xe, ne_eq, Int32.reduceToInt] at * <;> simp (disch := omega) only [Int32.toInt_add, Int32.toInt_sub, Int32.toInt_mul, Int32.toInt_neg, Nat.reducePow, Int32.reduceToInt, bmi] at * <;> omega) | grind)
  refine ok_if (fun q_12 => ?_) (fun q_12 => ?_)
  · skip
    exact h_j21 ()
  · skip
    refine ok_bd (s_Mo_isIn) (fun o9 h9 => ?_)
    obtain ⟨r_4, rfl⟩ : ∃ z9, z9 = o9 := ⟨_, rfl⟩
    obtain ⟨q_13, q_14⟩ := h9
    refine ok_if (fun q_15 => ?_) (fun q_15 => ?_)
    · skip
      exact h_j21 ()
    · skip
      refine ok_if (fun q_16 => ?_) (fun q_16 => ?_)
      · skip
        exact h_j39 _ (by clear hQ9 h_j39 h_j21; first | with_reducible assumption | (simp only [xl, xt, xe, xa, xb, xm, xg, ne_eq, Int32.reduceToInt] at * <;> omega) | (simp only [xl, xt, xe, ne_eq, Int32.reduceToInt] at * <;> simp (disch := omega) only [Int32.toInt_add, Int32.toInt_sub, Int32.toInt_mul, Int32.toInt_neg, Nat.reducePow, Int32.reduceToInt, bmi] at * <;> omega) | grind) (by clear hQ9 h_j39 h_j21; first | with_reducible assumption | (simp only [xl, xt, xe, xa, xb, xm, xg, ne_eq, Int32.reduceToInt] at * <;> omega) | (simp only [xl, xt, xe, ne_eq, Int32.reduceToInt] at * <;> simp (disch := omega) only [Int32.toInt_add, Int32.toInt_sub, Int32.toInt_mul, Int32.toInt_neg, Nat.reducePow, Int32.reduceToInt, bmi] at * <;> omega) | grind)
      · skip
        exact h_j39 _ (by clear hQ9 h_j39 h_j21; first | with_reducible assumption | (simp only [xl, xt, xe, xa, xb, xm, xg, ne_eq, Int32.reduceToInt] at * <;> omega) | (simp only [xl, xt, xe, ne_eq, Int32.reduceToInt] at * <;> simp (disch := omega) only [Int32.toInt_add, Int32.toInt_sub, Int32.toInt_mul, Int32.toInt_neg, Nat.reducePow, Int32.reduceToInt, bmi] at * <;> omega) | grind) (by clear hQ9 h_j39 h_j21; first | with_reducible assumption | (simp only [xl, xt, xe, xa, xb, xm, xg, ne_eq, Int32.reduceToInt] at * <;> omega) | (simp only [xl, xt, xe, ne_eq, Int32.reduceToInt] at * <;> simp (disch := omega) only [Int32.toInt_add, Int32.toInt_sub, Int32.toInt_mul, Int32.toInt_neg, Nat.reducePow, Int32.reduceToInt, bmi] at * <;> omega) | grind)

set_option maxHeartbeats 4000000 in
set_option maxRecDepth 20000 in
theorem s_Mo_isSample {mo_wide : (Nat → Int32)} {mo_high : (Nat → Int32)} {p0 : Int32} {p1 : Int32} {p2 : Int32} (q_1 : R mo_wide (0 : Int32) (8 : Int32)) (q_2 : R mo_high (0 : Int32) (8 : Int32)) (q_3 : ((0 : Int32) ≤ p0 ∧ p0 ≤ (15 : Int32))) : ok (f_Mo_isSample mo_wide mo_high p0 p1 p2) (fun o => ((0 : Int32) ≤ o ∧ o ≤ (1 : Int32))) := by
  refine ok_Q (fun Q9 hQ9 => ?_)
  unfold f_Mo_isSample
  refine ok_gq (16 : Int32) (by decide) (by clear hQ9; first | with_reducible assumption | (simp only [xl, xt, xe, xa, xb, xm, xg, ne_eq, Int32.reduceToInt] at * <;> omega) | (simp only [xl, xt, xe, ne_eq, Int32.reduceToInt] at * <;> simp (disch := omega) only [Int32.toInt_add, Int32.toInt_sub, Int32.toInt_mul, Int32.toInt_neg, Nat.reducePow, Int32.reduceToInt, bmi] at * <;> omega) | grind) (by clear hQ9; first | with_reducible assumption | (simp only [xl, xt, xe, xa, xb, xm, xg, ne_eq, Int32.reduceToInt] at * <;> omega) | (simp only [xl, xt, xe, ne_eq, Int32.reduceToInt] at * <;> simp (disch := omega) only [Int32.toInt_add, Int32.toInt_sub, Int32.toInt_mul, Int32.toInt_neg, Nat.reducePow, Int32.reduceToInt, bmi] at * <;> omega) | grind) ?_
  have q_4 := (by assumption : R mo_wide (0 : Int32) (8 : Int32)) (p0).toNatClampNeg
  refine ok_bd (s_Mo_isIn) (fun o9 h9 => ?_)
  obtain ⟨r_1, rfl⟩ : ∃ z9, z9 = o9 := ⟨_, rfl⟩
  obtain ⟨q_5, q_6⟩ := h9
  refine ok_if (fun q_7 => ?_) (fun q_7 => ?_)
  · skip
    exact ok_some (hQ9 _ (by clear hQ9; first | with_reducible assumption | (simp only [xl, xt, xe, xa, xb, xm, xg, ne_eq, Int32.reduceToInt] at * <;> omega) | (simp only [xl, xt, xe, ne_eq, Int32.reduceToInt] at * <;> simp (disch := omega) only [Int32.toInt_add, Int32.toInt_sub, Int32.toInt_mul, Int32.toInt_neg, Nat.reducePow, Int32.reduceToInt, bmi] at * <;> omega) | grind))
  · skip
    refine ok_gq (16 : Int32) (by decide) (by clear hQ9; first | with_reducible assumption | (simp only [xl, xt, xe, xa, xb, xm, xg, ne_eq, Int32.reduceToInt] at * <;> omega) | (simp only [xl, xt, xe, ne_eq, Int32.reduceToInt] at * <;> simp (disch := omega) only [Int32.toInt_add, Int32.toInt_sub, Int32.toInt_mul, Int32.toInt_neg, Nat.reducePow, Int32.reduceToInt, bmi] at * <;> omega) | grind) (by clear hQ9; first | with_reducible assumption | (simp only [xl, xt, xe, xa, xb, xm, xg, ne_eq, Int32.reduceToInt] at * <;> omega) | (simp only [xl, xt, xe, ne_eq, Int32.reduceToInt] at * <;> simp (disch := omega) only [Int32.toInt_add, Int32.toInt_sub, Int32.toInt_mul, Int32.toInt_neg, Nat.reducePow, Int32.reduceToInt, bmi] at * <;> omega) | grind) ?_
    have q_8 := (by assumption : R mo_high (0 : Int32) (8 : Int32)) (p0).toNatClampNeg
    refine ok_bd (s_Mo_isIn) (fun o9 h9 => ?_)
    obtain ⟨r_2, rfl⟩ : ∃ z9, z9 = o9 := ⟨_, rfl⟩
    obtain ⟨q_9, q_10⟩ := h9
    refine ok_if (fun q_11 => ?_) (fun q_11 => ?_)
    · skip
      exact ok_some (hQ9 _ (by clear hQ9; first | with_reducible assumption | (simp only [xl, xt, xe, xa, xb, xm, xg, ne_eq, Int32.reduceToInt] at * <;> omega) | (simp only [xl, xt, xe, ne_eq, Int32.reduceToInt] at * <;> simp (disch := omega) only [Int32.toInt_add, Int32.toInt_sub, Int32.toInt_mul, Int32.toInt_neg, Nat.reducePow, Int32.reduceToInt, bmi] at * <;> omega) | grind))
    · skip
      exact ok_some (hQ9 _ (by clear hQ9; first | with_reducible assumption | (simp only [xl, xt, xe, xa, xb, xm, xg, ne_eq, Int32.reduceToInt] at * <;> omega) | (simp only [xl, xt, xe, ne_eq, Int32.reduceToInt] at * <;> simp (disch := omega) only [Int32.toInt_add, Int32.toInt_sub, Int32.toInt_mul, Int32.toInt_neg, Nat.reducePow, Int32.reduceToInt, bmi] at * <;> omega) | grind))

set_option maxHeartbeats 4000000 in
set_option maxRecDepth 20000 in
theorem s_Mo_put {mo_symbols : Int32} {mo_dark : (Nat → Int64)} {mo_wide : (Nat → Int32)} {mo_high : (Nat → Int32)} {p0 : Int32} {p1 : Int32} {p2 : Int32} {p3 : Int32} (q_1 : ((0 : Int32) ≤ mo_symbols ∧ mo_symbols ≤ (16 : Int32))) (q_2 : R mo_wide (0 : Int32) (8 : Int32)) (q_3 : R mo_high (0 : Int32) (8 : Int32)) : ok (f_Mo_put mo_symbols mo_dark mo_wide mo_high p0 p1 p2 p3) (fun o => ((0 : Int32) ≤ o.1 ∧ o.1 ≤ (1 : Int32))) := by
  refine ok_Q (fun Q9 hQ9 => ?_)
  unfold f_Mo_put
  refine ok_bd (s_Mo_isIn) (fun o9 h9 => ?_)
  obtain ⟨r_1, rfl⟩ : ∃ z9, z9 = o9 := ⟨_, rfl⟩
  obtain ⟨q_4, q_5⟩ := h9
  refine ok_jn (fun j9 => ∀ (s_2 : Int32), ((0 : Int32) ≤ s_2 ∧ s_2 ≤ (1 : Int32)) → (s_2 = 0 → (0 : Int32) ≤ p0 ∧ p0 ≤ 15) → ok (j9 s_2) Q9) ?_ (fun j30 h_j30 => ?_)
  · intro s_2 q_6 q_7
    refine ok_if (fun q_8 => ?_) (fun q_8 => ?_)
    · skip
      refine ok_nl (fun v5_3 e_v5_3 => ?_)
      refine ok_gq (16 : Int32) (by decide) (by clear hQ9; first | with_reducible assumption | (simp only [xl, xt, xe, xa, xb, xm, xg, ne_eq, Int32.reduceToInt] at * <;> omega) | (simp only [xl, xt, xe, ne_eq, Int32.reduceToInt] at * <;> simp (disch := omega) only [Int32.toInt_add, Int32.toInt_sub, Int32.toInt_mul, Int32.toInt_neg, Nat.reducePow, Int32.reduceToInt, bmi] at * <;> omega) | grind) (by clear hQ9; first | with_reducible assumption | (simp only [xl, xt, xe, xa, xb, xm, xg, ne_eq, Int32.reduceToInt] at * <;> omega) | (simp only [xl, xt, xe, ne_eq, Int32.reduceToInt] at * <;> simp (disch := omega) only [Int32.toInt_add, Int32.toInt_sub, Int32.toInt_mul, Int32.toInt_neg, Nat.reducePow, Int32.reduceToInt, bmi] at * <;> omega) | grind) ?_
      refine ok_jn (fun j9 => ∀ (s_4 : Int32), ((0 : Int32) ≤ s_4 ∧ s_4 ≤ (1 : Int32)) → ok (j9 s_4) Q9) ?_ (fun j71 h_j71 => ?_)
      · intro s_4 q_9
        refine ok_jn (fun j9 => ∀ (s_5 : Int32) (s_6 : Int64), ((0 : Int32) ≤ s_5 ∧ s_5 ≤ (15 : Int32)) → ok (j9 s_5 s_6) Q9) ?_ (fun j108 h_j108 => ?_)
        · intro s_5 s_6 q_10
          refine ok_gq (16 : Int32) (by decide) (by clear hQ9; first | with_reducible assumption | (simp only [xl, xt, xe, xa, xb, xm, xg, ne_eq, Int32.reduceToInt] at * <;> omega) | (simp only [xl, xt, xe, ne_eq, Int32.reduceToInt] at * <;> simp (disch := omega) only [Int32.toInt_add, Int32.toInt_sub, Int32.toInt_mul, Int32.toInt_neg, Nat.reducePow, Int32.reduceToInt, bmi] at * <;> omega) | grind) (by clear hQ9; first | with_reducible assumption | (simp only [xl, xt, xe, xa, xb, xm, xg, ne_eq, Int32.reduceToInt] at * <;> omega) | (simp only [xl, xt, xe, ne_eq, Int32.reduceToInt] at * <;> simp (disch := omega) only [Int32.toInt_add, Int32.toInt_sub, Int32.toInt_mul, Int32.toInt_neg, Nat.reducePow, Int32.reduceToInt, bmi] at * <;> omega) | grind) ?_
          refine ok_if (fun q_11 => ?_) (fun q_11 => ?_)
          · skip
            exact ok_some (hQ9 _ (by clear hQ9; first | with_reducible assumption | (simp only [xl, xt, xe, xa, xb, xm, xg, ne_eq, Int32.reduceToInt] at * <;> omega) | (simp only [xl, xt, xe, ne_eq, Int32.reduceToInt] at * <;> simp (disch := omega) only [Int32.toInt_add, Int32.toInt_sub, Int32.toInt_mul, Int32.toInt_neg, Nat.reducePow, Int32.reduceToInt, bmi] at * <;> omega) | grind))
          · skip
            exact ok_some (hQ9 _ (by clear hQ9; first | with_reducible assumption | (simp only [xl, xt, xe, xa, xb, xm, xg, ne_eq, Int32.reduceToInt] at * <;> omega) | (simp only [xl, xt, xe, ne_eq, Int32.reduceToInt] at * <;> simp (disch := omega) only [Int32.toInt_add, Int32.toInt_sub, Int32.toInt_mul, Int32.toInt_neg, Nat.reducePow, Int32.reduceToInt, bmi] at * <;> omega) | grind))
        refine ok_if (fun q_12 => ?_) (fun q_12 => ?_)
        · skip
          refine ok_gq (16 : Int32) (by decide) (by clear hQ9 h_j108; first | with_reducible assumption | (simp only [xl, xt, xe, xa, xb, xm, xg, ne_eq, Int32.reduceToInt] at * <;> omega) | (simp only [xl, xt, xe, ne_eq, Int32.reduceToInt] at * <;> simp (disch := omega) only [Int32.toInt_add, Int32.toInt_sub, Int32.toInt_mul, Int32.toInt_neg, Nat.reducePow, Int32.reduceToInt, bmi] at * <;> omega) | grind) (by clear hQ9 h_j108; first | with_reducible assumption | (simp only [xl, xt, xe, xa, xb, xm, xg, ne_eq, Int32.reduceToInt] at * <;> omega) | (simp only [xl, xt, xe, ne_eq, Int32.reduceToInt] at * <;> simp (disch := omega) only [Int32.toInt_add, Int32.toInt_sub, Int32.toInt_mul, Int32.toInt_neg, Nat.reducePow, Int32.reduceToInt, bmi] at * <;> omega) | grind) ?_
          exact h_j108 _ _ (by clear hQ9 h_j108; first | with_reducible assumption | (simp only [xl, xt, xe, xa, xb, xm, xg, ne_eq, Int32.reduceToInt] at * <;> omega) | (simp only [xl, xt, xe, ne_eq, Int32.reduceToInt] at * <;> simp (disch := omega) only [Int32.toInt_add, Int32.toInt_sub, Int32.toInt_mul, Int32.toInt_neg, Nat.reducePow, Int32.reduceToInt, bmi] at * <;> omega) | grind)
        · skip
          refine ok_gq (16 : Int32) (by decide) (by clear hQ9 h_j108; first | with_reducible assumption | (simp only [xl, xt, xe, xa, xb, xm, xg, ne_eq, Int32.reduceToInt] at * <;> omega) | (simp only [xl, xt, xe, ne_eq, Int32.reduceToInt] at * <;> simp (disch := omega) only [Int32.toInt_add, Int32.toInt_sub, Int32.toInt_mul, Int32.toInt_neg, Nat.reducePow, Int32.reduceToInt, bmi] at * <;> omega) | grind) (by clear hQ9 h_j108; first | with_reducible assumption | (simp only [xl, xt, xe, xa, xb, xm, xg, ne_eq, Int32.reduceToInt] at * <;> omega) | (simp only [xl, xt, xe, ne_eq, Int32.reduceToInt] at * <;> simp (disch := omega) only [Int32.toInt_add, Int32.toInt_sub, Int32.toInt_mul, Int32.toInt_neg, Nat.reducePow, Int32.reduceToInt, bmi] at * <;> omega) | grind) ?_
          exact h_j108 _ _ (by clear hQ9 h_j108; first | with_reducible assumption | (simp only [xl, xt, xe, xa, xb, xm, xg, ne_eq, Int32.reduceToInt] at * <;> omega) | (simp only [xl, xt, xe, ne_eq, Int32.reduceToInt] at * <;> simp (disch := omega) only [Int32.toInt_add, Int32.toInt_sub, Int32.toInt_mul, Int32.toInt_neg, Nat.reducePow, Int32.reduceToInt, bmi] at * <;> omega) | grind)
      refine ok_if (fun q_13 => ?_) (fun q_13 => ?_)
      · skip
        exact h_j71 _ (by clear hQ9 h_j71; first | with_reducible assumption | (simp only [xl, xt, xe, xa, xb, xm, xg, ne_eq, Int32.reduceToInt] at * <;> omega) | (simp only [xl, xt, xe, ne_eq, Int32.reduceToInt] at * <;> simp (disch := omega) only [Int32.toInt_add, Int32.toInt_sub, Int32.toInt_mul, Int32.toInt_neg, Nat.reducePow, Int32.reduceToInt, bmi] at * <;> omega) | grind)
      · skip
        exact h_j71 _ (by clear hQ9 h_j71; first | with_reducible assumption | (simp only [xl, xt, xe, xa, xb, xm, xg, ne_eq, Int32.reduceToInt] at * <;> omega) | (simp only [xl, xt, xe, ne_eq, Int32.reduceToInt] at * <;> simp (disch := omega) only [Int32.toInt_add, Int32.toInt_sub, Int32.toInt_mul, Int32.toInt_neg, Nat.reducePow, Int32.reduceToInt, bmi] at * <;> omega) | grind)
    · skip
      exact ok_some (hQ9 _ (by clear hQ9; first | with_reducible assumption | (simp only [xl, xt, xe, xa, xb, xm, xg, ne_eq, Int32.reduceToInt] at * <;> omega) | (simp only [xl, xt, xe, ne_eq, Int32.reduceToInt] at * <;> simp (disch := omega) only [Int32.toInt_add, Int32.toInt_sub, Int32.toInt_mul, Int32.toInt_neg, Nat.reducePow, Int32.reduceToInt, bmi] at * <;> omega) | grind))
  refine ok_jn (fun j9 => ∀ (_ : Unit), ok (j9 ()) Q9) ?_ (fun j25 h_j25 => ?_)
  · intro _
    exact h_j30 _ (by clear hQ9 h_j30; first | with_reducible assumption | (simp only [xl, xt, xe, xa, xb, xm, xg, ne_eq, Int32.reduceToInt] at * <;> omega) | (simp only [xl, xt, xe, ne_eq, Int32.reduceToInt] at * <;> simp (disch := omega) only [Int32.toInt_add, Int32.toInt_sub, Int32.toInt_mul, Int32.toInt_neg, Nat.reducePow, Int32.reduceToInt, bmi] at * <;> omega) | grind) (by clear hQ9 h_j30; first | with_reducible assumption | (simp only [xl, xt, xe, xa, xb, xm, xg, ne_eq, Int32.reduceToInt] at * <;> omega) | (simp only [xl, xt, xe, ne_eq, Int32.reduceToInt] at * <;> simp (disch := omega) only [Int32.toInt_add, Int32.toInt_sub, Int32.toInt_mul, Int32.toInt_neg, Nat.reducePow, Int32.reduceToInt, bmi] at * <;> omega) | grind)
  refine ok_if (fun q_14 => ?_) (fun q_14 => ?_)
  · skip
    exact h_j25 ()
  · skip
    refine ok_bd (s_Mo_isSample (by assumption) (by assumption) (by clear hQ9 h_j30 h_j25; first | with_reducible assumption | (simp only [xl, xt, xe, xa, xb, xm, xg, ne_eq, Int32.reduceToInt] at * <;> omega) | (simp only [xl, xt, xe, ne_eq, Int32.reduceToInt] at * <;> simp (disch := omega) only [Int32.toInt_add, Int32.toInt_sub, Int32.toInt_mul, Int32.toInt_neg, Nat.reducePow, Int32.reduceToInt, bmi] at * <;> omega) | grind)) (fun o9 h9 => ?_)
    obtain ⟨r_7, rfl⟩ : ∃ z9, z9 = o9 := ⟨_, rfl⟩
    have q_15 := h9
    clear h9
    refine ok_if (fun q_16 => ?_) (fun q_16 => ?_)
    · skip
      exact h_j25 ()
    · skip
      exact h_j30 _ (by clear hQ9 h_j30 h_j25; first | with_reducible assumption | (simp only [xl, xt, xe, xa, xb, xm, xg, ne_eq, Int32.reduceToInt] at * <;> omega) | (simp only [xl, xt, xe, ne_eq, Int32.reduceToInt] at * <;> simp (disch := omega) only [Int32.toInt_add, Int32.toInt_sub, Int32.toInt_mul, Int32.toInt_neg, Nat.reducePow, Int32.reduceToInt, bmi] at * <;> omega) | grind) (by clear hQ9 h_j30 h_j25; first | with_reducible assumption | (simp only [xl, xt, xe, xa, xb, xm, xg, ne_eq, Int32.reduceToInt] at * <;> omega) | (simp only [xl, xt, xe, ne_eq, Int32.reduceToInt] at * <;> simp (disch := omega) only [Int32.toInt_add, Int32.toInt_sub, Int32.toInt_mul, Int32.toInt_neg, Nat.reducePow, Int32.reduceToInt, bmi] at * <;> omega) | grind)

set_option maxHeartbeats 4000000 in
set_option maxRecDepth 20000 in
theorem s_Mo_instance {mo_symbols : Int32} {mo_instances : Int32} {mo_symbolOf : (Nat → Int32)} {mo_xs : (Nat → Int32)} {mo_ys : (Nat → Int32)} {mo_differs : (Nat → Int64)} {p0 : Int32} {p1 : Int32} {p2 : Int32} (q_1 : ((0 : Int32) ≤ mo_symbols ∧ mo_symbols ≤ (16 : Int32))) (q_2 : ((0 : Int32) ≤ mo_instances ∧ mo_instances ≤ (40 : Int32))) (q_3 : R mo_symbolOf (0 : Int32) (15 : Int32)) (q_4 : R mo_xs (-8 : Int32) (31 : Int32)) (q_5 : R mo_ys (-8 : Int32) (31 : Int32)) : ok (f_Mo_instance mo_symbols mo_instances mo_symbolOf mo_xs mo_ys mo_differs p0 p1 p2) (fun o => ((0 : Int32) ≤ o.2.2.1 ∧ o.2.2.1 ≤ (40 : Int32)) ∧ R o.2.2.2.1 (0 : Int32) (15 : Int32) ∧ R o.2.2.2.2.1 (-8 : Int32) (31 : Int32) ∧ R o.2.2.2.2.2.1 (-8 : Int32) (31 : Int32)) := by
  refine ok_Q (fun Q9 hQ9 => ?_)
  unfold f_Mo_instance
  refine ok_bd (s_Mo_isIn) (fun o9 h9 => ?_)
  obtain ⟨r_1, rfl⟩ : ∃ z9, z9 = o9 := ⟨_, rfl⟩
  obtain ⟨q_6, q_7⟩ := h9
  refine ok_jn (fun j9 => ∀ (s_2 : Int32), ((0 : Int32) ≤ s_2 ∧ s_2 ≤ (3 : Int32)) → (s_2 = 0 → (0 : Int32) ≤ p0 ∧ p0 ≤ 15 ∧ (-8 : Int32) ≤ p1 ∧ p1 ≤ 31 ∧ (-8 : Int32) ≤ p2 ∧ p2 ≤ 31 ∧ ¬ mo_instances = 40) → ok (j9 s_2) Q9) ?_ (fun j59 h_j59 => ?_)
  · intro s_2 q_8 q_9
    refine ok_if (fun q_10 => ?_) (fun q_10 => ?_)
    · skip
      refine ok_gq (40 : Int32) (by decide) (by clear hQ9; first | with_reducible assumption | (simp only [xl, xt, xe, xa, xb, xm, xg, ne_eq, Int32.reduceToInt] at * <;> omega) | (simp only [xl, xt, xe, ne_eq, Int32.reduceToInt] at * <;> simp (disch := omega) only [Int32.toInt_add, Int32.toInt_sub, Int32.toInt_mul, Int32.toInt_neg, Nat.reducePow, Int32.reduceToInt, bmi] at * <;> omega) | grind) (by clear hQ9; first | with_reducible assumption | (simp only [xl, xt, xe, xa, xb, xm, xg, ne_eq, Int32.reduceToInt] at * <;> omega) | (simp only [xl, xt, xe, ne_eq, Int32.reduceToInt] at * <;> simp (disch := omega) only [Int32.toInt_add, Int32.toInt_sub, Int32.toInt_mul, Int32.toInt_neg, Nat.reducePow, Int32.reduceToInt, bmi] at * <;> omega) | grind) ?_
      have q_11 : R (upd mo_symbolOf (mo_instances).toNatClampNeg p0) (0 : Int32) (15 : Int32) := R_upd (by assumption) _ (by clear hQ9; first | with_reducible assumption | (simp only [xl, xt, xe, xa, xb, xm, xg, ne_eq, Int32.reduceToInt] at * <;> omega) | (simp only [xl, xt, xe, ne_eq, Int32.reduceToInt] at * <;> simp (disch := omega) only [Int32.toInt_add, Int32.toInt_sub, Int32.toInt_mul, Int32.toInt_neg, Nat.reducePow, Int32.reduceToInt, bmi] at * <;> omega) | grind)
      refine ok_gq (40 : Int32) (by decide) (by clear hQ9; first | with_reducible assumption | (simp only [xl, xt, xe, xa, xb, xm, xg, ne_eq, Int32.reduceToInt] at * <;> omega) | (simp only [xl, xt, xe, ne_eq, Int32.reduceToInt] at * <;> simp (disch := omega) only [Int32.toInt_add, Int32.toInt_sub, Int32.toInt_mul, Int32.toInt_neg, Nat.reducePow, Int32.reduceToInt, bmi] at * <;> omega) | grind) (by clear hQ9; first | with_reducible assumption | (simp only [xl, xt, xe, xa, xb, xm, xg, ne_eq, Int32.reduceToInt] at * <;> omega) | (simp only [xl, xt, xe, ne_eq, Int32.reduceToInt] at * <;> simp (disch := omega) only [Int32.toInt_add, Int32.toInt_sub, Int32.toInt_mul, Int32.toInt_neg, Nat.reducePow, Int32.reduceToInt, bmi] at * <;> omega) | grind) ?_
      have q_12 : R (upd mo_xs (mo_instances).toNatClampNeg p1) (-8 : Int32) (31 : Int32) := R_upd (by assumption) _ (by clear hQ9; first | with_reducible assumption | (simp only [xl, xt, xe, xa, xb, xm, xg, ne_eq, Int32.reduceToInt] at * <;> omega) | (simp only [xl, xt, xe, ne_eq, Int32.reduceToInt] at * <;> simp (disch := omega) only [Int32.toInt_add, Int32.toInt_sub, Int32.toInt_mul, Int32.toInt_neg, Nat.reducePow, Int32.reduceToInt, bmi] at * <;> omega) | grind)
      refine ok_gq (40 : Int32) (by decide) (by clear hQ9; first | with_reducible assumption | (simp only [xl, xt, xe, xa, xb, xm, xg, ne_eq, Int32.reduceToInt] at * <;> omega) | (simp only [xl, xt, xe, ne_eq, Int32.reduceToInt] at * <;> simp (disch := omega) only [Int32.toInt_add, Int32.toInt_sub, Int32.toInt_mul, Int32.toInt_neg, Nat.reducePow, Int32.reduceToInt, bmi] at * <;> omega) | grind) (by clear hQ9; first | with_reducible assumption | (simp only [xl, xt, xe, xa, xb, xm, xg, ne_eq, Int32.reduceToInt] at * <;> omega) | (simp only [xl, xt, xe, ne_eq, Int32.reduceToInt] at * <;> simp (disch := omega) only [Int32.toInt_add, Int32.toInt_sub, Int32.toInt_mul, Int32.toInt_neg, Nat.reducePow, Int32.reduceToInt, bmi] at * <;> omega) | grind) ?_
      have q_13 : R (upd mo_ys (mo_instances).toNatClampNeg p2) (-8 : Int32) (31 : Int32) := R_upd (by assumption) _ (by clear hQ9; first | with_reducible assumption | (simp only [xl, xt, xe, xa, xb, xm, xg, ne_eq, Int32.reduceToInt] at * <;> omega) | (simp only [xl, xt, xe, ne_eq, Int32.reduceToInt] at * <;> simp (disch := omega) only [Int32.toInt_add, Int32.toInt_sub, Int32.toInt_mul, Int32.toInt_neg, Nat.reducePow, Int32.reduceToInt, bmi] at * <;> omega) | grind)
      refine ok_gq (40 : Int32) (by decide) (by clear hQ9; first | with_reducible assumption | (simp only [xl, xt, xe, xa, xb, xm, xg, ne_eq, Int32.reduceToInt] at * <;> omega) | (simp only [xl, xt, xe, ne_eq, Int32.reduceToInt] at * <;> simp (disch := omega) only [Int32.toInt_add, Int32.toInt_sub, Int32.toInt_mul, Int32.toInt_neg, Nat.reducePow, Int32.reduceToInt, bmi] at * <;> omega) | grind) (by clear hQ9; first | with_reducible assumption | (simp only [xl, xt, xe, xa, xb, xm, xg, ne_eq, Int32.reduceToInt] at * <;> omega) | (simp only [xl, xt, xe, ne_eq, Int32.reduceToInt] at * <;> simp (disch := omega) only [Int32.toInt_add, Int32.toInt_sub, Int32.toInt_mul, Int32.toInt_neg, Nat.reducePow, Int32.reduceToInt, bmi] at * <;> omega) | grind) ?_
      refine ok_nl (fun instances_3 e_instances_3 => ?_)
      have q_14 : ((0 : Int32) ≤ instances_3 ∧ instances_3 ≤ (40 : Int32)) := by clear hQ9; first | with_reducible assumption | (simp only [xl, xt, xe, xa, xb, xm, xg, ne_eq, Int32.reduceToInt] at * <;> omega) | (simp only [xl, xt, xe, ne_eq, Int32.reduceToInt] at * <;> simp (disch := omega) only [Int32.toInt_add, Int32.toInt_sub, Int32.toInt_mul, Int32.toInt_neg, Nat.reducePow, Int32.reduceToInt, bmi] at * <;> omega) | grind
      exact ok_some (hQ9 _ ⟨by clear hQ9; first | with_reducible assumption | (simp only [xl, xt, xe, xa, xb, xm, xg, ne_eq, Int32.reduceToInt] at * <;> omega) | (simp only [xl, xt, xe, ne_eq, Int32.reduceToInt] at * <;> simp (disch := omega) only [Int32.toInt_add, Int32.toInt_sub, Int32.toInt_mul, Int32.toInt_neg, Nat.reducePow, Int32.reduceToInt, bmi] at * <;> omega) | grind, by assumption, by assumption, by assumption⟩)
    · skip
      exact ok_some (hQ9 _ ⟨by clear hQ9; first | with_reducible assumption | (simp only [xl, xt, xe, xa, xb, xm, xg, ne_eq, Int32.reduceToInt] at * <;> omega) | (simp only [xl, xt, xe, ne_eq, Int32.reduceToInt] at * <;> simp (disch := omega) only [Int32.toInt_add, Int32.toInt_sub, Int32.toInt_mul, Int32.toInt_neg, Nat.reducePow, Int32.reduceToInt, bmi] at * <;> omega) | grind, by assumption, by assumption, by assumption⟩)
  refine ok_if (fun q_15 => ?_) (fun q_15 => ?_)
  · skip
    exact h_j59 _ (by clear hQ9 h_j59; first | with_reducible assumption | (simp only [xl, xt, xe, xa, xb, xm, xg, ne_eq, Int32.reduceToInt] at * <;> omega) | (simp only [xl, xt, xe, ne_eq, Int32.reduceToInt] at * <;> simp (disch := omega) only [Int32.toInt_add, Int32.toInt_sub, Int32.toInt_mul, Int32.toInt_neg, Nat.reducePow, Int32.reduceToInt, bmi] at * <;> omega) | grind) (by clear hQ9 h_j59; first | with_reducible assumption | (simp only [xl, xt, xe, xa, xb, xm, xg, ne_eq, Int32.reduceToInt] at * <;> omega) | (simp only [xl, xt, xe, ne_eq, Int32.reduceToInt] at * <;> simp (disch := omega) only [Int32.toInt_add, Int32.toInt_sub, Int32.toInt_mul, Int32.toInt_neg, Nat.reducePow, Int32.reduceToInt, bmi] at * <;> omega) | grind)
  · skip
    refine ok_bd (s_Mo_isIn) (fun o9 h9 => ?_)
    obtain ⟨r_4, rfl⟩ : ∃ z9, z9 = o9 := ⟨_, rfl⟩
    obtain ⟨q_16, q_17⟩ := h9
    refine ok_jn (fun j9 => ∀ (_ : Unit), ok (j9 ()) Q9) ?_ (fun j41 h_j41 => ?_)
    · intro _
      exact h_j59 _ (by clear hQ9 h_j59; first | with_reducible assumption | (simp only [xl, xt, xe, xa, xb, xm, xg, ne_eq, Int32.reduceToInt] at * <;> omega) | (simp only [xl, xt, xe, ne_eq, Int32.reduceToInt] at * <;> simp (disch := omega) only [Int32.toInt_add, Int32.toInt_sub, Int32.toInt_mul, Int32.toInt_neg, Nat.reducePow, Int32.reduceToInt, bmi] at * <;> omega) | grind) (by clear hQ9 h_j59; first | with_reducible assumption | (simp only [xl, xt, xe, xa, xb, xm, xg, ne_eq, Int32.reduceToInt] at * <;> omega) | (simp only [xl, xt, xe, ne_eq, Int32.reduceToInt] at * <;> simp (disch := omega) only [Int32.toInt_add, Int32.toInt_sub, Int32.toInt_mul, Int32.toInt_neg, Nat.reducePow, Int32.reduceToInt, bmi] at * <;> omega) | grind)
    refine ok_if (fun q_18 => ?_) (fun q_18 => ?_)
    · skip
      exact h_j41 ()
    · skip
      refine ok_bd (s_Mo_isIn) (fun o9 h9 => ?_)
      obtain ⟨r_5, rfl⟩ : ∃ z9, z9 = o9 := ⟨_, rfl⟩
      obtain ⟨q_19, q_20⟩ := h9
      refine ok_if (fun q_21 => ?_) (fun q_21 => ?_)
      · skip
        exact h_j41 ()
      · skip
        refine ok_if (fun q_22 => ?_) (fun q_22 => ?_)
        · skip
          exact h_j59 _ (by clear hQ9 h_j59 h_j41; first | with_reducible assumption | (simp only [xl, xt, xe, xa, xb, xm, xg, ne_eq, Int32.reduceToInt] at * <;> omega) | (simp only [xl, xt, xe, ne_eq, Int32.reduceToInt] at * <;> simp (disch := omega) only [Int32.toInt_add, Int32.toInt_sub, Int32.toInt_mul, Int32.toInt_neg, Nat.reducePow, Int32.reduceToInt, bmi] at * <;> omega) | grind) (by clear hQ9 h_j59 h_j41; first | with_reducible assumption | (simp only [xl, xt, xe, xa, xb, xm, xg, ne_eq, Int32.reduceToInt] at * <;> omega) | (simp only [xl, xt, xe, ne_eq, Int32.reduceToInt] at * <;> simp (disch := omega) only [Int32.toInt_add, Int32.toInt_sub, Int32.toInt_mul, Int32.toInt_neg, Nat.reducePow, Int32.reduceToInt, bmi] at * <;> omega) | grind)
        · skip
          exact h_j59 _ (by clear hQ9 h_j59 h_j41; first | with_reducible assumption | (simp only [xl, xt, xe, xa, xb, xm, xg, ne_eq, Int32.reduceToInt] at * <;> omega) | (simp only [xl, xt, xe, ne_eq, Int32.reduceToInt] at * <;> simp (disch := omega) only [Int32.toInt_add, Int32.toInt_sub, Int32.toInt_mul, Int32.toInt_neg, Nat.reducePow, Int32.reduceToInt, bmi] at * <;> omega) | grind) (by clear hQ9 h_j59 h_j41; first | with_reducible assumption | (simp only [xl, xt, xe, xa, xb, xm, xg, ne_eq, Int32.reduceToInt] at * <;> omega) | (simp only [xl, xt, xe, ne_eq, Int32.reduceToInt] at * <;> simp (disch := omega) only [Int32.toInt_add, Int32.toInt_sub, Int32.toInt_mul, Int32.toInt_neg, Nat.reducePow, Int32.reduceToInt, bmi] at * <;> omega) | grind)

set_option maxHeartbeats 4000000 in
set_option maxRecDepth 20000 in
theorem s_Mo_isInstance {mo_instances : Int32} {p0 : Int32} (q_1 : ((0 : Int32) ≤ mo_instances ∧ mo_instances ≤ (40 : Int32))) : ok (f_Mo_isInstance mo_instances p0) (fun o => ((0 : Int32) ≤ o ∧ o ≤ (1 : Int32)) ∧ (o = 1 → (0 : Int32) ≤ p0 ∧ p0 < mo_instances)) := by
  refine ok_Q (fun Q9 hQ9 => ?_)
  unfold f_Mo_isInstance
  refine ok_bd (s_Mo_isIn) (fun o9 h9 => ?_)
  obtain ⟨r_1, rfl⟩ : ∃ z9, z9 = o9 := ⟨_, rfl⟩
  obtain ⟨q_2, q_3⟩ := h9
  refine ok_bz (by clear hQ9; first | with_reducible assumption | (simp only [xl, xt, xe, xa, xb, xm, xg, ne_eq, Int32.reduceToInt] at * <;> omega) | (simp only [xl, xt, xe, ne_eq, Int32.reduceToInt] at * <;> simp (disch := omega) only [Int32.toInt_add, Int32.toInt_sub, Int32.toInt_mul, Int32.toInt_neg, Nat.reducePow, Int32.reduceToInt, bmi] at * <;> omega) | grind) ?_
  exact ok_some (hQ9 _ ⟨by clear hQ9; first | with_reducible assumption | (simp only [xl, xt, xe, xa, xb, xm, xg, ne_eq, Int32.reduceToInt] at * <;> omega) | (simp only [xl, xt, xe, ne_eq, Int32.reduceToInt] at * <;> simp (disch := omega) only [Int32.toInt_add, Int32.toInt_sub, Int32.toInt_mul, Int32.toInt_neg, Nat.reducePow, Int32.reduceToInt, bmi] at * <;> omega) | grind, by clear hQ9; first | with_reducible assumption | (simp only [xl, xt, xe, xa, xb, xm, xg, ne_eq, Int32.reduceToInt] at * <;> omega) | (simp only [xl, xt, xe, ne_eq, Int32.reduceToInt] at * <;> simp (disch := omega) only [Int32.toInt_add, Int32.toInt_sub, Int32.toInt_mul, Int32.toInt_neg, Nat.reducePow, Int32.reduceToInt, bmi] at * <;> omega) | grind⟩)

set_option maxHeartbeats 4000000 in
set_option maxRecDepth 20000 in
theorem s_Mo_refine {mo_instances : Int32} {mo_differs : (Nat → Int64)} {mo_symbolOf : (Nat → Int32)} {mo_wide : (Nat → Int32)} {mo_high : (Nat → Int32)} {p0 : Int32} {p1 : Int32} {p2 : Int32} {p3 : Int32} (q_1 : ((0 : Int32) ≤ mo_instances ∧ mo_instances ≤ (40 : Int32))) (q_2 : R mo_symbolOf (0 : Int32) (15 : Int32)) (q_3 : R mo_wide (0 : Int32) (8 : Int32)) (q_4 : R mo_high (0 : Int32) (8 : Int32)) : ok (f_Mo_refine mo_instances mo_differs mo_symbolOf mo_wide mo_high p0 p1 p2 p3) (fun o => ((0 : Int32) ≤ o.1 ∧ o.1 ≤ (1 : Int32))) := by
  refine ok_Q (fun Q9 hQ9 => ?_)
  unfold f_Mo_refine
  refine ok_bd (s_Mo_isInstance (by clear hQ9; first | with_reducible assumption | (simp only [xl, xt, xe, xa, xb, xm, xg, ne_eq, Int32.reduceToInt] at * <;> omega) | (simp only [xl, xt, xe, ne_eq, Int32.reduceToInt] at * <;> simp (disch := omega) only [Int32.toInt_add, Int32.toInt_sub, Int32.toInt_mul, Int32.toInt_neg, Nat.reducePow, Int32.reduceToInt, bmi] at * <;> omega) | grind)) (fun o9 h9 => ?_)
  obtain ⟨r_1, rfl⟩ : ∃ z9, z9 = o9 := ⟨_, rfl⟩
  obtain ⟨q_5, q_6⟩ := h9
  refine ok_jn (fun j9 => ∀ (s_2 : Int32), ((0 : Int32) ≤ s_2 ∧ s_2 ≤ (1 : Int32)) → (s_2 = 0 → (0 : Int32) ≤ p0 ∧ p0 ≤ 39) → ok (j9 s_2) Q9) ?_ (fun j29 h_j29 => ?_)
  · intro s_2 q_7 q_8
    refine ok_if (fun q_9 => ?_) (fun q_9 => ?_)
    · skip
      refine ok_nl (fun v5_3 e_v5_3 => ?_)
      refine ok_gq (40 : Int32) (by decide) (by clear hQ9; first | with_reducible assumption | (simp only [xl, xt, xe, xa, xb, xm, xg, ne_eq, Int32.reduceToInt] at * <;> omega) | (simp only [xl, xt, xe, ne_eq, Int32.reduceToInt] at * <;> simp (disch := omega) only [Int32.toInt_add, Int32.toInt_sub, Int32.toInt_mul, Int32.toInt_neg, Nat.reducePow, Int32.reduceToInt, bmi] at * <;> omega) | grind) (by clear hQ9; first | with_reducible assumption | (simp only [xl, xt, xe, xa, xb, xm, xg, ne_eq, Int32.reduceToInt] at * <;> omega) | (simp only [xl, xt, xe, ne_eq, Int32.reduceToInt] at * <;> simp (disch := omega) only [Int32.toInt_add, Int32.toInt_sub, Int32.toInt_mul, Int32.toInt_neg, Nat.reducePow, Int32.reduceToInt, bmi] at * <;> omega) | grind) ?_
      refine ok_jn (fun j9 => ∀ (s_4 : Int32), ((0 : Int32) ≤ s_4 ∧ s_4 ≤ (1 : Int32)) → ok (j9 s_4) Q9) ?_ (fun j70 h_j70 => ?_)
      · intro s_4 q_10
        refine ok_jn (fun j9 => ∀ (s_5 : Int32) (s_6 : Int64), ((0 : Int32) ≤ s_5 ∧ s_5 ≤ (39 : Int32)) → ok (j9 s_5 s_6) Q9) ?_ (fun j107 h_j107 => ?_)
        · intro s_5 s_6 q_11
          refine ok_gq (40 : Int32) (by decide) (by clear hQ9; first | with_reducible assumption | (simp only [xl, xt, xe, xa, xb, xm, xg, ne_eq, Int32.reduceToInt] at * <;> omega) | (simp only [xl, xt, xe, ne_eq, Int32.reduceToInt] at * <;> simp (disch := omega) only [Int32.toInt_add, Int32.toInt_sub, Int32.toInt_mul, Int32.toInt_neg, Nat.reducePow, Int32.reduceToInt, bmi] at * <;> omega) | grind) (by clear hQ9; first | with_reducible assumption | (simp only [xl, xt, xe, xa, xb, xm, xg, ne_eq, Int32.reduceToInt] at * <;> omega) | (simp only [xl, xt, xe, ne_eq, Int32.reduceToInt] at * <;> simp (disch := omega) only [Int32.toInt_add, Int32.toInt_sub, Int32.toInt_mul, Int32.toInt_neg, Nat.reducePow, Int32.reduceToInt, bmi] at * <;> omega) | grind) ?_
          refine ok_if (fun q_12 => ?_) (fun q_12 => ?_)
          · skip
            exact ok_some (hQ9 _ (by clear hQ9; first | with_reducible assumption | (simp only [xl, xt, xe, xa, xb, xm, xg, ne_eq, Int32.reduceToInt] at * <;> omega) | (simp only [xl, xt, xe, ne_eq, Int32.reduceToInt] at * <;> simp (disch := omega) only [Int32.toInt_add, Int32.toInt_sub, Int32.toInt_mul, Int32.toInt_neg, Nat.reducePow, Int32.reduceToInt, bmi] at * <;> omega) | grind))
          · skip
            exact ok_some (hQ9 _ (by clear hQ9; first | with_reducible assumption | (simp only [xl, xt, xe, xa, xb, xm, xg, ne_eq, Int32.reduceToInt] at * <;> omega) | (simp only [xl, xt, xe, ne_eq, Int32.reduceToInt] at * <;> simp (disch := omega) only [Int32.toInt_add, Int32.toInt_sub, Int32.toInt_mul, Int32.toInt_neg, Nat.reducePow, Int32.reduceToInt, bmi] at * <;> omega) | grind))
        refine ok_if (fun q_13 => ?_) (fun q_13 => ?_)
        · skip
          refine ok_gq (40 : Int32) (by decide) (by clear hQ9 h_j107; first | with_reducible assumption | (simp only [xl, xt, xe, xa, xb, xm, xg, ne_eq, Int32.reduceToInt] at * <;> omega) | (simp only [xl, xt, xe, ne_eq, Int32.reduceToInt] at * <;> simp (disch := omega) only [Int32.toInt_add, Int32.toInt_sub, Int32.toInt_mul, Int32.toInt_neg, Nat.reducePow, Int32.reduceToInt, bmi] at * <;> omega) | grind) (by clear hQ9 h_j107; first | with_reducible assumption | (simp only [xl, xt, xe, xa, xb, xm, xg, ne_eq, Int32.reduceToInt] at * <;> omega) | (simp only [xl, xt, xe, ne_eq, Int32.reduceToInt] at * <;> simp (disch := omega) only [Int32.toInt_add, Int32.toInt_sub, Int32.toInt_mul, Int32.toInt_neg, Nat.reducePow, Int32.reduceToInt, bmi] at * <;> omega) | grind) ?_
          exact h_j107 _ _ (by clear hQ9 h_j107; first | with_reducible assumption | (simp only [xl, xt, xe, xa, xb, xm, xg, ne_eq, Int32.reduceToInt] at * <;> omega) | (simp only [xl, xt, xe, ne_eq, Int32.reduceToInt] at * <;> simp (disch := omega) only [Int32.toInt_add, Int32.toInt_sub, Int32.toInt_mul, Int32.toInt_neg, Nat.reducePow, Int32.reduceToInt, bmi] at * <;> omega) | grind)
        · skip
          refine ok_gq (40 : Int32) (by decide) (by clear hQ9 h_j107; first | with_reducible assumption | (simp only [xl, xt, xe, xa, xb, xm, xg, ne_eq, Int32.reduceToInt] at * <;> omega) | (simp only [xl, xt, xe, ne_eq, Int32.reduceToInt] at * <;> simp (disch := omega) only [Int32.toInt_add, Int32.toInt_sub, Int32.toInt_mul, Int32.toInt_neg, Nat.reducePow, Int32.reduceToInt, bmi] at * <;> omega) | grind) (by clear hQ9 h_j107; first | with_reducible assumption | (simp only [xl, xt, xe, xa, xb, xm, xg, ne_eq, Int32.reduceToInt] at * <;> omega) | (simp only [xl, xt, xe, ne_eq, Int32.reduceToInt] at * <;> simp (disch := omega) only [Int32.toInt_add, Int32.toInt_sub, Int32.toInt_mul, Int32.toInt_neg, Nat.reducePow, Int32.reduceToInt, bmi] at * <;> omega) | grind) ?_
          exact h_j107 _ _ (by clear hQ9 h_j107; first | with_reducible assumption | (simp only [xl, xt, xe, xa, xb, xm, xg, ne_eq, Int32.reduceToInt] at * <;> omega) | (simp only [xl, xt, xe, ne_eq, Int32.reduceToInt] at * <;> simp (disch := omega) only [Int32.toInt_add, Int32.toInt_sub, Int32.toInt_mul, Int32.toInt_neg, Nat.reducePow, Int32.reduceToInt, bmi] at * <;> omega) | grind)
      refine ok_if (fun q_14 => ?_) (fun q_14 => ?_)
      · skip
        exact h_j70 _ (by clear hQ9 h_j70; first | with_reducible assumption | (simp only [xl, xt, xe, xa, xb, xm, xg, ne_eq, Int32.reduceToInt] at * <;> omega) | (simp only [xl, xt, xe, ne_eq, Int32.reduceToInt] at * <;> simp (disch := omega) only [Int32.toInt_add, Int32.toInt_sub, Int32.toInt_mul, Int32.toInt_neg, Nat.reducePow, Int32.reduceToInt, bmi] at * <;> omega) | grind)
      · skip
        exact h_j70 _ (by clear hQ9 h_j70; first | with_reducible assumption | (simp only [xl, xt, xe, xa, xb, xm, xg, ne_eq, Int32.reduceToInt] at * <;> omega) | (simp only [xl, xt, xe, ne_eq, Int32.reduceToInt] at * <;> simp (disch := omega) only [Int32.toInt_add, Int32.toInt_sub, Int32.toInt_mul, Int32.toInt_neg, Nat.reducePow, Int32.reduceToInt, bmi] at * <;> omega) | grind)
    · skip
      exact ok_some (hQ9 _ (by clear hQ9; first | with_reducible assumption | (simp only [xl, xt, xe, xa, xb, xm, xg, ne_eq, Int32.reduceToInt] at * <;> omega) | (simp only [xl, xt, xe, ne_eq, Int32.reduceToInt] at * <;> simp (disch := omega) only [Int32.toInt_add, Int32.toInt_sub, Int32.toInt_mul, Int32.toInt_neg, Nat.reducePow, Int32.reduceToInt, bmi] at * <;> omega) | grind))
  refine ok_jn (fun j9 => ∀ (_ : Unit), ok (j9 ()) Q9) ?_ (fun j24 h_j24 => ?_)
  · intro _
    exact h_j29 _ (by clear hQ9 h_j29; first | with_reducible assumption | (simp only [xl, xt, xe, xa, xb, xm, xg, ne_eq, Int32.reduceToInt] at * <;> omega) | (simp only [xl, xt, xe, ne_eq, Int32.reduceToInt] at * <;> simp (disch := omega) only [Int32.toInt_add, Int32.toInt_sub, Int32.toInt_mul, Int32.toInt_neg, Nat.reducePow, Int32.reduceToInt, bmi] at * <;> omega) | grind) (by clear hQ9 h_j29; first | with_reducible assumption | (simp only [xl, xt, xe, xa, xb, xm, xg, ne_eq, Int32.reduceToInt] at * <;> omega) | (simp only [xl, xt, xe, ne_eq, Int32.reduceToInt] at * <;> simp (disch := omega) only [Int32.toInt_add, Int32.toInt_sub, Int32.toInt_mul, Int32.toInt_neg, Nat.reducePow, Int32.reduceToInt, bmi] at * <;> omega) | grind)
  refine ok_if (fun q_15 => ?_) (fun q_15 => ?_)
  · skip
    exact h_j24 ()
  · skip
    refine ok_gq (40 : Int32) (by decide) (by clear hQ9 h_j29 h_j24; first | with_reducible assumption | (simp only [xl, xt, xe, xa, xb, xm, xg, ne_eq, Int32.reduceToInt] at * <;> omega) | (simp only [xl, xt, xe, ne_eq, Int32.reduceToInt] at * <;> simp (disch := omega) only [Int32.toInt_add, Int32.toInt_sub, Int32.toInt_mul, Int32.toInt_neg, Nat.reducePow, Int32.reduceToInt, bmi] at * <;> omega) | grind) (by clear hQ9 h_j29 h_j24; first | with_reducible assumption | (simp only [xl, xt, xe, xa, xb, xm, xg, ne_eq, Int32.reduceToInt] at * <;> omega) | (simp only [xl, xt, xe, ne_eq, Int32.reduceToInt] at * <;> simp (disch := omega) only [Int32.toInt_add, Int32.toInt_sub, Int32.toInt_mul, Int32.toInt_neg, Nat.reducePow, Int32.reduceToInt, bmi] at * <;> omega) | grind) ?_
    have q_16 := (by assumption : R mo_symbolOf (0 : Int32) (15 : Int32)) (p0).toNatClampNeg
    refine ok_bd (s_Mo_isSample (by assumption) (by assumption) (by clear hQ9 h_j29 h_j24; first | with_reducible assumption | (simp only [xl, xt, xe, xa, xb, xm, xg, ne_eq, Int32.reduceToInt] at * <;> omega) | (simp only [xl, xt, xe, ne_eq, Int32.reduceToInt] at * <;> simp (disch := omega) only [Int32.toInt_add, Int32.toInt_sub, Int32.toInt_mul, Int32.toInt_neg, Nat.reducePow, Int32.reduceToInt, bmi] at * <;> omega) | grind)) (fun o9 h9 => ?_)
    obtain ⟨r_7, rfl⟩ : ∃ z9, z9 = o9 := ⟨_, rfl⟩
    have q_17 := h9
    clear h9
    refine ok_if (fun q_18 => ?_) (fun q_18 => ?_)
    · skip
      exact h_j24 ()
    · skip
      exact h_j29 _ (by clear hQ9 h_j29 h_j24; first | with_reducible assumption | (simp only [xl, xt, xe, xa, xb, xm, xg, ne_eq, Int32.reduceToInt] at * <;> omega) | (simp only [xl, xt, xe, ne_eq, Int32.reduceToInt] at * <;> simp (disch := omega) only [Int32.toInt_add, Int32.toInt_sub, Int32.toInt_mul, Int32.toInt_neg, Nat.reducePow, Int32.reduceToInt, bmi] at * <;> omega) | grind) (by clear hQ9 h_j29 h_j24; first | with_reducible assumption | (simp only [xl, xt, xe, xa, xb, xm, xg, ne_eq, Int32.reduceToInt] at * <;> omega) | (simp only [xl, xt, xe, ne_eq, Int32.reduceToInt] at * <;> simp (disch := omega) only [Int32.toInt_add, Int32.toInt_sub, Int32.toInt_mul, Int32.toInt_neg, Nat.reducePow, Int32.reduceToInt, bmi] at * <;> omega) | grind)

set_option maxHeartbeats 4000000 in
set_option maxRecDepth 20000 in
theorem s_Mo_way {mo_ways : (Nat → Int32)} {p0 : Int32} {p1 : Int32} (q_1 : R mo_ways (0 : Int32) (7 : Int32)) : ok (f_Mo_way mo_ways p0 p1) (fun o => R o.2.2 (0 : Int32) (7 : Int32)) := by
  refine ok_Q (fun Q9 hQ9 => ?_)
  unfold f_Mo_way
  refine ok_jn (fun j9 => ∀ (s_1 : Int32), ((1 : Int32) ≤ s_1 ∧ s_1 ≤ (4 : Int32)) → ok (j9 s_1) Q9) ?_ (fun j19 h_j19 => ?_)
  · intro s_1 q_2
    refine ok_bd (s_Mo_isIn) (fun o9 h9 => ?_)
    obtain ⟨r_2, rfl⟩ : ∃ z9, z9 = o9 := ⟨_, rfl⟩
    obtain ⟨q_3, q_4⟩ := h9
    refine ok_jn (fun j9 => ∀ (s_3 : Int32), ((0 : Int32) ≤ s_3 ∧ s_3 ≤ (1 : Int32)) → (s_3 = 0 → (0 : Int32) ≤ p0 ∧ p0 ≤ 3 ∧ (0 : Int32) ≤ p1 ∧ p1 ≤ 4) → ok (j9 s_3) Q9) ?_ (fun j44 h_j44 => ?_)
    · intro s_3 q_5 q_6
      refine ok_if (fun q_7 => ?_) (fun q_7 => ?_)
      · skip
        refine ok_gq (4 : Int32) (by decide) (by clear hQ9; first | with_reducible assumption | (simp only [xl, xt, xe, xa, xb, xm, xg, ne_eq, Int32.reduceToInt] at * <;> omega) | (simp only [xl, xt, xe, ne_eq, Int32.reduceToInt] at * <;> simp (disch := omega) only [Int32.toInt_add, Int32.toInt_sub, Int32.toInt_mul, Int32.toInt_neg, Nat.reducePow, Int32.reduceToInt, bmi] at * <;> omega) | grind) (by clear hQ9; first | with_reducible assumption | (simp only [xl, xt, xe, xa, xb, xm, xg, ne_eq, Int32.reduceToInt] at * <;> omega) | (simp only [xl, xt, xe, ne_eq, Int32.reduceToInt] at * <;> simp (disch := omega) only [Int32.toInt_add, Int32.toInt_sub, Int32.toInt_mul, Int32.toInt_neg, Nat.reducePow, Int32.reduceToInt, bmi] at * <;> omega) | grind) ?_
        have q_8 := (by assumption : R mo_ways (0 : Int32) (7 : Int32)) (p0).toNatClampNeg
        refine ok_nl (fun v4_4 e_v4_4 => ?_)
        refine ok_gq (4 : Int32) (by decide) (by clear hQ9; first | with_reducible assumption | (simp only [xl, xt, xe, xa, xb, xm, xg, ne_eq, Int32.reduceToInt] at * <;> omega) | (simp only [xl, xt, xe, ne_eq, Int32.reduceToInt] at * <;> simp (disch := omega) only [Int32.toInt_add, Int32.toInt_sub, Int32.toInt_mul, Int32.toInt_neg, Nat.reducePow, Int32.reduceToInt, bmi] at * <;> omega) | grind) (by clear hQ9; first | with_reducible assumption | (simp only [xl, xt, xe, xa, xb, xm, xg, ne_eq, Int32.reduceToInt] at * <;> omega) | (simp only [xl, xt, xe, ne_eq, Int32.reduceToInt] at * <;> simp (disch := omega) only [Int32.toInt_add, Int32.toInt_sub, Int32.toInt_mul, Int32.toInt_neg, Nat.reducePow, Int32.reduceToInt, bmi] at * <;> omega) | grind) ?_
        have q_9 : R (upd mo_ways (p0).toNatClampNeg p1) (0 : Int32) (7 : Int32) := R_upd (by assumption) _ (by clear hQ9; first | with_reducible assumption | (simp only [xl, xt, xe, xa, xb, xm, xg, ne_eq, Int32.reduceToInt] at * <;> omega) | (simp only [xl, xt, xe, ne_eq, Int32.reduceToInt] at * <;> simp (disch := omega) only [Int32.toInt_add, Int32.toInt_sub, Int32.toInt_mul, Int32.toInt_neg, Nat.reducePow, Int32.reduceToInt, bmi] at * <;> omega) | grind)
        exact ok_some (hQ9 _ (by assumption))
      · skip
        exact ok_some (hQ9 _ (by assumption))
    refine ok_jn (fun j9 => ∀ (_ : Unit), ok (j9 ()) Q9) ?_ (fun j43 h_j43 => ?_)
    · intro _
      exact h_j44 _ (by clear hQ9 h_j44; first | with_reducible assumption | (simp only [xl, xt, xe, xa, xb, xm, xg, ne_eq, Int32.reduceToInt] at * <;> omega) | (simp only [xl, xt, xe, ne_eq, Int32.reduceToInt] at * <;> simp (disch := omega) only [Int32.toInt_add, Int32.toInt_sub, Int32.toInt_mul, Int32.toInt_neg, Nat.reducePow, Int32.reduceToInt, bmi] at * <;> omega) | grind) (by clear hQ9 h_j44; first | with_reducible assumption | (simp only [xl, xt, xe, xa, xb, xm, xg, ne_eq, Int32.reduceToInt] at * <;> omega) | (simp only [xl, xt, xe, ne_eq, Int32.reduceToInt] at * <;> simp (disch := omega) only [Int32.toInt_add, Int32.toInt_sub, Int32.toInt_mul, Int32.toInt_neg, Nat.reducePow, Int32.reduceToInt, bmi] at * <;> omega) | grind)
    refine ok_if (fun q_10 => ?_) (fun q_10 => ?_)
    · skip
      exact h_j43 ()
    · skip
      refine ok_bd (s_Mo_isIn) (fun o9 h9 => ?_)
      obtain ⟨r_5, rfl⟩ : ∃ z9, z9 = o9 := ⟨_, rfl⟩
      obtain ⟨q_11, q_12⟩ := h9
      refine ok_if (fun q_13 => ?_) (fun q_13 => ?_)
      · skip
        exact h_j43 ()
      · skip
        exact h_j44 _ (by clear hQ9 h_j44 h_j43; first | with_reducible assumption | (simp only [xl, xt, xe, xa, xb, xm, xg, ne_eq, Int32.reduceToInt] at * <;> omega) | (simp only [xl, xt, xe, ne_eq, Int32.reduceToInt] at * <;> simp (disch := omega) only [Int32.toInt_add, Int32.toInt_sub, Int32.toInt_mul, Int32.toInt_neg, Nat.reducePow, Int32.reduceToInt, bmi] at * <;> omega) | grind) (by clear hQ9 h_j44 h_j43; first | with_reducible assumption | (simp only [xl, xt, xe, xa, xb, xm, xg, ne_eq, Int32.reduceToInt] at * <;> omega) | (simp only [xl, xt, xe, ne_eq, Int32.reduceToInt] at * <;> simp (disch := omega) only [Int32.toInt_add, Int32.toInt_sub, Int32.toInt_mul, Int32.toInt_neg, Nat.reducePow, Int32.reduceToInt, bmi] at * <;> omega) | grind)
  refine ok_if (fun q_14 => ?_) (fun q_14 => ?_)
  · skip
    exact h_j19 _ (by clear hQ9 h_j19; first | with_reducible assumption | (simp only [xl, xt, xe, xa, xb, xm, xg, ne_eq, Int32.reduceToInt] at * <;> omega) | (simp only [xl, xt, xe, ne_eq, Int32.reduceToInt] at * <;> simp (disch := omega) only [Int32.toInt_add, Int32.toInt_sub, Int32.toInt_mul, Int32.toInt_neg, Nat.reducePow, Int32.reduceToInt, bmi] at * <;> omega) | grind)
  · skip
    refine ok_if (fun q_15 => ?_) (fun q_15 => ?_)
    · skip
      exact h_j19 _ (by clear hQ9 h_j19; first | with_reducible assumption | (simp only [xl, xt, xe, xa, xb, xm, xg, ne_eq, Int32.reduceToInt] at * <;> omega) | (simp only [xl, xt, xe, ne_eq, Int32.reduceToInt] at * <;> simp (disch := omega) only [Int32.toInt_add, Int32.toInt_sub, Int32.toInt_mul, Int32.toInt_neg, Nat.reducePow, Int32.reduceToInt, bmi] at * <;> omega) | grind)
    · skip
      exact h_j19 _ (by clear hQ9 h_j19; first | with_reducible assumption | (simp only [xl, xt, xe, xa, xb, xm, xg, ne_eq, Int32.reduceToInt] at * <;> omega) | (simp only [xl, xt, xe, ne_eq, Int32.reduceToInt] at * <;> simp (disch := omega) only [Int32.toInt_add, Int32.toInt_sub, Int32.toInt_mul, Int32.toInt_neg, Nat.reducePow, Int32.reduceToInt, bmi] at * <;> omega) | grind)

set_option maxHeartbeats 4000000 in
set_option maxRecDepth 20000 in
theorem s_Mo_columnOf {mo_xs : (Nat → Int32)} {mo_ways : (Nat → Int32)} {mo_wide : (Nat → Int32)} {mo_symbolOf : (Nat → Int32)} {p0 : Int32} (q_1 : R mo_xs (-8 : Int32) (31 : Int32)) (q_2 : R mo_ways (0 : Int32) (7 : Int32)) (q_3 : R mo_wide (0 : Int32) (8 : Int32)) (q_4 : R mo_symbolOf (0 : Int32) (15 : Int32)) (q_5 : ((0 : Int32) ≤ p0 ∧ p0 ≤ (39 : Int32))) : ok (f_Mo_columnOf mo_xs mo_ways mo_wide mo_symbolOf p0) (fun o => ((-9 : Int32) ≤ o ∧ o ≤ (38 : Int32))) := by
  refine ok_Q (fun Q9 hQ9 => ?_)
  unfold f_Mo_columnOf
  refine ok_gq (40 : Int32) (by decide) (by clear hQ9; first | with_reducible assumption | (simp only [xl, xt, xe, xa, xb, xm, xg, ne_eq, Int32.reduceToInt] at * <;> omega) | (simp only [xl, xt, xe, ne_eq, Int32.reduceToInt] at * <;> simp (disch := omega) only [Int32.toInt_add, Int32.toInt_sub, Int32.toInt_mul, Int32.toInt_neg, Nat.reducePow, Int32.reduceToInt, bmi] at * <;> omega) | grind) (by clear hQ9; first | with_reducible assumption | (simp only [xl, xt, xe, xa, xb, xm, xg, ne_eq, Int32.reduceToInt] at * <;> omega) | (simp only [xl, xt, xe, ne_eq, Int32.reduceToInt] at * <;> simp (disch := omega) only [Int32.toInt_add, Int32.toInt_sub, Int32.toInt_mul, Int32.toInt_neg, Nat.reducePow, Int32.reduceToInt, bmi] at * <;> omega) | grind) ?_
  have q_6 := (by assumption : R mo_xs (-8 : Int32) (31 : Int32)) (p0).toNatClampNeg
  refine ok_gq (4 : Int32) (by decide) (by clear hQ9; first | with_reducible assumption | (simp only [xl, xt, xe, xa, xb, xm, xg, ne_eq, Int32.reduceToInt] at * <;> omega) | (simp only [xl, xt, xe, ne_eq, Int32.reduceToInt] at * <;> simp (disch := omega) only [Int32.toInt_add, Int32.toInt_sub, Int32.toInt_mul, Int32.toInt_neg, Nat.reducePow, Int32.reduceToInt, bmi] at * <;> omega) | grind) (by clear hQ9; first | with_reducible assumption | (simp only [xl, xt, xe, xa, xb, xm, xg, ne_eq, Int32.reduceToInt] at * <;> omega) | (simp only [xl, xt, xe, ne_eq, Int32.reduceToInt] at * <;> simp (disch := omega) only [Int32.toInt_add, Int32.toInt_sub, Int32.toInt_mul, Int32.toInt_neg, Nat.reducePow, Int32.reduceToInt, bmi] at * <;> omega) | grind) ?_
  have q_7 := (by assumption : R mo_ways (0 : Int32) (7 : Int32)) ((0 : Int32)).toNatClampNeg
  refine ok_if (fun q_8 => ?_) (fun q_8 => ?_)
  · skip
    exact ok_some (hQ9 _ (by clear hQ9; first | with_reducible assumption | (simp only [xl, xt, xe, xa, xb, xm, xg, ne_eq, Int32.reduceToInt] at * <;> omega) | (simp only [xl, xt, xe, ne_eq, Int32.reduceToInt] at * <;> simp (disch := omega) only [Int32.toInt_add, Int32.toInt_sub, Int32.toInt_mul, Int32.toInt_neg, Nat.reducePow, Int32.reduceToInt, bmi] at * <;> omega) | grind))
  · skip
    refine ok_gq (40 : Int32) (by decide) (by clear hQ9; first | with_reducible assumption | (simp only [xl, xt, xe, xa, xb, xm, xg, ne_eq, Int32.reduceToInt] at * <;> omega) | (simp only [xl, xt, xe, ne_eq, Int32.reduceToInt] at * <;> simp (disch := omega) only [Int32.toInt_add, Int32.toInt_sub, Int32.toInt_mul, Int32.toInt_neg, Nat.reducePow, Int32.reduceToInt, bmi] at * <;> omega) | grind) (by clear hQ9; first | with_reducible assumption | (simp only [xl, xt, xe, xa, xb, xm, xg, ne_eq, Int32.reduceToInt] at * <;> omega) | (simp only [xl, xt, xe, ne_eq, Int32.reduceToInt] at * <;> simp (disch := omega) only [Int32.toInt_add, Int32.toInt_sub, Int32.toInt_mul, Int32.toInt_neg, Nat.reducePow, Int32.reduceToInt, bmi] at * <;> omega) | grind) ?_
    have q_9 := (by assumption : R mo_symbolOf (0 : Int32) (15 : Int32)) (p0).toNatClampNeg
    refine ok_gq (16 : Int32) (by decide) (by clear hQ9; first | with_reducible assumption | (simp only [xl, xt, xe, xa, xb, xm, xg, ne_eq, Int32.reduceToInt] at * <;> omega) | (simp only [xl, xt, xe, ne_eq, Int32.reduceToInt] at * <;> simp (disch := omega) only [Int32.toInt_add, Int32.toInt_sub, Int32.toInt_mul, Int32.toInt_neg, Nat.reducePow, Int32.reduceToInt, bmi] at * <;> omega) | grind) (by clear hQ9; first | with_reducible assumption | (simp only [xl, xt, xe, xa, xb, xm, xg, ne_eq, Int32.reduceToInt] at * <;> omega) | (simp only [xl, xt, xe, ne_eq, Int32.reduceToInt] at * <;> simp (disch := omega) only [Int32.toInt_add, Int32.toInt_sub, Int32.toInt_mul, Int32.toInt_neg, Nat.reducePow, Int32.reduceToInt, bmi] at * <;> omega) | grind) ?_
    have q_10 := (by assumption : R mo_wide (0 : Int32) (8 : Int32)) ((mo_symbolOf (p0).toNatClampNeg)).toNatClampNeg
    exact ok_some (hQ9 _ (by clear hQ9; first | with_reducible assumption | (simp only [xl, xt, xe, xa, xb, xm, xg, ne_eq, Int32.reduceToInt] at * <;> omega) | (simp only [xl, xt, xe, ne_eq, Int32.reduceToInt] at * <;> simp (disch := omega) only [Int32.toInt_add, Int32.toInt_sub, Int32.toInt_mul, Int32.toInt_neg, Nat.reducePow, Int32.reduceToInt, bmi] at * <;> omega) | grind))

set_option maxHeartbeats 4000000 in
set_option maxRecDepth 20000 in
theorem s_Mo_rowOf {mo_ys : (Nat → Int32)} {mo_ways : (Nat → Int32)} {mo_high : (Nat → Int32)} {mo_symbolOf : (Nat → Int32)} {p0 : Int32} (q_1 : R mo_ys (-8 : Int32) (31 : Int32)) (q_2 : R mo_ways (0 : Int32) (7 : Int32)) (q_3 : R mo_high (0 : Int32) (8 : Int32)) (q_4 : R mo_symbolOf (0 : Int32) (15 : Int32)) (q_5 : ((0 : Int32) ≤ p0 ∧ p0 ≤ (39 : Int32))) : ok (f_Mo_rowOf mo_ys mo_ways mo_high mo_symbolOf p0) (fun o => ((-9 : Int32) ≤ o ∧ o ≤ (38 : Int32))) := by
  refine ok_Q (fun Q9 hQ9 => ?_)
  unfold f_Mo_rowOf
  refine ok_gq (40 : Int32) (by decide) (by clear hQ9; first | with_reducible assumption | (simp only [xl, xt, xe, xa, xb, xm, xg, ne_eq, Int32.reduceToInt] at * <;> omega) | (simp only [xl, xt, xe, ne_eq, Int32.reduceToInt] at * <;> simp (disch := omega) only [Int32.toInt_add, Int32.toInt_sub, Int32.toInt_mul, Int32.toInt_neg, Nat.reducePow, Int32.reduceToInt, bmi] at * <;> omega) | grind) (by clear hQ9; first | with_reducible assumption | (simp only [xl, xt, xe, xa, xb, xm, xg, ne_eq, Int32.reduceToInt] at * <;> omega) | (simp only [xl, xt, xe, ne_eq, Int32.reduceToInt] at * <;> simp (disch := omega) only [Int32.toInt_add, Int32.toInt_sub, Int32.toInt_mul, Int32.toInt_neg, Nat.reducePow, Int32.reduceToInt, bmi] at * <;> omega) | grind) ?_
  have q_6 := (by assumption : R mo_ys (-8 : Int32) (31 : Int32)) (p0).toNatClampNeg
  refine ok_gq (4 : Int32) (by decide) (by clear hQ9; first | with_reducible assumption | (simp only [xl, xt, xe, xa, xb, xm, xg, ne_eq, Int32.reduceToInt] at * <;> omega) | (simp only [xl, xt, xe, ne_eq, Int32.reduceToInt] at * <;> simp (disch := omega) only [Int32.toInt_add, Int32.toInt_sub, Int32.toInt_mul, Int32.toInt_neg, Nat.reducePow, Int32.reduceToInt, bmi] at * <;> omega) | grind) (by clear hQ9; first | with_reducible assumption | (simp only [xl, xt, xe, xa, xb, xm, xg, ne_eq, Int32.reduceToInt] at * <;> omega) | (simp only [xl, xt, xe, ne_eq, Int32.reduceToInt] at * <;> simp (disch := omega) only [Int32.toInt_add, Int32.toInt_sub, Int32.toInt_mul, Int32.toInt_neg, Nat.reducePow, Int32.reduceToInt, bmi] at * <;> omega) | grind) ?_
  have q_7 := (by assumption : R mo_ways (0 : Int32) (7 : Int32)) ((0 : Int32)).toNatClampNeg
  refine ok_if (fun q_8 => ?_) (fun q_8 => ?_)
  · skip
    refine ok_gq (40 : Int32) (by decide) (by clear hQ9; first | with_reducible assumption | (simp only [xl, xt, xe, xa, xb, xm, xg, ne_eq, Int32.reduceToInt] at * <;> omega) | (simp only [xl, xt, xe, ne_eq, Int32.reduceToInt] at * <;> simp (disch := omega) only [Int32.toInt_add, Int32.toInt_sub, Int32.toInt_mul, Int32.toInt_neg, Nat.reducePow, Int32.reduceToInt, bmi] at * <;> omega) | grind) (by clear hQ9; first | with_reducible assumption | (simp only [xl, xt, xe, xa, xb, xm, xg, ne_eq, Int32.reduceToInt] at * <;> omega) | (simp only [xl, xt, xe, ne_eq, Int32.reduceToInt] at * <;> simp (disch := omega) only [Int32.toInt_add, Int32.toInt_sub, Int32.toInt_mul, Int32.toInt_neg, Nat.reducePow, Int32.reduceToInt, bmi] at * <;> omega) | grind) ?_
    have q_9 := (by assumption : R mo_symbolOf (0 : Int32) (15 : Int32)) (p0).toNatClampNeg
    refine ok_gq (16 : Int32) (by decide) (by clear hQ9; first | with_reducible assumption | (simp only [xl, xt, xe, xa, xb, xm, xg, ne_eq, Int32.reduceToInt] at * <;> omega) | (simp only [xl, xt, xe, ne_eq, Int32.reduceToInt] at * <;> simp (disch := omega) only [Int32.toInt_add, Int32.toInt_sub, Int32.toInt_mul, Int32.toInt_neg, Nat.reducePow, Int32.reduceToInt, bmi] at * <;> omega) | grind) (by clear hQ9; first | with_reducible assumption | (simp only [xl, xt, xe, xa, xb, xm, xg, ne_eq, Int32.reduceToInt] at * <;> omega) | (simp only [xl, xt, xe, ne_eq, Int32.reduceToInt] at * <;> simp (disch := omega) only [Int32.toInt_add, Int32.toInt_sub, Int32.toInt_mul, Int32.toInt_neg, Nat.reducePow, Int32.reduceToInt, bmi] at * <;> omega) | grind) ?_
    have q_10 := (by assumption : R mo_high (0 : Int32) (8 : Int32)) ((mo_symbolOf (p0).toNatClampNeg)).toNatClampNeg
    exact ok_some (hQ9 _ (by clear hQ9; first | with_reducible assumption | (simp only [xl, xt, xe, xa, xb, xm, xg, ne_eq, Int32.reduceToInt] at * <;> omega) | (simp only [xl, xt, xe, ne_eq, Int32.reduceToInt] at * <;> simp (disch := omega) only [Int32.toInt_add, Int32.toInt_sub, Int32.toInt_mul, Int32.toInt_neg, Nat.reducePow, Int32.reduceToInt, bmi] at * <;> omega) | grind))
  · skip
    exact ok_some (hQ9 _ (by clear hQ9; first | with_reducible assumption | (simp only [xl, xt, xe, xa, xb, xm, xg, ne_eq, Int32.reduceToInt] at * <;> omega) | (simp only [xl, xt, xe, ne_eq, Int32.reduceToInt] at * <;> simp (disch := omega) only [Int32.toInt_add, Int32.toInt_sub, Int32.toInt_mul, Int32.toInt_neg, Nat.reducePow, Int32.reduceToInt, bmi] at * <;> omega) | grind))

set_option maxHeartbeats 4000000 in
set_option maxRecDepth 20000 in
theorem s_Mo_sOf {mo_ways : (Nat → Int32)} {mo_xs : (Nat → Int32)} {mo_wide : (Nat → Int32)} {mo_symbolOf : (Nat → Int32)} {mo_ys : (Nat → Int32)} {mo_high : (Nat → Int32)} {p0 : Int32} (q_1 : R mo_ways (0 : Int32) (7 : Int32)) (q_2 : R mo_xs (-8 : Int32) (31 : Int32)) (q_3 : R mo_wide (0 : Int32) (8 : Int32)) (q_4 : R mo_symbolOf (0 : Int32) (15 : Int32)) (q_5 : R mo_ys (-8 : Int32) (31 : Int32)) (q_6 : R mo_high (0 : Int32) (8 : Int32)) (q_7 : ((0 : Int32) ≤ p0 ∧ p0 ≤ (39 : Int32))) : ok (f_Mo_sOf mo_ways mo_xs mo_wide mo_symbolOf mo_ys mo_high p0) (fun o => ((-9 : Int32) ≤ o ∧ o ≤ (38 : Int32))) := by
  refine ok_Q (fun Q9 hQ9 => ?_)
  unfold f_Mo_sOf
  refine ok_gq (4 : Int32) (by decide) (by clear hQ9; first | with_reducible assumption | (simp only [xl, xt, xe, xa, xb, xm, xg, ne_eq, Int32.reduceToInt] at * <;> omega) | (simp only [xl, xt, xe, ne_eq, Int32.reduceToInt] at * <;> simp (disch := omega) only [Int32.toInt_add, Int32.toInt_sub, Int32.toInt_mul, Int32.toInt_neg, Nat.reducePow, Int32.reduceToInt, bmi] at * <;> omega) | grind) (by clear hQ9; first | with_reducible assumption | (simp only [xl, xt, xe, xa, xb, xm, xg, ne_eq, Int32.reduceToInt] at * <;> omega) | (simp only [xl, xt, xe, ne_eq, Int32.reduceToInt] at * <;> simp (disch := omega) only [Int32.toInt_add, Int32.toInt_sub, Int32.toInt_mul, Int32.toInt_neg, Nat.reducePow, Int32.reduceToInt, bmi] at * <;> omega) | grind) ?_
  have q_8 := (by assumption : R mo_ways (0 : Int32) (7 : Int32)) ((1 : Int32)).toNatClampNeg
  refine ok_if (fun q_9 => ?_) (fun q_9 => ?_)
  · skip
    refine ok_bd (s_Mo_rowOf (by assumption) (by assumption) (by assumption) (by assumption) (by clear hQ9; first | with_reducible assumption | (simp only [xl, xt, xe, xa, xb, xm, xg, ne_eq, Int32.reduceToInt] at * <;> omega) | (simp only [xl, xt, xe, ne_eq, Int32.reduceToInt] at * <;> simp (disch := omega) only [Int32.toInt_add, Int32.toInt_sub, Int32.toInt_mul, Int32.toInt_neg, Nat.reducePow, Int32.reduceToInt, bmi] at * <;> omega) | grind)) (fun o9 h9 => ?_)
    obtain ⟨r_2, rfl⟩ : ∃ z9, z9 = o9 := ⟨_, rfl⟩
    have q_10 := h9
    clear h9
    exact ok_some (hQ9 _ (by clear hQ9; first | with_reducible assumption | (simp only [xl, xt, xe, xa, xb, xm, xg, ne_eq, Int32.reduceToInt] at * <;> omega) | (simp only [xl, xt, xe, ne_eq, Int32.reduceToInt] at * <;> simp (disch := omega) only [Int32.toInt_add, Int32.toInt_sub, Int32.toInt_mul, Int32.toInt_neg, Nat.reducePow, Int32.reduceToInt, bmi] at * <;> omega) | grind))
  · skip
    refine ok_bd (s_Mo_columnOf (by assumption) (by assumption) (by assumption) (by assumption) (by clear hQ9; first | with_reducible assumption | (simp only [xl, xt, xe, xa, xb, xm, xg, ne_eq, Int32.reduceToInt] at * <;> omega) | (simp only [xl, xt, xe, ne_eq, Int32.reduceToInt] at * <;> simp (disch := omega) only [Int32.toInt_add, Int32.toInt_sub, Int32.toInt_mul, Int32.toInt_neg, Nat.reducePow, Int32.reduceToInt, bmi] at * <;> omega) | grind)) (fun o9 h9 => ?_)
    obtain ⟨r_1, rfl⟩ : ∃ z9, z9 = o9 := ⟨_, rfl⟩
    have q_11 := h9
    clear h9
    exact ok_some (hQ9 _ (by clear hQ9; first | with_reducible assumption | (simp only [xl, xt, xe, xa, xb, xm, xg, ne_eq, Int32.reduceToInt] at * <;> omega) | (simp only [xl, xt, xe, ne_eq, Int32.reduceToInt] at * <;> simp (disch := omega) only [Int32.toInt_add, Int32.toInt_sub, Int32.toInt_mul, Int32.toInt_neg, Nat.reducePow, Int32.reduceToInt, bmi] at * <;> omega) | grind))

set_option maxHeartbeats 4000000 in
set_option maxRecDepth 20000 in
theorem s_Mo_tOf {mo_ways : (Nat → Int32)} {mo_ys : (Nat → Int32)} {mo_high : (Nat → Int32)} {mo_symbolOf : (Nat → Int32)} {mo_xs : (Nat → Int32)} {mo_wide : (Nat → Int32)} {p0 : Int32} (q_1 : R mo_ways (0 : Int32) (7 : Int32)) (q_2 : R mo_ys (-8 : Int32) (31 : Int32)) (q_3 : R mo_high (0 : Int32) (8 : Int32)) (q_4 : R mo_symbolOf (0 : Int32) (15 : Int32)) (q_5 : R mo_xs (-8 : Int32) (31 : Int32)) (q_6 : R mo_wide (0 : Int32) (8 : Int32)) (q_7 : ((0 : Int32) ≤ p0 ∧ p0 ≤ (39 : Int32))) : ok (f_Mo_tOf mo_ways mo_ys mo_high mo_symbolOf mo_xs mo_wide p0) (fun o => ((-9 : Int32) ≤ o ∧ o ≤ (38 : Int32))) := by
  refine ok_Q (fun Q9 hQ9 => ?_)
  unfold f_Mo_tOf
  refine ok_gq (4 : Int32) (by decide) (by clear hQ9; first | with_reducible assumption | (simp only [xl, xt, xe, xa, xb, xm, xg, ne_eq, Int32.reduceToInt] at * <;> omega) | (simp only [xl, xt, xe, ne_eq, Int32.reduceToInt] at * <;> simp (disch := omega) only [Int32.toInt_add, Int32.toInt_sub, Int32.toInt_mul, Int32.toInt_neg, Nat.reducePow, Int32.reduceToInt, bmi] at * <;> omega) | grind) (by clear hQ9; first | with_reducible assumption | (simp only [xl, xt, xe, xa, xb, xm, xg, ne_eq, Int32.reduceToInt] at * <;> omega) | (simp only [xl, xt, xe, ne_eq, Int32.reduceToInt] at * <;> simp (disch := omega) only [Int32.toInt_add, Int32.toInt_sub, Int32.toInt_mul, Int32.toInt_neg, Nat.reducePow, Int32.reduceToInt, bmi] at * <;> omega) | grind) ?_
  have q_8 := (by assumption : R mo_ways (0 : Int32) (7 : Int32)) ((1 : Int32)).toNatClampNeg
  refine ok_if (fun q_9 => ?_) (fun q_9 => ?_)
  · skip
    refine ok_bd (s_Mo_columnOf (by assumption) (by assumption) (by assumption) (by assumption) (by clear hQ9; first | with_reducible assumption | (simp only [xl, xt, xe, xa, xb, xm, xg, ne_eq, Int32.reduceToInt] at * <;> omega) | (simp only [xl, xt, xe, ne_eq, Int32.reduceToInt] at * <;> simp (disch := omega) only [Int32.toInt_add, Int32.toInt_sub, Int32.toInt_mul, Int32.toInt_neg, Nat.reducePow, Int32.reduceToInt, bmi] at * <;> omega) | grind)) (fun o9 h9 => ?_)
    obtain ⟨r_2, rfl⟩ : ∃ z9, z9 = o9 := ⟨_, rfl⟩
    have q_10 := h9
    clear h9
    exact ok_some (hQ9 _ (by clear hQ9; first | with_reducible assumption | (simp only [xl, xt, xe, xa, xb, xm, xg, ne_eq, Int32.reduceToInt] at * <;> omega) | (simp only [xl, xt, xe, ne_eq, Int32.reduceToInt] at * <;> simp (disch := omega) only [Int32.toInt_add, Int32.toInt_sub, Int32.toInt_mul, Int32.toInt_neg, Nat.reducePow, Int32.reduceToInt, bmi] at * <;> omega) | grind))
  · skip
    refine ok_bd (s_Mo_rowOf (by assumption) (by assumption) (by assumption) (by assumption) (by clear hQ9; first | with_reducible assumption | (simp only [xl, xt, xe, xa, xb, xm, xg, ne_eq, Int32.reduceToInt] at * <;> omega) | (simp only [xl, xt, xe, ne_eq, Int32.reduceToInt] at * <;> simp (disch := omega) only [Int32.toInt_add, Int32.toInt_sub, Int32.toInt_mul, Int32.toInt_neg, Nat.reducePow, Int32.reduceToInt, bmi] at * <;> omega) | grind)) (fun o9 h9 => ?_)
    obtain ⟨r_1, rfl⟩ : ∃ z9, z9 = o9 := ⟨_, rfl⟩
    have q_11 := h9
    clear h9
    exact ok_some (hQ9 _ (by clear hQ9; first | with_reducible assumption | (simp only [xl, xt, xe, xa, xb, xm, xg, ne_eq, Int32.reduceToInt] at * <;> omega) | (simp only [xl, xt, xe, ne_eq, Int32.reduceToInt] at * <;> simp (disch := omega) only [Int32.toInt_add, Int32.toInt_sub, Int32.toInt_mul, Int32.toInt_neg, Nat.reducePow, Int32.reduceToInt, bmi] at * <;> omega) | grind))

set_option maxHeartbeats 4000000 in
set_option maxRecDepth 20000 in
theorem s_Mo_stripOf {mo_ways : (Nat → Int32)} {mo_ys : (Nat → Int32)} {mo_high : (Nat → Int32)} {mo_symbolOf : (Nat → Int32)} {mo_xs : (Nat → Int32)} {mo_wide : (Nat → Int32)} {p0 : Int32} (q_1 : R mo_ways (0 : Int32) (7 : Int32)) (q_2 : R mo_ys (-8 : Int32) (31 : Int32)) (q_3 : R mo_high (0 : Int32) (8 : Int32)) (q_4 : R mo_symbolOf (0 : Int32) (15 : Int32)) (q_5 : R mo_xs (-8 : Int32) (31 : Int32)) (q_6 : R mo_wide (0 : Int32) (8 : Int32)) (q_7 : ((0 : Int32) ≤ p0 ∧ p0 ≤ (39 : Int32))) : ok (f_Mo_stripOf mo_ways mo_ys mo_high mo_symbolOf mo_xs mo_wide p0) (fun o => ((-9 : Int32) ≤ o ∧ o ≤ (38 : Int32))) := by
  refine ok_Q (fun Q9 hQ9 => ?_)
  unfold f_Mo_stripOf
  refine ok_bd (s_Mo_tOf (by assumption) (by assumption) (by assumption) (by assumption) (by assumption) (by assumption) (by clear hQ9; first | with_reducible assumption | (simp only [xl, xt, xe, xa, xb, xm, xg, ne_eq, Int32.reduceToInt] at * <;> omega) | (simp only [xl, xt, xe, ne_eq, Int32.reduceToInt] at * <;> simp (disch := omega) only [Int32.toInt_add, Int32.toInt_sub, Int32.toInt_mul, Int32.toInt_neg, Nat.reducePow, Int32.reduceToInt, bmi] at * <;> omega) | grind)) (fun o9 h9 => ?_)
  obtain ⟨r_1, rfl⟩ : ∃ z9, z9 = o9 := ⟨_, rfl⟩
  have q_8 := h9
  clear h9
  refine ok_gq (4 : Int32) (by decide) (by clear hQ9; first | with_reducible assumption | (simp only [xl, xt, xe, xa, xb, xm, xg, ne_eq, Int32.reduceToInt] at * <;> omega) | (simp only [xl, xt, xe, ne_eq, Int32.reduceToInt] at * <;> simp (disch := omega) only [Int32.toInt_add, Int32.toInt_sub, Int32.toInt_mul, Int32.toInt_neg, Nat.reducePow, Int32.reduceToInt, bmi] at * <;> omega) | grind) (by clear hQ9; first | with_reducible assumption | (simp only [xl, xt, xe, xa, xb, xm, xg, ne_eq, Int32.reduceToInt] at * <;> omega) | (simp only [xl, xt, xe, ne_eq, Int32.reduceToInt] at * <;> simp (disch := omega) only [Int32.toInt_add, Int32.toInt_sub, Int32.toInt_mul, Int32.toInt_neg, Nat.reducePow, Int32.reduceToInt, bmi] at * <;> omega) | grind) ?_
  have q_9 := (by assumption : R mo_ways (0 : Int32) (7 : Int32)) ((2 : Int32)).toNatClampNeg
  have q_10 := sar r_1 (mo_ways ((2 : Int32)).toNatClampNeg)
  exact ok_some (hQ9 _ (by clear hQ9; first | with_reducible assumption | (simp only [xl, xt, xe, xa, xb, xm, xg, ne_eq, Int32.reduceToInt] at * <;> omega) | (simp only [xl, xt, xe, ne_eq, Int32.reduceToInt] at * <;> simp (disch := omega) only [Int32.toInt_add, Int32.toInt_sub, Int32.toInt_mul, Int32.toInt_neg, Nat.reducePow, Int32.reduceToInt, bmi] at * <;> omega) | grind))

set_option maxHeartbeats 4000000 in
set_option maxRecDepth 20000 in
theorem s_Mo_sort {mo_instances : Int32} {mo_ordered : (Nat → Int32)} {mo_ways : (Nat → Int32)} {mo_ys : (Nat → Int32)} {mo_high : (Nat → Int32)} {mo_symbolOf : (Nat → Int32)} {mo_xs : (Nat → Int32)} {mo_wide : (Nat → Int32)} (q_1 : ((0 : Int32) ≤ mo_instances ∧ mo_instances ≤ (40 : Int32))) (q_2 : R mo_ordered (0 : Int32) (39 : Int32)) (q_3 : R mo_ways (0 : Int32) (7 : Int32)) (q_4 : R mo_ys (-8 : Int32) (31 : Int32)) (q_5 : R mo_high (0 : Int32) (8 : Int32)) (q_6 : R mo_symbolOf (0 : Int32) (15 : Int32)) (q_7 : R mo_xs (-8 : Int32) (31 : Int32)) (q_8 : R mo_wide (0 : Int32) (8 : Int32)) : ok (f_Mo_sort mo_instances mo_ordered mo_ways mo_ys mo_high mo_symbolOf mo_xs mo_wide) (fun o => R o (0 : Int32) (39 : Int32)) := by
  refine ok_Q (fun Q9 hQ9 => ?_)
  unfold f_Mo_sort
  refine ok_lp (fun s9 => ((0 : Int32) ≤ s9.1 ∧ s9.1 ≤ (40 : Int32)) ∧ R s9.2 (0 : Int32) (39 : Int32)) (fun s9 => 40 - s9.1) ⟨by clear hQ9; first | with_reducible assumption | (simp only [xl, xt, xe, xa, xb, xm, xg, ne_eq, Int32.reduceToInt] at * <;> omega) | (simp only [xl, xt, xe, ne_eq, Int32.reduceToInt] at * <;> simp (disch := omega) only [Int32.toInt_add, Int32.toInt_sub, Int32.toInt_mul, Int32.toInt_neg, Nat.reducePow, Int32.reduceToInt, bmi] at * <;> omega) | grind, by assumption⟩ ?_ ?_
  · intro s9 hs9; obtain ⟨v1_1, mo_ordered_2⟩ := s9; try dsimp only at hs9; obtain ⟨q_9, q_10⟩ := hs9; exact ⟨by clear hQ9; (try dsimp only); first | with_reducible assumption | (simp only [xl, xt, xe, xa, xb, xm, xg, ne_eq, Int32.reduceToInt] at * <;> omega) | (simp only [xl, xt, xe, ne_eq, Int32.reduceToInt] at * <;> simp (disch := omega) only [Int32.toInt_add, Int32.toInt_sub, Int32.toInt_mul, Int32.toInt_neg, Nat.reducePow, Int32.reduceToInt, bmi] at * <;> omega) | grind, by clear hQ9; (try dsimp only); first | with_reducible assumption | (simp only [xl, xt, xe, xa, xb, xm, xg, ne_eq, Int32.reduceToInt] at * <;> omega) | (simp only [xl, xt, xe, ne_eq, Int32.reduceToInt] at * <;> simp (disch := omega) only [Int32.toInt_add, Int32.toInt_sub, Int32.toInt_mul, Int32.toInt_neg, Nat.reducePow, Int32.reduceToInt, bmi] at * <;> omega) | grind⟩
  intro self2 s9 hs9 ih_self2
  obtain ⟨v1_1, mo_ordered_2⟩ := s9; try dsimp only at hs9; obtain ⟨q_9, q_10⟩ := hs9
  unfold f_Mo_sort_L2
  try dsimp only
  try dsimp only at ih_self2
  refine ok_if (fun q_11 => ?_) (fun q_11 => ?_)
  · skip
    exact ok_some (hQ9 _ (by assumption))
  · skip
    refine ok_ex (fun k9 => lp (f_Mo_sort_L12 mo_ways mo_ys mo_high mo_symbolOf mo_xs mo_wide v1_1 k9) FU (v1_1, mo_ordered_2)) (fun j9 => ∀ (v2_5 : Int32) (mo_ordered_6 : (Nat → Int32)), ((0 : Int32) ≤ v2_5 ∧ v2_5 ≤ (39 : Int32)) → R mo_ordered_6 (0 : Int32) (39 : Int32) → ok (j9 v2_5 mo_ordered_6) Q9) ?_ (fun k56 h_k56 => ?_)
    · intro v2_5 mo_ordered_6 q_12 q_13
      refine ok_gq (40 : Int32) (by decide) (by clear hQ9 ih_self2; first | with_reducible assumption | (simp only [xl, xt, xe, xa, xb, xm, xg, ne_eq, Int32.reduceToInt] at * <;> omega) | (simp only [xl, xt, xe, ne_eq, Int32.reduceToInt] at * <;> simp (disch := omega) only [Int32.toInt_add, Int32.toInt_sub, Int32.toInt_mul, Int32.toInt_neg, Nat.reducePow, Int32.reduceToInt, bmi] at * <;> omega) | grind) (by clear hQ9 ih_self2; first | with_reducible assumption | (simp only [xl, xt, xe, xa, xb, xm, xg, ne_eq, Int32.reduceToInt] at * <;> omega) | (simp only [xl, xt, xe, ne_eq, Int32.reduceToInt] at * <;> simp (disch := omega) only [Int32.toInt_add, Int32.toInt_sub, Int32.toInt_mul, Int32.toInt_neg, Nat.reducePow, Int32.reduceToInt, bmi] at * <;> omega) | grind) ?_
      have q_14 : R (upd mo_ordered_6 (v2_5).toNatClampNeg v1_1) (0 : Int32) (39 : Int32) := R_upd (by assumption) _ (by clear hQ9 ih_self2; first | with_reducible assumption | (simp only [xl, xt, xe, xa, xb, xm, xg, ne_eq, Int32.reduceToInt] at * <;> omega) | (simp only [xl, xt, xe, ne_eq, Int32.reduceToInt] at * <;> simp (disch := omega) only [Int32.toInt_add, Int32.toInt_sub, Int32.toInt_mul, Int32.toInt_neg, Nat.reducePow, Int32.reduceToInt, bmi] at * <;> omega) | grind)
      refine ok_nl (fun v1_11 e_v1_11 => ?_)
      exact ih_self2 (v1_11, (upd mo_ordered_6 (v2_5).toNatClampNeg v1_1)) ⟨by clear hQ9 ih_self2; first | with_reducible assumption | (simp only [xl, xt, xe, xa, xb, xm, xg, ne_eq, Int32.reduceToInt] at * <;> omega) | (simp only [xl, xt, xe, ne_eq, Int32.reduceToInt] at * <;> simp (disch := omega) only [Int32.toInt_add, Int32.toInt_sub, Int32.toInt_mul, Int32.toInt_neg, Nat.reducePow, Int32.reduceToInt, bmi] at * <;> omega) | grind, by assumption⟩ (by clear hQ9 ih_self2; (try dsimp only); first | with_reducible assumption | (simp only [xl, xt, xe, xa, xb, xm, xg, ne_eq, Int32.reduceToInt] at * <;> omega) | (simp only [xl, xt, xe, ne_eq, Int32.reduceToInt] at * <;> simp (disch := omega) only [Int32.toInt_add, Int32.toInt_sub, Int32.toInt_mul, Int32.toInt_neg, Nat.reducePow, Int32.reduceToInt, bmi] at * <;> omega) | grind)
    refine ok_lp (fun s9 => ((0 : Int32) ≤ s9.1 ∧ s9.1 ≤ (39 : Int32)) ∧ R s9.2 (0 : Int32) (39 : Int32)) (fun s9 => s9.1) ⟨by clear hQ9 ih_self2 h_k56; first | with_reducible assumption | (simp only [xl, xt, xe, xa, xb, xm, xg, ne_eq, Int32.reduceToInt] at * <;> omega) | (simp only [xl, xt, xe, ne_eq, Int32.reduceToInt] at * <;> simp (disch := omega) only [Int32.toInt_add, Int32.toInt_sub, Int32.toInt_mul, Int32.toInt_neg, Nat.reducePow, Int32.reduceToInt, bmi] at * <;> omega) | grind, by assumption⟩ ?_ ?_
    · intro s9 hs9; obtain ⟨v2_3, mo_ordered_4⟩ := s9; try dsimp only at hs9; obtain ⟨q_15, q_16⟩ := hs9; exact ⟨by clear hQ9 ih_self2 h_k56; (try dsimp only); first | with_reducible assumption | (simp only [xl, xt, xe, xa, xb, xm, xg, ne_eq, Int32.reduceToInt] at * <;> omega) | (simp only [xl, xt, xe, ne_eq, Int32.reduceToInt] at * <;> simp (disch := omega) only [Int32.toInt_add, Int32.toInt_sub, Int32.toInt_mul, Int32.toInt_neg, Nat.reducePow, Int32.reduceToInt, bmi] at * <;> omega) | grind, by clear hQ9 ih_self2 h_k56; (try dsimp only); first | with_reducible assumption | (simp only [xl, xt, xe, xa, xb, xm, xg, ne_eq, Int32.reduceToInt] at * <;> omega) | (simp only [xl, xt, xe, ne_eq, Int32.reduceToInt] at * <;> simp (disch := omega) only [Int32.toInt_add, Int32.toInt_sub, Int32.toInt_mul, Int32.toInt_neg, Nat.reducePow, Int32.reduceToInt, bmi] at * <;> omega) | grind⟩
    intro self12 s9 hs9 ih_self12
    obtain ⟨v2_3, mo_ordered_4⟩ := s9; try dsimp only at hs9; obtain ⟨q_15, q_16⟩ := hs9
    unfold f_Mo_sort_L12
    try dsimp only
    try dsimp only at ih_self12
    refine ok_if (fun q_17 => ?_) (fun q_17 => ?_)
    · skip
      exact h_k56 _ _ (by clear hQ9 ih_self2 h_k56 ih_self12; first | with_reducible assumption | (simp only [xl, xt, xe, xa, xb, xm, xg, ne_eq, Int32.reduceToInt] at * <;> omega) | (simp only [xl, xt, xe, ne_eq, Int32.reduceToInt] at * <;> simp (disch := omega) only [Int32.toInt_add, Int32.toInt_sub, Int32.toInt_mul, Int32.toInt_neg, Nat.reducePow, Int32.reduceToInt, bmi] at * <;> omega) | grind) (by assumption)
    · skip
      refine ok_gq (40 : Int32) (by decide) (by clear hQ9 ih_self2 h_k56 ih_self12; first | with_reducible assumption | (simp only [xl, xt, xe, xa, xb, xm, xg, ne_eq, Int32.reduceToInt] at * <;> omega) | (simp only [xl, xt, xe, ne_eq, Int32.reduceToInt] at * <;> simp (disch := omega) only [Int32.toInt_add, Int32.toInt_sub, Int32.toInt_mul, Int32.toInt_neg, Nat.reducePow, Int32.reduceToInt, bmi] at * <;> omega) | grind) (by clear hQ9 ih_self2 h_k56 ih_self12; first | with_reducible assumption | (simp only [xl, xt, xe, xa, xb, xm, xg, ne_eq, Int32.reduceToInt] at * <;> omega) | (simp only [xl, xt, xe, ne_eq, Int32.reduceToInt] at * <;> simp (disch := omega) only [Int32.toInt_add, Int32.toInt_sub, Int32.toInt_mul, Int32.toInt_neg, Nat.reducePow, Int32.reduceToInt, bmi] at * <;> omega) | grind) ?_
      have q_18 := (by assumption : R mo_ordered_4 (0 : Int32) (39 : Int32)) ((v2_3 - (1 : Int32))).toNatClampNeg
      refine ok_bd (s_Mo_stripOf (by assumption) (by assumption) (by assumption) (by assumption) (by assumption) (by assumption) (by clear hQ9 ih_self2 h_k56 ih_self12; first | with_reducible assumption | (simp only [xl, xt, xe, xa, xb, xm, xg, ne_eq, Int32.reduceToInt] at * <;> omega) | (simp only [xl, xt, xe, ne_eq, Int32.reduceToInt] at * <;> simp (disch := omega) only [Int32.toInt_add, Int32.toInt_sub, Int32.toInt_mul, Int32.toInt_neg, Nat.reducePow, Int32.reduceToInt, bmi] at * <;> omega) | grind)) (fun o9 h9 => ?_)
      obtain ⟨r_7, rfl⟩ : ∃ z9, z9 = o9 := ⟨_, rfl⟩
      have q_19 := h9
      clear h9
      refine ok_bd (s_Mo_stripOf (by assumption) (by assumption) (by assumption) (by assumption) (by assumption) (by assumption) (by clear hQ9 ih_self2 h_k56 ih_self12; first | with_reducible assumption | (simp only [xl, xt, xe, xa, xb, xm, xg, ne_eq, Int32.reduceToInt] at * <;> omega) | (simp only [xl, xt, xe, ne_eq, Int32.reduceToInt] at * <;> simp (disch := omega) only [Int32.toInt_add, Int32.toInt_sub, Int32.toInt_mul, Int32.toInt_neg, Nat.reducePow, Int32.reduceToInt, bmi] at * <;> omega) | grind)) (fun o9 h9 => ?_)
      obtain ⟨r_8, rfl⟩ : ∃ z9, z9 = o9 := ⟨_, rfl⟩
      have q_20 := h9
      clear h9
      refine ok_if (fun q_21 => ?_) (fun q_21 => ?_)
      · skip
        exact h_k56 _ _ (by clear hQ9 ih_self2 h_k56 ih_self12; first | with_reducible assumption | (simp only [xl, xt, xe, xa, xb, xm, xg, ne_eq, Int32.reduceToInt] at * <;> omega) | (simp only [xl, xt, xe, ne_eq, Int32.reduceToInt] at * <;> simp (disch := omega) only [Int32.toInt_add, Int32.toInt_sub, Int32.toInt_mul, Int32.toInt_neg, Nat.reducePow, Int32.reduceToInt, bmi] at * <;> omega) | grind) (by assumption)
      · skip
        refine ok_gq (40 : Int32) (by decide) (by clear hQ9 ih_self2 h_k56 ih_self12; first | with_reducible assumption | (simp only [xl, xt, xe, xa, xb, xm, xg, ne_eq, Int32.reduceToInt] at * <;> omega) | (simp only [xl, xt, xe, ne_eq, Int32.reduceToInt] at * <;> simp (disch := omega) only [Int32.toInt_add, Int32.toInt_sub, Int32.toInt_mul, Int32.toInt_neg, Nat.reducePow, Int32.reduceToInt, bmi] at * <;> omega) | grind) (by clear hQ9 ih_self2 h_k56 ih_self12; first | with_reducible assumption | (simp only [xl, xt, xe, xa, xb, xm, xg, ne_eq, Int32.reduceToInt] at * <;> omega) | (simp only [xl, xt, xe, ne_eq, Int32.reduceToInt] at * <;> simp (disch := omega) only [Int32.toInt_add, Int32.toInt_sub, Int32.toInt_mul, Int32.toInt_neg, Nat.reducePow, Int32.reduceToInt, bmi] at * <;> omega) | grind) ?_
        have q_22 := (by assumption : R mo_ordered_4 (0 : Int32) (39 : Int32)) ((v2_3 - (1 : Int32))).toNatClampNeg
        refine ok_nl (fun w_9 e_w_9 => ?_)
        refine ok_gq (40 : Int32) (by decide) (by clear hQ9 ih_self2 h_k56 ih_self12; first | with_reducible assumption | (simp only [xl, xt, xe, xa, xb, xm, xg, ne_eq, Int32.reduceToInt] at * <;> omega) | (simp only [xl, xt, xe, ne_eq, Int32.reduceToInt] at * <;> simp (disch := omega) only [Int32.toInt_add, Int32.toInt_sub, Int32.toInt_mul, Int32.toInt_neg, Nat.reducePow, Int32.reduceToInt, bmi] at * <;> omega) | grind) (by clear hQ9 ih_self2 h_k56 ih_self12; first | with_reducible assumption | (simp only [xl, xt, xe, xa, xb, xm, xg, ne_eq, Int32.reduceToInt] at * <;> omega) | (simp only [xl, xt, xe, ne_eq, Int32.reduceToInt] at * <;> simp (disch := omega) only [Int32.toInt_add, Int32.toInt_sub, Int32.toInt_mul, Int32.toInt_neg, Nat.reducePow, Int32.reduceToInt, bmi] at * <;> omega) | grind) ?_
        have q_23 : R (upd mo_ordered_4 (v2_3).toNatClampNeg w_9) (0 : Int32) (39 : Int32) := R_upd (by assumption) _ (by clear hQ9 ih_self2 h_k56 ih_self12; first | with_reducible assumption | (simp only [xl, xt, xe, xa, xb, xm, xg, ne_eq, Int32.reduceToInt] at * <;> omega) | (simp only [xl, xt, xe, ne_eq, Int32.reduceToInt] at * <;> simp (disch := omega) only [Int32.toInt_add, Int32.toInt_sub, Int32.toInt_mul, Int32.toInt_neg, Nat.reducePow, Int32.reduceToInt, bmi] at * <;> omega) | grind)
        refine ok_nl (fun v2_10 e_v2_10 => ?_)
        exact ih_self12 (v2_10, (upd mo_ordered_4 (v2_3).toNatClampNeg w_9)) ⟨by clear hQ9 ih_self2 h_k56 ih_self12; first | with_reducible assumption | (simp only [xl, xt, xe, xa, xb, xm, xg, ne_eq, Int32.reduceToInt] at * <;> omega) | (simp only [xl, xt, xe, ne_eq, Int32.reduceToInt] at * <;> simp (disch := omega) only [Int32.toInt_add, Int32.toInt_sub, Int32.toInt_mul, Int32.toInt_neg, Nat.reducePow, Int32.reduceToInt, bmi] at * <;> omega) | grind, by assumption⟩ (by clear hQ9 ih_self2 h_k56 ih_self12; (try dsimp only); first | with_reducible assumption | (simp only [xl, xt, xe, xa, xb, xm, xg, ne_eq, Int32.reduceToInt] at * <;> omega) | (simp only [xl, xt, xe, ne_eq, Int32.reduceToInt] at * <;> simp (disch := omega) only [Int32.toInt_add, Int32.toInt_sub, Int32.toInt_mul, Int32.toInt_neg, Nat.reducePow, Int32.reduceToInt, bmi] at * <;> omega) | grind)

set_option maxHeartbeats 4000000 in
set_option maxRecDepth 20000 in
theorem s_Mo_lay {mo_width : Int32} {mo_height : Int32} {mo_symbolOf : (Nat → Int32)} {mo_high : (Nat → Int32)} {mo_wide : (Nat → Int32)} {mo_xs : (Nat → Int32)} {mo_ys : (Nat → Int32)} {mo_dark : (Nat → Int64)} {mo_differs : (Nat → Int64)} {mo_page : (Nat → Int32)} {mo_ways : (Nat → Int32)} {p0 : Int32} (q_1 : ((1 : Int32) ≤ mo_width ∧ mo_width ≤ (24 : Int32))) (q_2 : ((1 : Int32) ≤ mo_height ∧ mo_height ≤ (24 : Int32))) (q_3 : R mo_symbolOf (0 : Int32) (15 : Int32)) (q_4 : R mo_high (0 : Int32) (8 : Int32)) (q_5 : R mo_wide (0 : Int32) (8 : Int32)) (q_6 : R mo_xs (-8 : Int32) (31 : Int32)) (q_7 : R mo_ys (-8 : Int32) (31 : Int32)) (q_8 : R mo_page (0 : Int32) (1 : Int32)) (q_9 : R mo_ways (0 : Int32) (7 : Int32)) (q_10 : ((0 : Int32) ≤ p0 ∧ p0 ≤ (39 : Int32))) : ok (f_Mo_lay mo_width mo_height mo_symbolOf mo_high mo_wide mo_xs mo_ys mo_dark mo_differs mo_page mo_ways p0) (fun o => R o (0 : Int32) (1 : Int32)) := by
  refine ok_Q (fun Q9 hQ9 => ?_)
  unfold f_Mo_lay
  refine ok_gq (40 : Int32) (by decide) (by clear hQ9; first | with_reducible assumption | (simp only [xl, xt, xe, xa, xb, xm, xg, ne_eq, Int32.reduceToInt] at * <;> omega) | (simp only [xl, xt, xe, ne_eq, Int32.reduceToInt] at * <;> simp (disch := omega) only [Int32.toInt_add, Int32.toInt_sub, Int32.toInt_mul, Int32.toInt_neg, Nat.reducePow, Int32.reduceToInt, bmi] at * <;> omega) | grind) (by clear hQ9; first | with_reducible assumption | (simp only [xl, xt, xe, xa, xb, xm, xg, ne_eq, Int32.reduceToInt] at * <;> omega) | (simp only [xl, xt, xe, ne_eq, Int32.reduceToInt] at * <;> simp (disch := omega) only [Int32.toInt_add, Int32.toInt_sub, Int32.toInt_mul, Int32.toInt_neg, Nat.reducePow, Int32.reduceToInt, bmi] at * <;> omega) | grind) ?_
  have q_11 := (by assumption : R mo_symbolOf (0 : Int32) (15 : Int32)) (p0).toNatClampNeg
  refine ok_nl (fun v2_1 e_v2_1 => ?_)
  refine ok_lp (fun s9 => ((0 : Int32) ≤ s9.1 ∧ s9.1 ≤ (8 : Int32)) ∧ R s9.2 (0 : Int32) (1 : Int32)) (fun s9 => 8 - s9.1) ⟨by clear hQ9; first | with_reducible assumption | (simp only [xl, xt, xe, xa, xb, xm, xg, ne_eq, Int32.reduceToInt] at * <;> omega) | (simp only [xl, xt, xe, ne_eq, Int32.reduceToInt] at * <;> simp (disch := omega) only [Int32.toInt_add, Int32.toInt_sub, Int32.toInt_mul, Int32.toInt_neg, Nat.reducePow, Int32.reduceToInt, bmi] at * <;> omega) | grind, by assumption⟩ ?_ ?_
  · intro s9 hs9; obtain ⟨v3_2, mo_page_3⟩ := s9; try dsimp only at hs9; obtain ⟨q_12, q_13⟩ := hs9; exact ⟨by clear hQ9; (try dsimp only); first | with_reducible assumption | (simp only [xl, xt, xe, xa, xb, xm, xg, ne_eq, Int32.reduceToInt] at * <;> omega) | (simp only [xl, xt, xe, ne_eq, Int32.reduceToInt] at * <;> simp (disch := omega) only [Int32.toInt_add, Int32.toInt_sub, Int32.toInt_mul, Int32.toInt_neg, Nat.reducePow, Int32.reduceToInt, bmi] at * <;> omega) | grind, by clear hQ9; (try dsimp only); first | with_reducible assumption | (simp only [xl, xt, xe, xa, xb, xm, xg, ne_eq, Int32.reduceToInt] at * <;> omega) | (simp only [xl, xt, xe, ne_eq, Int32.reduceToInt] at * <;> simp (disch := omega) only [Int32.toInt_add, Int32.toInt_sub, Int32.toInt_mul, Int32.toInt_neg, Nat.reducePow, Int32.reduceToInt, bmi] at * <;> omega) | grind⟩
  intro self9 s9 hs9 ih_self9
  obtain ⟨v3_2, mo_page_3⟩ := s9; try dsimp only at hs9; obtain ⟨q_12, q_13⟩ := hs9
  unfold f_Mo_lay_L9
  try dsimp only
  try dsimp only at ih_self9
  refine ok_gq (16 : Int32) (by decide) (by clear hQ9 ih_self9; first | with_reducible assumption | (simp only [xl, xt, xe, xa, xb, xm, xg, ne_eq, Int32.reduceToInt] at * <;> omega) | (simp only [xl, xt, xe, ne_eq, Int32.reduceToInt] at * <;> simp (disch := omega) only [Int32.toInt_add, Int32.toInt_sub, Int32.toInt_mul, Int32.toInt_neg, Nat.reducePow, Int32.reduceToInt, bmi] at * <;> omega) | grind) (by clear hQ9 ih_self9; first | with_reducible assumption | (simp only [xl, xt, xe, xa, xb, xm, xg, ne_eq, Int32.reduceToInt] at * <;> omega) | (simp only [xl, xt, xe, ne_eq, Int32.reduceToInt] at * <;> simp (disch := omega) only [Int32.toInt_add, Int32.toInt_sub, Int32.toInt_mul, Int32.toInt_neg, Nat.reducePow, Int32.reduceToInt, bmi] at * <;> omega) | grind) ?_
  have q_14 := (by assumption : R mo_high (0 : Int32) (8 : Int32)) (v2_1).toNatClampNeg
  refine ok_if (fun q_15 => ?_) (fun q_15 => ?_)
  · skip
    exact ok_some (hQ9 _ (by assumption))
  · skip
    refine ok_ex (fun k9 => lp (f_Mo_lay_L22 v2_1 mo_wide p0 mo_xs mo_ys v3_2 mo_width mo_height mo_ways mo_dark mo_differs k9) FU ((0 : Int32), mo_page_3)) (fun j9 => ∀ (mo_page_6 : (Nat → Int32)), R mo_page_6 (0 : Int32) (1 : Int32) → ok (j9 mo_page_6) Q9) ?_ (fun k252 h_k252 => ?_)
    · intro mo_page_6 q_16
      refine ok_nl (fun v3_20 e_v3_20 => ?_)
      exact ih_self9 (v3_20, mo_page_6) ⟨by clear hQ9 ih_self9; first | with_reducible assumption | (simp only [xl, xt, xe, xa, xb, xm, xg, ne_eq, Int32.reduceToInt] at * <;> omega) | (simp only [xl, xt, xe, ne_eq, Int32.reduceToInt] at * <;> simp (disch := omega) only [Int32.toInt_add, Int32.toInt_sub, Int32.toInt_mul, Int32.toInt_neg, Nat.reducePow, Int32.reduceToInt, bmi] at * <;> omega) | grind, by assumption⟩ (by clear hQ9 ih_self9; (try dsimp only); first | with_reducible assumption | (simp only [xl, xt, xe, xa, xb, xm, xg, ne_eq, Int32.reduceToInt] at * <;> omega) | (simp only [xl, xt, xe, ne_eq, Int32.reduceToInt] at * <;> simp (disch := omega) only [Int32.toInt_add, Int32.toInt_sub, Int32.toInt_mul, Int32.toInt_neg, Nat.reducePow, Int32.reduceToInt, bmi] at * <;> omega) | grind)
    refine ok_lp (fun s9 => ((0 : Int32) ≤ s9.1 ∧ s9.1 ≤ (8 : Int32)) ∧ R s9.2 (0 : Int32) (1 : Int32)) (fun s9 => 8 - s9.1) ⟨by clear hQ9 ih_self9 h_k252; first | with_reducible assumption | (simp only [xl, xt, xe, xa, xb, xm, xg, ne_eq, Int32.reduceToInt] at * <;> omega) | (simp only [xl, xt, xe, ne_eq, Int32.reduceToInt] at * <;> simp (disch := omega) only [Int32.toInt_add, Int32.toInt_sub, Int32.toInt_mul, Int32.toInt_neg, Nat.reducePow, Int32.reduceToInt, bmi] at * <;> omega) | grind, by assumption⟩ ?_ ?_
    · intro s9 hs9; obtain ⟨v4_4, mo_page_5⟩ := s9; try dsimp only at hs9; obtain ⟨q_17, q_18⟩ := hs9; exact ⟨by clear hQ9 ih_self9 h_k252; (try dsimp only); first | with_reducible assumption | (simp only [xl, xt, xe, xa, xb, xm, xg, ne_eq, Int32.reduceToInt] at * <;> omega) | (simp only [xl, xt, xe, ne_eq, Int32.reduceToInt] at * <;> simp (disch := omega) only [Int32.toInt_add, Int32.toInt_sub, Int32.toInt_mul, Int32.toInt_neg, Nat.reducePow, Int32.reduceToInt, bmi] at * <;> omega) | grind, by clear hQ9 ih_self9 h_k252; (try dsimp only); first | with_reducible assumption | (simp only [xl, xt, xe, xa, xb, xm, xg, ne_eq, Int32.reduceToInt] at * <;> omega) | (simp only [xl, xt, xe, ne_eq, Int32.reduceToInt] at * <;> simp (disch := omega) only [Int32.toInt_add, Int32.toInt_sub, Int32.toInt_mul, Int32.toInt_neg, Nat.reducePow, Int32.reduceToInt, bmi] at * <;> omega) | grind⟩
    intro self22 s9 hs9 ih_self22
    obtain ⟨v4_4, mo_page_5⟩ := s9; try dsimp only at hs9; obtain ⟨q_17, q_18⟩ := hs9
    unfold f_Mo_lay_L22
    try dsimp only
    try dsimp only at ih_self22
    refine ok_gq (16 : Int32) (by decide) (by clear hQ9 ih_self9 h_k252 ih_self22; first | with_reducible assumption | (simp only [xl, xt, xe, xa, xb, xm, xg, ne_eq, Int32.reduceToInt] at * <;> omega) | (simp only [xl, xt, xe, ne_eq, Int32.reduceToInt] at * <;> simp (disch := omega) only [Int32.toInt_add, Int32.toInt_sub, Int32.toInt_mul, Int32.toInt_neg, Nat.reducePow, Int32.reduceToInt, bmi] at * <;> omega) | grind) (by clear hQ9 ih_self9 h_k252 ih_self22; first | with_reducible assumption | (simp only [xl, xt, xe, xa, xb, xm, xg, ne_eq, Int32.reduceToInt] at * <;> omega) | (simp only [xl, xt, xe, ne_eq, Int32.reduceToInt] at * <;> simp (disch := omega) only [Int32.toInt_add, Int32.toInt_sub, Int32.toInt_mul, Int32.toInt_neg, Nat.reducePow, Int32.reduceToInt, bmi] at * <;> omega) | grind) ?_
    have q_19 := (by assumption : R mo_wide (0 : Int32) (8 : Int32)) (v2_1).toNatClampNeg
    refine ok_if (fun q_20 => ?_) (fun q_20 => ?_)
    · skip
      exact h_k252 _ (by assumption)
    · skip
      refine ok_gq (40 : Int32) (by decide) (by clear hQ9 ih_self9 h_k252 ih_self22; first | with_reducible assumption | (simp only [xl, xt, xe, xa, xb, xm, xg, ne_eq, Int32.reduceToInt] at * <;> omega) | (simp only [xl, xt, xe, ne_eq, Int32.reduceToInt] at * <;> simp (disch := omega) only [Int32.toInt_add, Int32.toInt_sub, Int32.toInt_mul, Int32.toInt_neg, Nat.reducePow, Int32.reduceToInt, bmi] at * <;> omega) | grind) (by clear hQ9 ih_self9 h_k252 ih_self22; first | with_reducible assumption | (simp only [xl, xt, xe, xa, xb, xm, xg, ne_eq, Int32.reduceToInt] at * <;> omega) | (simp only [xl, xt, xe, ne_eq, Int32.reduceToInt] at * <;> simp (disch := omega) only [Int32.toInt_add, Int32.toInt_sub, Int32.toInt_mul, Int32.toInt_neg, Nat.reducePow, Int32.reduceToInt, bmi] at * <;> omega) | grind) ?_
      have q_21 := (by assumption : R mo_xs (-8 : Int32) (31 : Int32)) (p0).toNatClampNeg
      refine ok_nl (fun v5_7 e_v5_7 => ?_)
      refine ok_gq (40 : Int32) (by decide) (by clear hQ9 ih_self9 h_k252 ih_self22; first | with_reducible assumption | (simp only [xl, xt, xe, xa, xb, xm, xg, ne_eq, Int32.reduceToInt] at * <;> omega) | (simp only [xl, xt, xe, ne_eq, Int32.reduceToInt] at * <;> simp (disch := omega) only [Int32.toInt_add, Int32.toInt_sub, Int32.toInt_mul, Int32.toInt_neg, Nat.reducePow, Int32.reduceToInt, bmi] at * <;> omega) | grind) (by clear hQ9 ih_self9 h_k252 ih_self22; first | with_reducible assumption | (simp only [xl, xt, xe, xa, xb, xm, xg, ne_eq, Int32.reduceToInt] at * <;> omega) | (simp only [xl, xt, xe, ne_eq, Int32.reduceToInt] at * <;> simp (disch := omega) only [Int32.toInt_add, Int32.toInt_sub, Int32.toInt_mul, Int32.toInt_neg, Nat.reducePow, Int32.reduceToInt, bmi] at * <;> omega) | grind) ?_
      have q_22 := (by assumption : R mo_ys (-8 : Int32) (31 : Int32)) (p0).toNatClampNeg
      refine ok_nl (fun v6_8 e_v6_8 => ?_)
      refine ok_bd (s_Mo_isIn) (fun o9 h9 => ?_)
      obtain ⟨r_9, rfl⟩ : ∃ z9, z9 = o9 := ⟨_, rfl⟩
      obtain ⟨q_23, q_24⟩ := h9
      refine ok_jn (fun j9 => ∀ (mo_page_10 : (Nat → Int32)), R mo_page_10 (0 : Int32) (1 : Int32) → ok (j9 mo_page_10) Q9) ?_ (fun j246 h_j246 => ?_)
      · intro mo_page_10 q_25
        refine ok_nl (fun v4_11 e_v4_11 => ?_)
        exact ih_self22 (v4_11, mo_page_10) ⟨by clear hQ9 ih_self9 h_k252 ih_self22; first | with_reducible assumption | (simp only [xl, xt, xe, xa, xb, xm, xg, ne_eq, Int32.reduceToInt] at * <;> omega) | (simp only [xl, xt, xe, ne_eq, Int32.reduceToInt] at * <;> simp (disch := omega) only [Int32.toInt_add, Int32.toInt_sub, Int32.toInt_mul, Int32.toInt_neg, Nat.reducePow, Int32.reduceToInt, bmi] at * <;> omega) | grind, by assumption⟩ (by clear hQ9 ih_self9 h_k252 ih_self22; (try dsimp only); first | with_reducible assumption | (simp only [xl, xt, xe, xa, xb, xm, xg, ne_eq, Int32.reduceToInt] at * <;> omega) | (simp only [xl, xt, xe, ne_eq, Int32.reduceToInt] at * <;> simp (disch := omega) only [Int32.toInt_add, Int32.toInt_sub, Int32.toInt_mul, Int32.toInt_neg, Nat.reducePow, Int32.reduceToInt, bmi] at * <;> omega) | grind)
      refine ok_if (fun q_26 => ?_) (fun q_26 => ?_)
      · skip
        exact h_j246 _ (by assumption)
      · skip
        refine ok_bd (s_Mo_isIn) (fun o9 h9 => ?_)
        obtain ⟨r_12, rfl⟩ : ∃ z9, z9 = o9 := ⟨_, rfl⟩
        obtain ⟨q_27, q_28⟩ := h9
        refine ok_if (fun q_29 => ?_) (fun q_29 => ?_)
        · skip
          exact h_j246 _ (by assumption)
        · skip
          have q_px : (0 : Int32) ≤ v5_7 ∧ v5_7 ≤ (23 : Int32) := by clear hQ9 ih_self9 h_k252 ih_self22 h_j246; first | with_reducible assumption | (simp only [xl, xt, xe, xa, xb, xm, xg, ne_eq, Int32.reduceToInt] at * <;> omega) | (simp only [xl, xt, xe, ne_eq, Int32.reduceToInt] at * <;> simp (disch := omega) only [Int32.toInt_add, Int32.toInt_sub, Int32.toInt_mul, Int32.toInt_neg, Nat.reducePow, Int32.reduceToInt, bmi] at * <;> omega) | grind
          have q_py : (0 : Int32) ≤ v6_8 ∧ v6_8 ≤ (23 : Int32) := by clear hQ9 ih_self9 h_k252 ih_self22 h_j246; first | with_reducible assumption | (simp only [xl, xt, xe, xa, xb, xm, xg, ne_eq, Int32.reduceToInt] at * <;> omega) | (simp only [xl, xt, xe, ne_eq, Int32.reduceToInt] at * <;> simp (disch := omega) only [Int32.toInt_add, Int32.toInt_sub, Int32.toInt_mul, Int32.toInt_neg, Nat.reducePow, Int32.reduceToInt, bmi] at * <;> omega) | grind
          have q_ix := pg24 q_px q_py
          refine ok_gq (16 : Int32) (by decide) (by clear hQ9 ih_self9 h_k252 ih_self22 h_j246; first | with_reducible assumption | (simp only [xl, xt, xe, xa, xb, xm, xg, ne_eq, Int32.reduceToInt] at * <;> omega) | (simp only [xl, xt, xe, ne_eq, Int32.reduceToInt] at * <;> simp (disch := omega) only [Int32.toInt_add, Int32.toInt_sub, Int32.toInt_mul, Int32.toInt_neg, Nat.reducePow, Int32.reduceToInt, bmi] at * <;> omega) | grind) (by clear hQ9 ih_self9 h_k252 ih_self22 h_j246; first | with_reducible assumption | (simp only [xl, xt, xe, xa, xb, xm, xg, ne_eq, Int32.reduceToInt] at * <;> omega) | (simp only [xl, xt, xe, ne_eq, Int32.reduceToInt] at * <;> simp (disch := omega) only [Int32.toInt_add, Int32.toInt_sub, Int32.toInt_mul, Int32.toInt_neg, Nat.reducePow, Int32.reduceToInt, bmi] at * <;> omega) | grind) ?_
          refine ok_gq (40 : Int32) (by decide) (by clear hQ9 ih_self9 h_k252 ih_self22 h_j246; first | with_reducible assumption | (simp only [xl, xt, xe, xa, xb, xm, xg, ne_eq, Int32.reduceToInt] at * <;> omega) | (simp only [xl, xt, xe, ne_eq, Int32.reduceToInt] at * <;> simp (disch := omega) only [Int32.toInt_add, Int32.toInt_sub, Int32.toInt_mul, Int32.toInt_neg, Nat.reducePow, Int32.reduceToInt, bmi] at * <;> omega) | grind) (by clear hQ9 ih_self9 h_k252 ih_self22 h_j246; first | with_reducible assumption | (simp only [xl, xt, xe, xa, xb, xm, xg, ne_eq, Int32.reduceToInt] at * <;> omega) | (simp only [xl, xt, xe, ne_eq, Int32.reduceToInt] at * <;> simp (disch := omega) only [Int32.toInt_add, Int32.toInt_sub, Int32.toInt_mul, Int32.toInt_neg, Nat.reducePow, Int32.reduceToInt, bmi] at * <;> omega) | grind) ?_
          refine ok_jn (fun j9 => ∀ (s_13 : Int32), ((0 : Int32) ≤ s_13 ∧ s_13 ≤ (1 : Int32)) → ok (j9 s_13) Q9) ?_ (fun j117 h_j117 => ?_)
          · intro s_13 q_30
            refine ok_gq (576 : Int32) (by decide) (by clear hQ9 ih_self9 h_k252 ih_self22 h_j246; first | with_reducible assumption | (simp only [xl, xt, xe, xa, xb, xm, xg, ne_eq, Int32.reduceToInt] at * <;> omega) | (simp only [xl, xt, xe, ne_eq, Int32.reduceToInt] at * <;> simp (disch := omega) only [Int32.toInt_add, Int32.toInt_sub, Int32.toInt_mul, Int32.toInt_neg, Nat.reducePow, Int32.reduceToInt, bmi] at * <;> omega) | grind) (by clear hQ9 ih_self9 h_k252 ih_self22 h_j246; first | with_reducible assumption | (simp only [xl, xt, xe, xa, xb, xm, xg, ne_eq, Int32.reduceToInt] at * <;> omega) | (simp only [xl, xt, xe, ne_eq, Int32.reduceToInt] at * <;> simp (disch := omega) only [Int32.toInt_add, Int32.toInt_sub, Int32.toInt_mul, Int32.toInt_neg, Nat.reducePow, Int32.reduceToInt, bmi] at * <;> omega) | grind) ?_
            have q_31 := (by assumption : R mo_page_5 (0 : Int32) (1 : Int32)) ((((24 : Int32) * v6_8) + v5_7)).toNatClampNeg
            refine ok_nl (fun v8_14 e_v8_14 => ?_)
            refine ok_gq (4 : Int32) (by decide) (by clear hQ9 ih_self9 h_k252 ih_self22 h_j246; first | with_reducible assumption | (simp only [xl, xt, xe, xa, xb, xm, xg, ne_eq, Int32.reduceToInt] at * <;> omega) | (simp only [xl, xt, xe, ne_eq, Int32.reduceToInt] at * <;> simp (disch := omega) only [Int32.toInt_add, Int32.toInt_sub, Int32.toInt_mul, Int32.toInt_neg, Nat.reducePow, Int32.reduceToInt, bmi] at * <;> omega) | grind) (by clear hQ9 ih_self9 h_k252 ih_self22 h_j246; first | with_reducible assumption | (simp only [xl, xt, xe, xa, xb, xm, xg, ne_eq, Int32.reduceToInt] at * <;> omega) | (simp only [xl, xt, xe, ne_eq, Int32.reduceToInt] at * <;> simp (disch := omega) only [Int32.toInt_add, Int32.toInt_sub, Int32.toInt_mul, Int32.toInt_neg, Nat.reducePow, Int32.reduceToInt, bmi] at * <;> omega) | grind) ?_
            have q_32 := (by assumption : R mo_ways (0 : Int32) (7 : Int32)) ((3 : Int32)).toNatClampNeg
            refine ok_nl (fun v9_15 e_v9_15 => ?_)
            refine ok_jn (fun j9 => ∀ (s_16 : Int32) (s_17 : Int32), ((0 : Int32) ≤ s_16 ∧ s_16 ≤ (575 : Int32)) → ok (j9 s_16 s_17) Q9) ?_ (fun j245 h_j245 => ?_)
            · intro s_16 s_17 q_33
              refine ok_gq (576 : Int32) (by decide) (by clear hQ9 ih_self9 h_k252 ih_self22 h_j246; first | with_reducible assumption | (simp only [xl, xt, xe, xa, xb, xm, xg, ne_eq, Int32.reduceToInt] at * <;> omega) | (simp only [xl, xt, xe, ne_eq, Int32.reduceToInt] at * <;> simp (disch := omega) only [Int32.toInt_add, Int32.toInt_sub, Int32.toInt_mul, Int32.toInt_neg, Nat.reducePow, Int32.reduceToInt, bmi] at * <;> omega) | grind) (by clear hQ9 ih_self9 h_k252 ih_self22 h_j246; first | with_reducible assumption | (simp only [xl, xt, xe, xa, xb, xm, xg, ne_eq, Int32.reduceToInt] at * <;> omega) | (simp only [xl, xt, xe, ne_eq, Int32.reduceToInt] at * <;> simp (disch := omega) only [Int32.toInt_add, Int32.toInt_sub, Int32.toInt_mul, Int32.toInt_neg, Nat.reducePow, Int32.reduceToInt, bmi] at * <;> omega) | grind) ?_
              have q_34 : R (upd mo_page_5 (s_16).toNatClampNeg (vp_nar .boolean s_17)) (0 : Int32) (1 : Int32) := R_updB (by assumption) _ _
              exact h_j246 _ (by assumption)
            refine ok_if (fun q_35 => ?_) (fun q_35 => ?_)
            · skip
              refine ok_jn (fun j9 => ∀ (s_19 : Int32), ((0 : Int32) ≤ s_19 ∧ s_19 ≤ (575 : Int32)) → ok (j9 s_19) Q9) ?_ (fun j169 h_j169 => ?_)
              · intro s_19 q_36
                exact h_j245 _ _ (by clear hQ9 ih_self9 h_k252 ih_self22 h_j246 h_j245; first | with_reducible assumption | (simp only [xl, xt, xe, xa, xb, xm, xg, ne_eq, Int32.reduceToInt] at * <;> omega) | (simp only [xl, xt, xe, ne_eq, Int32.reduceToInt] at * <;> simp (disch := omega) only [Int32.toInt_add, Int32.toInt_sub, Int32.toInt_mul, Int32.toInt_neg, Nat.reducePow, Int32.reduceToInt, bmi] at * <;> omega) | grind)
              refine ok_if (fun q_37 => ?_) (fun q_37 => ?_)
              · skip
                refine ok_if (fun q_38 => ?_) (fun q_38 => ?_)
                · skip
                  exact h_j245 _ _ (by clear hQ9 ih_self9 h_k252 ih_self22 h_j246 h_j245 h_j169; first | with_reducible assumption | (simp only [xl, xt, xe, xa, xb, xm, xg, ne_eq, Int32.reduceToInt] at * <;> omega) | (simp only [xl, xt, xe, ne_eq, Int32.reduceToInt] at * <;> simp (disch := omega) only [Int32.toInt_add, Int32.toInt_sub, Int32.toInt_mul, Int32.toInt_neg, Nat.reducePow, Int32.reduceToInt, bmi] at * <;> omega) | grind)
                · skip
                  exact h_j169 _ (by clear hQ9 ih_self9 h_k252 ih_self22 h_j246 h_j245 h_j169; first | with_reducible assumption | (simp only [xl, xt, xe, xa, xb, xm, xg, ne_eq, Int32.reduceToInt] at * <;> omega) | (simp only [xl, xt, xe, ne_eq, Int32.reduceToInt] at * <;> simp (disch := omega) only [Int32.toInt_add, Int32.toInt_sub, Int32.toInt_mul, Int32.toInt_neg, Nat.reducePow, Int32.reduceToInt, bmi] at * <;> omega) | grind)
              · skip
                exact h_j169 _ (by clear hQ9 ih_self9 h_k252 ih_self22 h_j246 h_j245 h_j169; first | with_reducible assumption | (simp only [xl, xt, xe, xa, xb, xm, xg, ne_eq, Int32.reduceToInt] at * <;> omega) | (simp only [xl, xt, xe, ne_eq, Int32.reduceToInt] at * <;> simp (disch := omega) only [Int32.toInt_add, Int32.toInt_sub, Int32.toInt_mul, Int32.toInt_neg, Nat.reducePow, Int32.reduceToInt, bmi] at * <;> omega) | grind)
            · skip
              refine ok_if (fun q_39 => ?_) (fun q_39 => ?_)
              · skip
                refine ok_jn (fun j9 => ∀ (s_18 : Int32), ((0 : Int32) ≤ s_18 ∧ s_18 ≤ (575 : Int32)) → ok (j9 s_18) Q9) ?_ (fun j197 h_j197 => ?_)
                · intro s_18 q_40
                  exact h_j245 _ _ (by clear hQ9 ih_self9 h_k252 ih_self22 h_j246 h_j245; first | with_reducible assumption | (simp only [xl, xt, xe, xa, xb, xm, xg, ne_eq, Int32.reduceToInt] at * <;> omega) | (simp only [xl, xt, xe, ne_eq, Int32.reduceToInt] at * <;> simp (disch := omega) only [Int32.toInt_add, Int32.toInt_sub, Int32.toInt_mul, Int32.toInt_neg, Nat.reducePow, Int32.reduceToInt, bmi] at * <;> omega) | grind)
                refine ok_if (fun q_41 => ?_) (fun q_41 => ?_)
                · skip
                  exact h_j197 _ (by clear hQ9 ih_self9 h_k252 ih_self22 h_j246 h_j245 h_j197; first | with_reducible assumption | (simp only [xl, xt, xe, xa, xb, xm, xg, ne_eq, Int32.reduceToInt] at * <;> omega) | (simp only [xl, xt, xe, ne_eq, Int32.reduceToInt] at * <;> simp (disch := omega) only [Int32.toInt_add, Int32.toInt_sub, Int32.toInt_mul, Int32.toInt_neg, Nat.reducePow, Int32.reduceToInt, bmi] at * <;> omega) | grind)
                · skip
                  refine ok_if (fun q_42 => ?_) (fun q_42 => ?_)
                  · skip
                    exact h_j197 _ (by clear hQ9 ih_self9 h_k252 ih_self22 h_j246 h_j245 h_j197; first | with_reducible assumption | (simp only [xl, xt, xe, xa, xb, xm, xg, ne_eq, Int32.reduceToInt] at * <;> omega) | (simp only [xl, xt, xe, ne_eq, Int32.reduceToInt] at * <;> simp (disch := omega) only [Int32.toInt_add, Int32.toInt_sub, Int32.toInt_mul, Int32.toInt_neg, Nat.reducePow, Int32.reduceToInt, bmi] at * <;> omega) | grind)
                  · skip
                    exact h_j245 _ _ (by clear hQ9 ih_self9 h_k252 ih_self22 h_j246 h_j245 h_j197; first | with_reducible assumption | (simp only [xl, xt, xe, xa, xb, xm, xg, ne_eq, Int32.reduceToInt] at * <;> omega) | (simp only [xl, xt, xe, ne_eq, Int32.reduceToInt] at * <;> simp (disch := omega) only [Int32.toInt_add, Int32.toInt_sub, Int32.toInt_mul, Int32.toInt_neg, Nat.reducePow, Int32.reduceToInt, bmi] at * <;> omega) | grind)
              · skip
                refine ok_if (fun q_43 => ?_) (fun q_43 => ?_)
                · skip
                  refine ok_if (fun q_44 => ?_) (fun q_44 => ?_)
                  · skip
                    exact h_j245 _ _ (by clear hQ9 ih_self9 h_k252 ih_self22 h_j246 h_j245; first | with_reducible assumption | (simp only [xl, xt, xe, xa, xb, xm, xg, ne_eq, Int32.reduceToInt] at * <;> omega) | (simp only [xl, xt, xe, ne_eq, Int32.reduceToInt] at * <;> simp (disch := omega) only [Int32.toInt_add, Int32.toInt_sub, Int32.toInt_mul, Int32.toInt_neg, Nat.reducePow, Int32.reduceToInt, bmi] at * <;> omega) | grind)
                  · skip
                    exact h_j245 _ _ (by clear hQ9 ih_self9 h_k252 ih_self22 h_j246 h_j245; first | with_reducible assumption | (simp only [xl, xt, xe, xa, xb, xm, xg, ne_eq, Int32.reduceToInt] at * <;> omega) | (simp only [xl, xt, xe, ne_eq, Int32.reduceToInt] at * <;> simp (disch := omega) only [Int32.toInt_add, Int32.toInt_sub, Int32.toInt_mul, Int32.toInt_neg, Nat.reducePow, Int32.reduceToInt, bmi] at * <;> omega) | grind)
                · skip
                  refine ok_if (fun q_45 => ?_) (fun q_45 => ?_)
                  · skip
                    refine ok_if (fun q_46 => ?_) (fun q_46 => ?_)
                    · skip
                      exact h_j245 _ _ (by clear hQ9 ih_self9 h_k252 ih_self22 h_j246 h_j245; first | with_reducible assumption | (simp only [xl, xt, xe, xa, xb, xm, xg, ne_eq, Int32.reduceToInt] at * <;> omega) | (simp only [xl, xt, xe, ne_eq, Int32.reduceToInt] at * <;> simp (disch := omega) only [Int32.toInt_add, Int32.toInt_sub, Int32.toInt_mul, Int32.toInt_neg, Nat.reducePow, Int32.reduceToInt, bmi] at * <;> omega) | grind)
                    · skip
                      exact h_j245 _ _ (by clear hQ9 ih_self9 h_k252 ih_self22 h_j246 h_j245; first | with_reducible assumption | (simp only [xl, xt, xe, xa, xb, xm, xg, ne_eq, Int32.reduceToInt] at * <;> omega) | (simp only [xl, xt, xe, ne_eq, Int32.reduceToInt] at * <;> simp (disch := omega) only [Int32.toInt_add, Int32.toInt_sub, Int32.toInt_mul, Int32.toInt_neg, Nat.reducePow, Int32.reduceToInt, bmi] at * <;> omega) | grind)
                  · skip
                    exact h_j245 _ _ (by clear hQ9 ih_self9 h_k252 ih_self22 h_j246 h_j245; first | with_reducible assumption | (simp only [xl, xt, xe, xa, xb, xm, xg, ne_eq, Int32.reduceToInt] at * <;> omega) | (simp only [xl, xt, xe, ne_eq, Int32.reduceToInt] at * <;> simp (disch := omega) only [Int32.toInt_add, Int32.toInt_sub, Int32.toInt_mul, Int32.toInt_neg, Nat.reducePow, Int32.reduceToInt, bmi] at * <;> omega) | grind)
          refine ok_if (fun q_47 => ?_) (fun q_47 => ?_)
          · skip
            exact h_j117 _ (by clear hQ9 ih_self9 h_k252 ih_self22 h_j246 h_j117; first | with_reducible assumption | (simp only [xl, xt, xe, xa, xb, xm, xg, ne_eq, Int32.reduceToInt] at * <;> omega) | (simp only [xl, xt, xe, ne_eq, Int32.reduceToInt] at * <;> simp (disch := omega) only [Int32.toInt_add, Int32.toInt_sub, Int32.toInt_mul, Int32.toInt_neg, Nat.reducePow, Int32.reduceToInt, bmi] at * <;> omega) | grind)
          · skip
            exact h_j117 _ (by clear hQ9 ih_self9 h_k252 ih_self22 h_j246 h_j117; first | with_reducible assumption | (simp only [xl, xt, xe, xa, xb, xm, xg, ne_eq, Int32.reduceToInt] at * <;> omega) | (simp only [xl, xt, xe, ne_eq, Int32.reduceToInt] at * <;> simp (disch := omega) only [Int32.toInt_add, Int32.toInt_sub, Int32.toInt_mul, Int32.toInt_neg, Nat.reducePow, Int32.reduceToInt, bmi] at * <;> omega) | grind)

set_option maxHeartbeats 4000000 in
set_option maxRecDepth 20000 in
theorem s_Mo_compose {mo_width : Int32} {mo_height : Int32} {mo_instances : Int32} {mo_page : (Nat → Int32)} {mo_ordered : (Nat → Int32)} {mo_ways : (Nat → Int32)} {mo_ys : (Nat → Int32)} {mo_high : (Nat → Int32)} {mo_symbolOf : (Nat → Int32)} {mo_xs : (Nat → Int32)} {mo_wide : (Nat → Int32)} {mo_dark : (Nat → Int64)} {mo_differs : (Nat → Int64)} (q_1 : ((1 : Int32) ≤ mo_width ∧ mo_width ≤ (24 : Int32))) (q_2 : ((1 : Int32) ≤ mo_height ∧ mo_height ≤ (24 : Int32))) (q_3 : ((0 : Int32) ≤ mo_instances ∧ mo_instances ≤ (40 : Int32))) (q_4 : R mo_page (0 : Int32) (1 : Int32)) (q_5 : R mo_ordered (0 : Int32) (39 : Int32)) (q_6 : R mo_ways (0 : Int32) (7 : Int32)) (q_7 : R mo_ys (-8 : Int32) (31 : Int32)) (q_8 : R mo_high (0 : Int32) (8 : Int32)) (q_9 : R mo_symbolOf (0 : Int32) (15 : Int32)) (q_10 : R mo_xs (-8 : Int32) (31 : Int32)) (q_11 : R mo_wide (0 : Int32) (8 : Int32)) : ok (f_Mo_compose mo_width mo_height mo_instances mo_page mo_ordered mo_ways mo_ys mo_high mo_symbolOf mo_xs mo_wide mo_dark mo_differs) (fun o => R o.2.2.1 (0 : Int32) (1 : Int32) ∧ R o.2.2.2 (0 : Int32) (39 : Int32)) := by
  refine ok_Q (fun Q9 hQ9 => ?_)
  unfold f_Mo_compose
  refine ok_ex (fun k9 => lp (f_Mo_compose_L7 k9) FU ((0 : Int32), mo_page)) (fun j9 => ∀ (mo_page_3 : (Nat → Int32)), R mo_page_3 (0 : Int32) (1 : Int32) → ok (j9 mo_page_3) Q9) ?_ (fun k27 h_k27 => ?_)
  · intro mo_page_3 q_12
    refine ok_bd (s_Mo_sort (by clear hQ9; first | with_reducible assumption | (simp only [xl, xt, xe, xa, xb, xm, xg, ne_eq, Int32.reduceToInt] at * <;> omega) | (simp only [xl, xt, xe, ne_eq, Int32.reduceToInt] at * <;> simp (disch := omega) only [Int32.toInt_add, Int32.toInt_sub, Int32.toInt_mul, Int32.toInt_neg, Nat.reducePow, Int32.reduceToInt, bmi] at * <;> omega) | grind) (by assumption) (by assumption) (by assumption) (by assumption) (by assumption) (by assumption) (by assumption)) (fun o9 h9 => ?_)
    obtain ⟨mo_ordered_5, rfl⟩ : ∃ z9, z9 = o9 := ⟨_, rfl⟩
    have q_13 := h9
    clear h9
    refine ok_ex (fun k9 => lp (f_Mo_compose_L33 mo_instances mo_width mo_height mo_symbolOf mo_high mo_wide mo_xs mo_ys mo_dark mo_differs mo_ways mo_ordered_5 k9) FU ((0 : Int32), mo_page_3)) (fun j9 => ∀ (mo_page_8 : (Nat → Int32)), R mo_page_8 (0 : Int32) (1 : Int32) → ok (j9 mo_page_8) Q9) ?_ (fun k57 h_k57 => ?_)
    · intro mo_page_8 q_14
      refine ok_lp (fun s9 => ((0 : Int32) ≤ s9.1 ∧ s9.1 ≤ (576 : Int32))) (fun s9 => 576 - s9.1) (by clear hQ9; first | with_reducible assumption | (simp only [xl, xt, xe, xa, xb, xm, xg, ne_eq, Int32.reduceToInt] at * <;> omega) | (simp only [xl, xt, xe, ne_eq, Int32.reduceToInt] at * <;> simp (disch := omega) only [Int32.toInt_add, Int32.toInt_sub, Int32.toInt_mul, Int32.toInt_neg, Nat.reducePow, Int32.reduceToInt, bmi] at * <;> omega) | grind) ?_ ?_
      · intro s9 hs9; obtain ⟨v2_11, v1_12⟩ := s9; try dsimp only at hs9; have q_15 := hs9; exact ⟨by clear hQ9; (try dsimp only); first | with_reducible assumption | (simp only [xl, xt, xe, xa, xb, xm, xg, ne_eq, Int32.reduceToInt] at * <;> omega) | (simp only [xl, xt, xe, ne_eq, Int32.reduceToInt] at * <;> simp (disch := omega) only [Int32.toInt_add, Int32.toInt_sub, Int32.toInt_mul, Int32.toInt_neg, Nat.reducePow, Int32.reduceToInt, bmi] at * <;> omega) | grind, by clear hQ9; (try dsimp only); first | with_reducible assumption | (simp only [xl, xt, xe, xa, xb, xm, xg, ne_eq, Int32.reduceToInt] at * <;> omega) | (simp only [xl, xt, xe, ne_eq, Int32.reduceToInt] at * <;> simp (disch := omega) only [Int32.toInt_add, Int32.toInt_sub, Int32.toInt_mul, Int32.toInt_neg, Nat.reducePow, Int32.reduceToInt, bmi] at * <;> omega) | grind⟩
      intro self61 s9 hs9 ih_self61
      obtain ⟨v2_11, v1_12⟩ := s9; try dsimp only at hs9; have q_15 := hs9
      unfold f_Mo_compose_L61
      try dsimp only
      try dsimp only at ih_self61
      refine ok_if (fun q_16 => ?_) (fun q_16 => ?_)
      · skip
        exact ok_some (hQ9 _ ⟨by assumption, by assumption⟩)
      · skip
        refine ok_gq (576 : Int32) (by decide) (by clear hQ9 ih_self61; first | with_reducible assumption | (simp only [xl, xt, xe, xa, xb, xm, xg, ne_eq, Int32.reduceToInt] at * <;> omega) | (simp only [xl, xt, xe, ne_eq, Int32.reduceToInt] at * <;> simp (disch := omega) only [Int32.toInt_add, Int32.toInt_sub, Int32.toInt_mul, Int32.toInt_neg, Nat.reducePow, Int32.reduceToInt, bmi] at * <;> omega) | grind) (by clear hQ9 ih_self61; first | with_reducible assumption | (simp only [xl, xt, xe, xa, xb, xm, xg, ne_eq, Int32.reduceToInt] at * <;> omega) | (simp only [xl, xt, xe, ne_eq, Int32.reduceToInt] at * <;> simp (disch := omega) only [Int32.toInt_add, Int32.toInt_sub, Int32.toInt_mul, Int32.toInt_neg, Nat.reducePow, Int32.reduceToInt, bmi] at * <;> omega) | grind) ?_
        have q_17 := (by assumption : R mo_page_8 (0 : Int32) (1 : Int32)) (v2_11).toNatClampNeg
        refine ok_jn (fun j9 => ∀ (s_13 : Int32), ok (j9 s_13) Q9) ?_ (fun j84 h_j84 => ?_)
        · intro s_13
          refine ok_nl (fun v2_14 e_v2_14 => ?_)
          exact ih_self61 (v2_14, s_13) (by clear hQ9 ih_self61; first | with_reducible assumption | (simp only [xl, xt, xe, xa, xb, xm, xg, ne_eq, Int32.reduceToInt] at * <;> omega) | (simp only [xl, xt, xe, ne_eq, Int32.reduceToInt] at * <;> simp (disch := omega) only [Int32.toInt_add, Int32.toInt_sub, Int32.toInt_mul, Int32.toInt_neg, Nat.reducePow, Int32.reduceToInt, bmi] at * <;> omega) | grind) (by clear hQ9 ih_self61; (try dsimp only); first | with_reducible assumption | (simp only [xl, xt, xe, xa, xb, xm, xg, ne_eq, Int32.reduceToInt] at * <;> omega) | (simp only [xl, xt, xe, ne_eq, Int32.reduceToInt] at * <;> simp (disch := omega) only [Int32.toInt_add, Int32.toInt_sub, Int32.toInt_mul, Int32.toInt_neg, Nat.reducePow, Int32.reduceToInt, bmi] at * <;> omega) | grind)
        refine ok_if (fun q_18 => ?_) (fun q_18 => ?_)
        · skip
          exact h_j84 _
        · skip
          exact h_j84 _
    refine ok_lp (fun s9 => ((0 : Int32) ≤ s9.1 ∧ s9.1 ≤ (40 : Int32)) ∧ R s9.2 (0 : Int32) (1 : Int32)) (fun s9 => 40 - s9.1) ⟨by clear hQ9 h_k57; first | with_reducible assumption | (simp only [xl, xt, xe, xa, xb, xm, xg, ne_eq, Int32.reduceToInt] at * <;> omega) | (simp only [xl, xt, xe, ne_eq, Int32.reduceToInt] at * <;> simp (disch := omega) only [Int32.toInt_add, Int32.toInt_sub, Int32.toInt_mul, Int32.toInt_neg, Nat.reducePow, Int32.reduceToInt, bmi] at * <;> omega) | grind, by assumption⟩ ?_ ?_
    · intro s9 hs9; obtain ⟨v1_6, mo_page_7⟩ := s9; try dsimp only at hs9; obtain ⟨q_19, q_20⟩ := hs9; exact ⟨by clear hQ9 h_k57; (try dsimp only); first | with_reducible assumption | (simp only [xl, xt, xe, xa, xb, xm, xg, ne_eq, Int32.reduceToInt] at * <;> omega) | (simp only [xl, xt, xe, ne_eq, Int32.reduceToInt] at * <;> simp (disch := omega) only [Int32.toInt_add, Int32.toInt_sub, Int32.toInt_mul, Int32.toInt_neg, Nat.reducePow, Int32.reduceToInt, bmi] at * <;> omega) | grind, by clear hQ9 h_k57; (try dsimp only); first | with_reducible assumption | (simp only [xl, xt, xe, xa, xb, xm, xg, ne_eq, Int32.reduceToInt] at * <;> omega) | (simp only [xl, xt, xe, ne_eq, Int32.reduceToInt] at * <;> simp (disch := omega) only [Int32.toInt_add, Int32.toInt_sub, Int32.toInt_mul, Int32.toInt_neg, Nat.reducePow, Int32.reduceToInt, bmi] at * <;> omega) | grind⟩
    intro self33 s9 hs9 ih_self33
    obtain ⟨v1_6, mo_page_7⟩ := s9; try dsimp only at hs9; obtain ⟨q_19, q_20⟩ := hs9
    unfold f_Mo_compose_L33
    try dsimp only
    try dsimp only at ih_self33
    refine ok_if (fun q_21 => ?_) (fun q_21 => ?_)
    · skip
      exact h_k57 _ (by assumption)
    · skip
      refine ok_gq (40 : Int32) (by decide) (by clear hQ9 h_k57 ih_self33; first | with_reducible assumption | (simp only [xl, xt, xe, xa, xb, xm, xg, ne_eq, Int32.reduceToInt] at * <;> omega) | (simp only [xl, xt, xe, ne_eq, Int32.reduceToInt] at * <;> simp (disch := omega) only [Int32.toInt_add, Int32.toInt_sub, Int32.toInt_mul, Int32.toInt_neg, Nat.reducePow, Int32.reduceToInt, bmi] at * <;> omega) | grind) (by clear hQ9 h_k57 ih_self33; first | with_reducible assumption | (simp only [xl, xt, xe, xa, xb, xm, xg, ne_eq, Int32.reduceToInt] at * <;> omega) | (simp only [xl, xt, xe, ne_eq, Int32.reduceToInt] at * <;> simp (disch := omega) only [Int32.toInt_add, Int32.toInt_sub, Int32.toInt_mul, Int32.toInt_neg, Nat.reducePow, Int32.reduceToInt, bmi] at * <;> omega) | grind) ?_
      have q_22 := (by assumption : R mo_ordered_5 (0 : Int32) (39 : Int32)) (v1_6).toNatClampNeg
      refine ok_bd (s_Mo_lay (by clear hQ9 h_k57 ih_self33; first | with_reducible assumption | (simp only [xl, xt, xe, xa, xb, xm, xg, ne_eq, Int32.reduceToInt] at * <;> omega) | (simp only [xl, xt, xe, ne_eq, Int32.reduceToInt] at * <;> simp (disch := omega) only [Int32.toInt_add, Int32.toInt_sub, Int32.toInt_mul, Int32.toInt_neg, Nat.reducePow, Int32.reduceToInt, bmi] at * <;> omega) | grind) (by clear hQ9 h_k57 ih_self33; first | with_reducible assumption | (simp only [xl, xt, xe, xa, xb, xm, xg, ne_eq, Int32.reduceToInt] at * <;> omega) | (simp only [xl, xt, xe, ne_eq, Int32.reduceToInt] at * <;> simp (disch := omega) only [Int32.toInt_add, Int32.toInt_sub, Int32.toInt_mul, Int32.toInt_neg, Nat.reducePow, Int32.reduceToInt, bmi] at * <;> omega) | grind) (by assumption) (by assumption) (by assumption) (by assumption) (by assumption) (by assumption) (by assumption) (by clear hQ9 h_k57 ih_self33; first | with_reducible assumption | (simp only [xl, xt, xe, xa, xb, xm, xg, ne_eq, Int32.reduceToInt] at * <;> omega) | (simp only [xl, xt, xe, ne_eq, Int32.reduceToInt] at * <;> simp (disch := omega) only [Int32.toInt_add, Int32.toInt_sub, Int32.toInt_mul, Int32.toInt_neg, Nat.reducePow, Int32.reduceToInt, bmi] at * <;> omega) | grind)) (fun o9 h9 => ?_)
      obtain ⟨mo_page_9, rfl⟩ : ∃ z9, z9 = o9 := ⟨_, rfl⟩
      have q_23 := h9
      clear h9
      refine ok_nl (fun v1_10 e_v1_10 => ?_)
      exact ih_self33 (v1_10, mo_page_9) ⟨by clear hQ9 h_k57 ih_self33; first | with_reducible assumption | (simp only [xl, xt, xe, xa, xb, xm, xg, ne_eq, Int32.reduceToInt] at * <;> omega) | (simp only [xl, xt, xe, ne_eq, Int32.reduceToInt] at * <;> simp (disch := omega) only [Int32.toInt_add, Int32.toInt_sub, Int32.toInt_mul, Int32.toInt_neg, Nat.reducePow, Int32.reduceToInt, bmi] at * <;> omega) | grind, by assumption⟩ (by clear hQ9 h_k57 ih_self33; (try dsimp only); first | with_reducible assumption | (simp only [xl, xt, xe, xa, xb, xm, xg, ne_eq, Int32.reduceToInt] at * <;> omega) | (simp only [xl, xt, xe, ne_eq, Int32.reduceToInt] at * <;> simp (disch := omega) only [Int32.toInt_add, Int32.toInt_sub, Int32.toInt_mul, Int32.toInt_neg, Nat.reducePow, Int32.reduceToInt, bmi] at * <;> omega) | grind)
  refine ok_lp (fun s9 => ((0 : Int32) ≤ s9.1 ∧ s9.1 ≤ (576 : Int32)) ∧ R s9.2 (0 : Int32) (1 : Int32)) (fun s9 => 576 - s9.1) ⟨by clear hQ9 h_k27; first | with_reducible assumption | (simp only [xl, xt, xe, xa, xb, xm, xg, ne_eq, Int32.reduceToInt] at * <;> omega) | (simp only [xl, xt, xe, ne_eq, Int32.reduceToInt] at * <;> simp (disch := omega) only [Int32.toInt_add, Int32.toInt_sub, Int32.toInt_mul, Int32.toInt_neg, Nat.reducePow, Int32.reduceToInt, bmi] at * <;> omega) | grind, by assumption⟩ ?_ ?_
  · intro s9 hs9; obtain ⟨v1_1, mo_page_2⟩ := s9; try dsimp only at hs9; obtain ⟨q_24, q_25⟩ := hs9; exact ⟨by clear hQ9 h_k27; (try dsimp only); first | with_reducible assumption | (simp only [xl, xt, xe, xa, xb, xm, xg, ne_eq, Int32.reduceToInt] at * <;> omega) | (simp only [xl, xt, xe, ne_eq, Int32.reduceToInt] at * <;> simp (disch := omega) only [Int32.toInt_add, Int32.toInt_sub, Int32.toInt_mul, Int32.toInt_neg, Nat.reducePow, Int32.reduceToInt, bmi] at * <;> omega) | grind, by clear hQ9 h_k27; (try dsimp only); first | with_reducible assumption | (simp only [xl, xt, xe, xa, xb, xm, xg, ne_eq, Int32.reduceToInt] at * <;> omega) | (simp only [xl, xt, xe, ne_eq, Int32.reduceToInt] at * <;> simp (disch := omega) only [Int32.toInt_add, Int32.toInt_sub, Int32.toInt_mul, Int32.toInt_neg, Nat.reducePow, Int32.reduceToInt, bmi] at * <;> omega) | grind⟩
  intro self7 s9 hs9 ih_self7
  obtain ⟨v1_1, mo_page_2⟩ := s9; try dsimp only at hs9; obtain ⟨q_24, q_25⟩ := hs9
  unfold f_Mo_compose_L7
  try dsimp only
  try dsimp only at ih_self7
  refine ok_if (fun q_26 => ?_) (fun q_26 => ?_)
  · skip
    exact h_k27 _ (by assumption)
  · skip
    refine ok_gq (576 : Int32) (by decide) (by clear hQ9 h_k27 ih_self7; first | with_reducible assumption | (simp only [xl, xt, xe, xa, xb, xm, xg, ne_eq, Int32.reduceToInt] at * <;> omega) | (simp only [xl, xt, xe, ne_eq, Int32.reduceToInt] at * <;> simp (disch := omega) only [Int32.toInt_add, Int32.toInt_sub, Int32.toInt_mul, Int32.toInt_neg, Nat.reducePow, Int32.reduceToInt, bmi] at * <;> omega) | grind) (by clear hQ9 h_k27 ih_self7; first | with_reducible assumption | (simp only [xl, xt, xe, xa, xb, xm, xg, ne_eq, Int32.reduceToInt] at * <;> omega) | (simp only [xl, xt, xe, ne_eq, Int32.reduceToInt] at * <;> simp (disch := omega) only [Int32.toInt_add, Int32.toInt_sub, Int32.toInt_mul, Int32.toInt_neg, Nat.reducePow, Int32.reduceToInt, bmi] at * <;> omega) | grind) ?_
    have q_27 : R (upd mo_page_2 (v1_1).toNatClampNeg (vp_nar .boolean (0 : Int32))) (0 : Int32) (1 : Int32) := R_updB (by assumption) _ _
    refine ok_nl (fun v1_4 e_v1_4 => ?_)
    exact ih_self7 (v1_4, (upd mo_page_2 (v1_1).toNatClampNeg (vp_nar .boolean (0 : Int32)))) ⟨by clear hQ9 h_k27 ih_self7; first | with_reducible assumption | (simp only [xl, xt, xe, xa, xb, xm, xg, ne_eq, Int32.reduceToInt] at * <;> omega) | (simp only [xl, xt, xe, ne_eq, Int32.reduceToInt] at * <;> simp (disch := omega) only [Int32.toInt_add, Int32.toInt_sub, Int32.toInt_mul, Int32.toInt_neg, Nat.reducePow, Int32.reduceToInt, bmi] at * <;> omega) | grind, by assumption⟩ (by clear hQ9 h_k27 ih_self7; (try dsimp only); first | with_reducible assumption | (simp only [xl, xt, xe, xa, xb, xm, xg, ne_eq, Int32.reduceToInt] at * <;> omega) | (simp only [xl, xt, xe, ne_eq, Int32.reduceToInt] at * <;> simp (disch := omega) only [Int32.toInt_add, Int32.toInt_sub, Int32.toInt_mul, Int32.toInt_neg, Nat.reducePow, Int32.reduceToInt, bmi] at * <;> omega) | grind)

set_option maxHeartbeats 4000000 in
set_option maxRecDepth 20000 in
theorem s_Mo_at {mo_width : Int32} {mo_height : Int32} {mo_page : (Nat → Int32)} {p0 : Int32} {p1 : Int32} (q_1 : ((1 : Int32) ≤ mo_width ∧ mo_width ≤ (24 : Int32))) (q_2 : ((1 : Int32) ≤ mo_height ∧ mo_height ≤ (24 : Int32))) (q_3 : R mo_page (0 : Int32) (1 : Int32)) : ok (f_Mo_at mo_width mo_height mo_page p0 p1) (fun o => ((0 : Int32) ≤ o.1 ∧ o.1 ≤ (1 : Int32))) := by
  refine ok_Q (fun Q9 hQ9 => ?_)
  unfold f_Mo_at
  refine ok_bd (s_Mo_isIn) (fun o9 h9 => ?_)
  obtain ⟨r_1, rfl⟩ : ∃ z9, z9 = o9 := ⟨_, rfl⟩
  obtain ⟨q_4, q_5⟩ := h9
  refine ok_jn (fun j9 => ∀ (s_2 : Int32), ((0 : Int32) ≤ s_2 ∧ s_2 ≤ (1 : Int32)) → (s_2 = 0 → (0 : Int32) ≤ p0 ∧ p0 ≤ 23 ∧ (0 : Int32) ≤ p1 ∧ p1 ≤ 23) → ok (j9 s_2) Q9) ?_ (fun j34 h_j34 => ?_)
  · intro s_2 q_6 q_7
    refine ok_if (fun q_8 => ?_) (fun q_8 => ?_)
    · skip
      refine ok_gq (576 : Int32) (by decide) (by clear hQ9; first | with_reducible assumption | (simp only [xl, xt, xe, xa, xb, xm, xg, ne_eq, Int32.reduceToInt] at * <;> omega) | (simp only [xl, xt, xe, ne_eq, Int32.reduceToInt] at * <;> simp (disch := omega) only [Int32.toInt_add, Int32.toInt_sub, Int32.toInt_mul, Int32.toInt_neg, Nat.reducePow, Int32.reduceToInt, bmi] at * <;> omega) | grind) (by clear hQ9; first | with_reducible assumption | (simp only [xl, xt, xe, xa, xb, xm, xg, ne_eq, Int32.reduceToInt] at * <;> omega) | (simp only [xl, xt, xe, ne_eq, Int32.reduceToInt] at * <;> simp (disch := omega) only [Int32.toInt_add, Int32.toInt_sub, Int32.toInt_mul, Int32.toInt_neg, Nat.reducePow, Int32.reduceToInt, bmi] at * <;> omega) | grind) ?_
      have q_9 := (by assumption : R mo_page (0 : Int32) (1 : Int32)) ((((24 : Int32) * p1) + p0)).toNatClampNeg
      refine ok_if (fun q_10 => ?_) (fun q_10 => ?_)
      · skip
        exact ok_some (hQ9 _ (by clear hQ9; first | with_reducible assumption | (simp only [xl, xt, xe, xa, xb, xm, xg, ne_eq, Int32.reduceToInt] at * <;> omega) | (simp only [xl, xt, xe, ne_eq, Int32.reduceToInt] at * <;> simp (disch := omega) only [Int32.toInt_add, Int32.toInt_sub, Int32.toInt_mul, Int32.toInt_neg, Nat.reducePow, Int32.reduceToInt, bmi] at * <;> omega) | grind))
      · skip
        exact ok_some (hQ9 _ (by clear hQ9; first | with_reducible assumption | (simp only [xl, xt, xe, xa, xb, xm, xg, ne_eq, Int32.reduceToInt] at * <;> omega) | (simp only [xl, xt, xe, ne_eq, Int32.reduceToInt] at * <;> simp (disch := omega) only [Int32.toInt_add, Int32.toInt_sub, Int32.toInt_mul, Int32.toInt_neg, Nat.reducePow, Int32.reduceToInt, bmi] at * <;> omega) | grind))
    · skip
      exact ok_some (hQ9 _ (by clear hQ9; first | with_reducible assumption | (simp only [xl, xt, xe, xa, xb, xm, xg, ne_eq, Int32.reduceToInt] at * <;> omega) | (simp only [xl, xt, xe, ne_eq, Int32.reduceToInt] at * <;> simp (disch := omega) only [Int32.toInt_add, Int32.toInt_sub, Int32.toInt_mul, Int32.toInt_neg, Nat.reducePow, Int32.reduceToInt, bmi] at * <;> omega) | grind))
  refine ok_jn (fun j9 => ∀ (_ : Unit), ok (j9 ()) Q9) ?_ (fun j33 h_j33 => ?_)
  · intro _
    exact h_j34 _ (by clear hQ9 h_j34; first | with_reducible assumption | (simp only [xl, xt, xe, xa, xb, xm, xg, ne_eq, Int32.reduceToInt] at * <;> omega) | (simp only [xl, xt, xe, ne_eq, Int32.reduceToInt] at * <;> simp (disch := omega) only [Int32.toInt_add, Int32.toInt_sub, Int32.toInt_mul, Int32.toInt_neg, Nat.reducePow, Int32.reduceToInt, bmi] at * <;> omega) | grind) (by clear hQ9 h_j34; first | with_reducible assumption | (simp only [xl, xt, xe, xa, xb, xm, xg, ne_eq, Int32.reduceToInt] at * <;> omega) | (simp only [xl, xt, xe, ne_eq, Int32.reduceToInt] at * <;> simp (disch := omega) only [Int32.toInt_add, Int32.toInt_sub, Int32.toInt_mul, Int32.toInt_neg, Nat.reducePow, Int32.reduceToInt, bmi] at * <;> omega) | grind)
  refine ok_if (fun q_11 => ?_) (fun q_11 => ?_)
  · skip
    exact h_j33 ()
  · skip
    refine ok_bd (s_Mo_isIn) (fun o9 h9 => ?_)
    obtain ⟨r_3, rfl⟩ : ∃ z9, z9 = o9 := ⟨_, rfl⟩
    obtain ⟨q_12, q_13⟩ := h9
    refine ok_if (fun q_14 => ?_) (fun q_14 => ?_)
    · skip
      exact h_j33 ()
    · skip
      exact h_j34 _ (by clear hQ9 h_j34 h_j33; first | with_reducible assumption | (simp only [xl, xt, xe, xa, xb, xm, xg, ne_eq, Int32.reduceToInt] at * <;> omega) | (simp only [xl, xt, xe, ne_eq, Int32.reduceToInt] at * <;> simp (disch := omega) only [Int32.toInt_add, Int32.toInt_sub, Int32.toInt_mul, Int32.toInt_neg, Nat.reducePow, Int32.reduceToInt, bmi] at * <;> omega) | grind) (by clear hQ9 h_j34 h_j33; first | with_reducible assumption | (simp only [xl, xt, xe, xa, xb, xm, xg, ne_eq, Int32.reduceToInt] at * <;> omega) | (simp only [xl, xt, xe, ne_eq, Int32.reduceToInt] at * <;> simp (disch := omega) only [Int32.toInt_add, Int32.toInt_sub, Int32.toInt_mul, Int32.toInt_neg, Nat.reducePow, Int32.reduceToInt, bmi] at * <;> omega) | grind)

set_option maxHeartbeats 4000000 in
set_option maxRecDepth 20000 in
theorem s_Mo_change {mo_symbolOf : (Nat → Int32)} {mo_xs : (Nat → Int32)} {mo_ys : (Nat → Int32)} {mo_differs : (Nat → Int64)} {p0 : Int32} {p1 : Int32} (q_1 : R mo_symbolOf (0 : Int32) (15 : Int32)) (q_2 : R mo_xs (-8 : Int32) (31 : Int32)) (q_3 : R mo_ys (-8 : Int32) (31 : Int32)) (q_4 : ((0 : Int32) ≤ p0 ∧ p0 ≤ (39 : Int32))) (q_5 : ((0 : Int32) ≤ p1 ∧ p1 ≤ (39 : Int32))) : ok (f_Mo_change mo_symbolOf mo_xs mo_ys mo_differs p0 p1) (fun o => R o.1 (0 : Int32) (15 : Int32) ∧ R o.2.1 (-8 : Int32) (31 : Int32) ∧ R o.2.2.1 (-8 : Int32) (31 : Int32)) := by
  refine ok_Q (fun Q9 hQ9 => ?_)
  unfold f_Mo_change
  refine ok_gq (40 : Int32) (by decide) (by clear hQ9; first | with_reducible assumption | (simp only [xl, xt, xe, xa, xb, xm, xg, ne_eq, Int32.reduceToInt] at * <;> omega) | (simp only [xl, xt, xe, ne_eq, Int32.reduceToInt] at * <;> simp (disch := omega) only [Int32.toInt_add, Int32.toInt_sub, Int32.toInt_mul, Int32.toInt_neg, Nat.reducePow, Int32.reduceToInt, bmi] at * <;> omega) | grind) (by clear hQ9; first | with_reducible assumption | (simp only [xl, xt, xe, xa, xb, xm, xg, ne_eq, Int32.reduceToInt] at * <;> omega) | (simp only [xl, xt, xe, ne_eq, Int32.reduceToInt] at * <;> simp (disch := omega) only [Int32.toInt_add, Int32.toInt_sub, Int32.toInt_mul, Int32.toInt_neg, Nat.reducePow, Int32.reduceToInt, bmi] at * <;> omega) | grind) ?_
  have q_6 := (by assumption : R mo_symbolOf (0 : Int32) (15 : Int32)) (p0).toNatClampNeg
  refine ok_nl (fun v3_1 e_v3_1 => ?_)
  refine ok_gq (40 : Int32) (by decide) (by clear hQ9; first | with_reducible assumption | (simp only [xl, xt, xe, xa, xb, xm, xg, ne_eq, Int32.reduceToInt] at * <;> omega) | (simp only [xl, xt, xe, ne_eq, Int32.reduceToInt] at * <;> simp (disch := omega) only [Int32.toInt_add, Int32.toInt_sub, Int32.toInt_mul, Int32.toInt_neg, Nat.reducePow, Int32.reduceToInt, bmi] at * <;> omega) | grind) (by clear hQ9; first | with_reducible assumption | (simp only [xl, xt, xe, xa, xb, xm, xg, ne_eq, Int32.reduceToInt] at * <;> omega) | (simp only [xl, xt, xe, ne_eq, Int32.reduceToInt] at * <;> simp (disch := omega) only [Int32.toInt_add, Int32.toInt_sub, Int32.toInt_mul, Int32.toInt_neg, Nat.reducePow, Int32.reduceToInt, bmi] at * <;> omega) | grind) ?_
  have q_7 := (by assumption : R mo_symbolOf (0 : Int32) (15 : Int32)) (p1).toNatClampNeg
  refine ok_nl (fun w_2 e_w_2 => ?_)
  refine ok_gq (40 : Int32) (by decide) (by clear hQ9; first | with_reducible assumption | (simp only [xl, xt, xe, xa, xb, xm, xg, ne_eq, Int32.reduceToInt] at * <;> omega) | (simp only [xl, xt, xe, ne_eq, Int32.reduceToInt] at * <;> simp (disch := omega) only [Int32.toInt_add, Int32.toInt_sub, Int32.toInt_mul, Int32.toInt_neg, Nat.reducePow, Int32.reduceToInt, bmi] at * <;> omega) | grind) (by clear hQ9; first | with_reducible assumption | (simp only [xl, xt, xe, xa, xb, xm, xg, ne_eq, Int32.reduceToInt] at * <;> omega) | (simp only [xl, xt, xe, ne_eq, Int32.reduceToInt] at * <;> simp (disch := omega) only [Int32.toInt_add, Int32.toInt_sub, Int32.toInt_mul, Int32.toInt_neg, Nat.reducePow, Int32.reduceToInt, bmi] at * <;> omega) | grind) ?_
  have q_8 : R (upd mo_symbolOf (p0).toNatClampNeg w_2) (0 : Int32) (15 : Int32) := R_upd (by assumption) _ (by clear hQ9; first | with_reducible assumption | (simp only [xl, xt, xe, xa, xb, xm, xg, ne_eq, Int32.reduceToInt] at * <;> omega) | (simp only [xl, xt, xe, ne_eq, Int32.reduceToInt] at * <;> simp (disch := omega) only [Int32.toInt_add, Int32.toInt_sub, Int32.toInt_mul, Int32.toInt_neg, Nat.reducePow, Int32.reduceToInt, bmi] at * <;> omega) | grind)
  refine ok_gq (40 : Int32) (by decide) (by clear hQ9; first | with_reducible assumption | (simp only [xl, xt, xe, xa, xb, xm, xg, ne_eq, Int32.reduceToInt] at * <;> omega) | (simp only [xl, xt, xe, ne_eq, Int32.reduceToInt] at * <;> simp (disch := omega) only [Int32.toInt_add, Int32.toInt_sub, Int32.toInt_mul, Int32.toInt_neg, Nat.reducePow, Int32.reduceToInt, bmi] at * <;> omega) | grind) (by clear hQ9; first | with_reducible assumption | (simp only [xl, xt, xe, xa, xb, xm, xg, ne_eq, Int32.reduceToInt] at * <;> omega) | (simp only [xl, xt, xe, ne_eq, Int32.reduceToInt] at * <;> simp (disch := omega) only [Int32.toInt_add, Int32.toInt_sub, Int32.toInt_mul, Int32.toInt_neg, Nat.reducePow, Int32.reduceToInt, bmi] at * <;> omega) | grind) ?_
  have q_9 : R (upd (upd mo_symbolOf (p0).toNatClampNeg w_2) (p1).toNatClampNeg v3_1) (0 : Int32) (15 : Int32) := R_upd (by assumption) _ (by clear hQ9; first | with_reducible assumption | (simp only [xl, xt, xe, xa, xb, xm, xg, ne_eq, Int32.reduceToInt] at * <;> omega) | (simp only [xl, xt, xe, ne_eq, Int32.reduceToInt] at * <;> simp (disch := omega) only [Int32.toInt_add, Int32.toInt_sub, Int32.toInt_mul, Int32.toInt_neg, Nat.reducePow, Int32.reduceToInt, bmi] at * <;> omega) | grind)
  refine ok_gq (40 : Int32) (by decide) (by clear hQ9; first | with_reducible assumption | (simp only [xl, xt, xe, xa, xb, xm, xg, ne_eq, Int32.reduceToInt] at * <;> omega) | (simp only [xl, xt, xe, ne_eq, Int32.reduceToInt] at * <;> simp (disch := omega) only [Int32.toInt_add, Int32.toInt_sub, Int32.toInt_mul, Int32.toInt_neg, Nat.reducePow, Int32.reduceToInt, bmi] at * <;> omega) | grind) (by clear hQ9; first | with_reducible assumption | (simp only [xl, xt, xe, xa, xb, xm, xg, ne_eq, Int32.reduceToInt] at * <;> omega) | (simp only [xl, xt, xe, ne_eq, Int32.reduceToInt] at * <;> simp (disch := omega) only [Int32.toInt_add, Int32.toInt_sub, Int32.toInt_mul, Int32.toInt_neg, Nat.reducePow, Int32.reduceToInt, bmi] at * <;> omega) | grind) ?_
  have q_10 := (by assumption : R mo_xs (-8 : Int32) (31 : Int32)) (p0).toNatClampNeg
  refine ok_nl (fun v3_3 e_v3_3 => ?_)
  refine ok_gq (40 : Int32) (by decide) (by clear hQ9; first | with_reducible assumption | (simp only [xl, xt, xe, xa, xb, xm, xg, ne_eq, Int32.reduceToInt] at * <;> omega) | (simp only [xl, xt, xe, ne_eq, Int32.reduceToInt] at * <;> simp (disch := omega) only [Int32.toInt_add, Int32.toInt_sub, Int32.toInt_mul, Int32.toInt_neg, Nat.reducePow, Int32.reduceToInt, bmi] at * <;> omega) | grind) (by clear hQ9; first | with_reducible assumption | (simp only [xl, xt, xe, xa, xb, xm, xg, ne_eq, Int32.reduceToInt] at * <;> omega) | (simp only [xl, xt, xe, ne_eq, Int32.reduceToInt] at * <;> simp (disch := omega) only [Int32.toInt_add, Int32.toInt_sub, Int32.toInt_mul, Int32.toInt_neg, Nat.reducePow, Int32.reduceToInt, bmi] at * <;> omega) | grind) ?_
  have q_11 := (by assumption : R mo_xs (-8 : Int32) (31 : Int32)) (p1).toNatClampNeg
  refine ok_nl (fun w_4 e_w_4 => ?_)
  refine ok_gq (40 : Int32) (by decide) (by clear hQ9; first | with_reducible assumption | (simp only [xl, xt, xe, xa, xb, xm, xg, ne_eq, Int32.reduceToInt] at * <;> omega) | (simp only [xl, xt, xe, ne_eq, Int32.reduceToInt] at * <;> simp (disch := omega) only [Int32.toInt_add, Int32.toInt_sub, Int32.toInt_mul, Int32.toInt_neg, Nat.reducePow, Int32.reduceToInt, bmi] at * <;> omega) | grind) (by clear hQ9; first | with_reducible assumption | (simp only [xl, xt, xe, xa, xb, xm, xg, ne_eq, Int32.reduceToInt] at * <;> omega) | (simp only [xl, xt, xe, ne_eq, Int32.reduceToInt] at * <;> simp (disch := omega) only [Int32.toInt_add, Int32.toInt_sub, Int32.toInt_mul, Int32.toInt_neg, Nat.reducePow, Int32.reduceToInt, bmi] at * <;> omega) | grind) ?_
  have q_12 : R (upd mo_xs (p0).toNatClampNeg w_4) (-8 : Int32) (31 : Int32) := R_upd (by assumption) _ (by clear hQ9; first | with_reducible assumption | (simp only [xl, xt, xe, xa, xb, xm, xg, ne_eq, Int32.reduceToInt] at * <;> omega) | (simp only [xl, xt, xe, ne_eq, Int32.reduceToInt] at * <;> simp (disch := omega) only [Int32.toInt_add, Int32.toInt_sub, Int32.toInt_mul, Int32.toInt_neg, Nat.reducePow, Int32.reduceToInt, bmi] at * <;> omega) | grind)
  refine ok_gq (40 : Int32) (by decide) (by clear hQ9; first | with_reducible assumption | (simp only [xl, xt, xe, xa, xb, xm, xg, ne_eq, Int32.reduceToInt] at * <;> omega) | (simp only [xl, xt, xe, ne_eq, Int32.reduceToInt] at * <;> simp (disch := omega) only [Int32.toInt_add, Int32.toInt_sub, Int32.toInt_mul, Int32.toInt_neg, Nat.reducePow, Int32.reduceToInt, bmi] at * <;> omega) | grind) (by clear hQ9; first | with_reducible assumption | (simp only [xl, xt, xe, xa, xb, xm, xg, ne_eq, Int32.reduceToInt] at * <;> omega) | (simp only [xl, xt, xe, ne_eq, Int32.reduceToInt] at * <;> simp (disch := omega) only [Int32.toInt_add, Int32.toInt_sub, Int32.toInt_mul, Int32.toInt_neg, Nat.reducePow, Int32.reduceToInt, bmi] at * <;> omega) | grind) ?_
  have q_13 : R (upd (upd mo_xs (p0).toNatClampNeg w_4) (p1).toNatClampNeg v3_3) (-8 : Int32) (31 : Int32) := R_upd (by assumption) _ (by clear hQ9; first | with_reducible assumption | (simp only [xl, xt, xe, xa, xb, xm, xg, ne_eq, Int32.reduceToInt] at * <;> omega) | (simp only [xl, xt, xe, ne_eq, Int32.reduceToInt] at * <;> simp (disch := omega) only [Int32.toInt_add, Int32.toInt_sub, Int32.toInt_mul, Int32.toInt_neg, Nat.reducePow, Int32.reduceToInt, bmi] at * <;> omega) | grind)
  refine ok_gq (40 : Int32) (by decide) (by clear hQ9; first | with_reducible assumption | (simp only [xl, xt, xe, xa, xb, xm, xg, ne_eq, Int32.reduceToInt] at * <;> omega) | (simp only [xl, xt, xe, ne_eq, Int32.reduceToInt] at * <;> simp (disch := omega) only [Int32.toInt_add, Int32.toInt_sub, Int32.toInt_mul, Int32.toInt_neg, Nat.reducePow, Int32.reduceToInt, bmi] at * <;> omega) | grind) (by clear hQ9; first | with_reducible assumption | (simp only [xl, xt, xe, xa, xb, xm, xg, ne_eq, Int32.reduceToInt] at * <;> omega) | (simp only [xl, xt, xe, ne_eq, Int32.reduceToInt] at * <;> simp (disch := omega) only [Int32.toInt_add, Int32.toInt_sub, Int32.toInt_mul, Int32.toInt_neg, Nat.reducePow, Int32.reduceToInt, bmi] at * <;> omega) | grind) ?_
  have q_14 := (by assumption : R mo_ys (-8 : Int32) (31 : Int32)) (p0).toNatClampNeg
  refine ok_nl (fun v3_5 e_v3_5 => ?_)
  refine ok_gq (40 : Int32) (by decide) (by clear hQ9; first | with_reducible assumption | (simp only [xl, xt, xe, xa, xb, xm, xg, ne_eq, Int32.reduceToInt] at * <;> omega) | (simp only [xl, xt, xe, ne_eq, Int32.reduceToInt] at * <;> simp (disch := omega) only [Int32.toInt_add, Int32.toInt_sub, Int32.toInt_mul, Int32.toInt_neg, Nat.reducePow, Int32.reduceToInt, bmi] at * <;> omega) | grind) (by clear hQ9; first | with_reducible assumption | (simp only [xl, xt, xe, xa, xb, xm, xg, ne_eq, Int32.reduceToInt] at * <;> omega) | (simp only [xl, xt, xe, ne_eq, Int32.reduceToInt] at * <;> simp (disch := omega) only [Int32.toInt_add, Int32.toInt_sub, Int32.toInt_mul, Int32.toInt_neg, Nat.reducePow, Int32.reduceToInt, bmi] at * <;> omega) | grind) ?_
  have q_15 := (by assumption : R mo_ys (-8 : Int32) (31 : Int32)) (p1).toNatClampNeg
  refine ok_nl (fun w_6 e_w_6 => ?_)
  refine ok_gq (40 : Int32) (by decide) (by clear hQ9; first | with_reducible assumption | (simp only [xl, xt, xe, xa, xb, xm, xg, ne_eq, Int32.reduceToInt] at * <;> omega) | (simp only [xl, xt, xe, ne_eq, Int32.reduceToInt] at * <;> simp (disch := omega) only [Int32.toInt_add, Int32.toInt_sub, Int32.toInt_mul, Int32.toInt_neg, Nat.reducePow, Int32.reduceToInt, bmi] at * <;> omega) | grind) (by clear hQ9; first | with_reducible assumption | (simp only [xl, xt, xe, xa, xb, xm, xg, ne_eq, Int32.reduceToInt] at * <;> omega) | (simp only [xl, xt, xe, ne_eq, Int32.reduceToInt] at * <;> simp (disch := omega) only [Int32.toInt_add, Int32.toInt_sub, Int32.toInt_mul, Int32.toInt_neg, Nat.reducePow, Int32.reduceToInt, bmi] at * <;> omega) | grind) ?_
  have q_16 : R (upd mo_ys (p0).toNatClampNeg w_6) (-8 : Int32) (31 : Int32) := R_upd (by assumption) _ (by clear hQ9; first | with_reducible assumption | (simp only [xl, xt, xe, xa, xb, xm, xg, ne_eq, Int32.reduceToInt] at * <;> omega) | (simp only [xl, xt, xe, ne_eq, Int32.reduceToInt] at * <;> simp (disch := omega) only [Int32.toInt_add, Int32.toInt_sub, Int32.toInt_mul, Int32.toInt_neg, Nat.reducePow, Int32.reduceToInt, bmi] at * <;> omega) | grind)
  refine ok_gq (40 : Int32) (by decide) (by clear hQ9; first | with_reducible assumption | (simp only [xl, xt, xe, xa, xb, xm, xg, ne_eq, Int32.reduceToInt] at * <;> omega) | (simp only [xl, xt, xe, ne_eq, Int32.reduceToInt] at * <;> simp (disch := omega) only [Int32.toInt_add, Int32.toInt_sub, Int32.toInt_mul, Int32.toInt_neg, Nat.reducePow, Int32.reduceToInt, bmi] at * <;> omega) | grind) (by clear hQ9; first | with_reducible assumption | (simp only [xl, xt, xe, xa, xb, xm, xg, ne_eq, Int32.reduceToInt] at * <;> omega) | (simp only [xl, xt, xe, ne_eq, Int32.reduceToInt] at * <;> simp (disch := omega) only [Int32.toInt_add, Int32.toInt_sub, Int32.toInt_mul, Int32.toInt_neg, Nat.reducePow, Int32.reduceToInt, bmi] at * <;> omega) | grind) ?_
  have q_17 : R (upd (upd mo_ys (p0).toNatClampNeg w_6) (p1).toNatClampNeg v3_5) (-8 : Int32) (31 : Int32) := R_upd (by assumption) _ (by clear hQ9; first | with_reducible assumption | (simp only [xl, xt, xe, xa, xb, xm, xg, ne_eq, Int32.reduceToInt] at * <;> omega) | (simp only [xl, xt, xe, ne_eq, Int32.reduceToInt] at * <;> simp (disch := omega) only [Int32.toInt_add, Int32.toInt_sub, Int32.toInt_mul, Int32.toInt_neg, Nat.reducePow, Int32.reduceToInt, bmi] at * <;> omega) | grind)
  refine ok_gq (40 : Int32) (by decide) (by clear hQ9; first | with_reducible assumption | (simp only [xl, xt, xe, xa, xb, xm, xg, ne_eq, Int32.reduceToInt] at * <;> omega) | (simp only [xl, xt, xe, ne_eq, Int32.reduceToInt] at * <;> simp (disch := omega) only [Int32.toInt_add, Int32.toInt_sub, Int32.toInt_mul, Int32.toInt_neg, Nat.reducePow, Int32.reduceToInt, bmi] at * <;> omega) | grind) (by clear hQ9; first | with_reducible assumption | (simp only [xl, xt, xe, xa, xb, xm, xg, ne_eq, Int32.reduceToInt] at * <;> omega) | (simp only [xl, xt, xe, ne_eq, Int32.reduceToInt] at * <;> simp (disch := omega) only [Int32.toInt_add, Int32.toInt_sub, Int32.toInt_mul, Int32.toInt_neg, Nat.reducePow, Int32.reduceToInt, bmi] at * <;> omega) | grind) ?_
  refine ok_nl (fun v4_7 e_v4_7 => ?_)
  refine ok_gq (40 : Int32) (by decide) (by clear hQ9; first | with_reducible assumption | (simp only [xl, xt, xe, xa, xb, xm, xg, ne_eq, Int32.reduceToInt] at * <;> omega) | (simp only [xl, xt, xe, ne_eq, Int32.reduceToInt] at * <;> simp (disch := omega) only [Int32.toInt_add, Int32.toInt_sub, Int32.toInt_mul, Int32.toInt_neg, Nat.reducePow, Int32.reduceToInt, bmi] at * <;> omega) | grind) (by clear hQ9; first | with_reducible assumption | (simp only [xl, xt, xe, xa, xb, xm, xg, ne_eq, Int32.reduceToInt] at * <;> omega) | (simp only [xl, xt, xe, ne_eq, Int32.reduceToInt] at * <;> simp (disch := omega) only [Int32.toInt_add, Int32.toInt_sub, Int32.toInt_mul, Int32.toInt_neg, Nat.reducePow, Int32.reduceToInt, bmi] at * <;> omega) | grind) ?_
  refine ok_nl (fun w_8 e_w_8 => ?_)
  refine ok_gq (40 : Int32) (by decide) (by clear hQ9; first | with_reducible assumption | (simp only [xl, xt, xe, xa, xb, xm, xg, ne_eq, Int32.reduceToInt] at * <;> omega) | (simp only [xl, xt, xe, ne_eq, Int32.reduceToInt] at * <;> simp (disch := omega) only [Int32.toInt_add, Int32.toInt_sub, Int32.toInt_mul, Int32.toInt_neg, Nat.reducePow, Int32.reduceToInt, bmi] at * <;> omega) | grind) (by clear hQ9; first | with_reducible assumption | (simp only [xl, xt, xe, xa, xb, xm, xg, ne_eq, Int32.reduceToInt] at * <;> omega) | (simp only [xl, xt, xe, ne_eq, Int32.reduceToInt] at * <;> simp (disch := omega) only [Int32.toInt_add, Int32.toInt_sub, Int32.toInt_mul, Int32.toInt_neg, Nat.reducePow, Int32.reduceToInt, bmi] at * <;> omega) | grind) ?_
  refine ok_gq (40 : Int32) (by decide) (by clear hQ9; first | with_reducible assumption | (simp only [xl, xt, xe, xa, xb, xm, xg, ne_eq, Int32.reduceToInt] at * <;> omega) | (simp only [xl, xt, xe, ne_eq, Int32.reduceToInt] at * <;> simp (disch := omega) only [Int32.toInt_add, Int32.toInt_sub, Int32.toInt_mul, Int32.toInt_neg, Nat.reducePow, Int32.reduceToInt, bmi] at * <;> omega) | grind) (by clear hQ9; first | with_reducible assumption | (simp only [xl, xt, xe, xa, xb, xm, xg, ne_eq, Int32.reduceToInt] at * <;> omega) | (simp only [xl, xt, xe, ne_eq, Int32.reduceToInt] at * <;> simp (disch := omega) only [Int32.toInt_add, Int32.toInt_sub, Int32.toInt_mul, Int32.toInt_neg, Nat.reducePow, Int32.reduceToInt, bmi] at * <;> omega) | grind) ?_
  exact ok_some (hQ9 _ ⟨by assumption, by assumption, by assumption⟩)

set_option maxHeartbeats 4000000 in
set_option maxRecDepth 20000 in
theorem s_Mo_byteAt {mo_toldBytes : Int32} {mo_out : (Nat → Int32)} {p0 : Int32} (q_1 : ((0 : Int32) ≤ mo_toldBytes ∧ mo_toldBytes ≤ (2000 : Int32))) : ok (f_Mo_byteAt mo_toldBytes mo_out p0) (fun o => True) := by
  refine ok_Q (fun Q9 hQ9 => ?_)
  unfold f_Mo_byteAt
  refine ok_bd (s_Mo_isIn) (fun o9 h9 => ?_)
  obtain ⟨r_1, rfl⟩ : ∃ z9, z9 = o9 := ⟨_, rfl⟩
  obtain ⟨q_2, q_3⟩ := h9
  refine ok_jn (fun j9 => ∀ (s_2 : Int32), ((0 : Int32) ≤ s_2 ∧ s_2 ≤ (1 : Int32)) → (s_2 = 0 → (0 : Int32) ≤ p0 ∧ p0 < 2000) → ok (j9 s_2) Q9) ?_ (fun j20 h_j20 => ?_)
  · intro s_2 q_4 q_5
    refine ok_if (fun q_6 => ?_) (fun q_6 => ?_)
    · skip
      refine ok_gq (2000 : Int32) (by decide) (by clear hQ9; first | with_reducible assumption | (simp only [xl, xt, xe, xa, xb, xm, xg, ne_eq, Int32.reduceToInt] at * <;> omega) | (simp only [xl, xt, xe, ne_eq, Int32.reduceToInt] at * <;> simp (disch := omega) only [Int32.toInt_add, Int32.toInt_sub, Int32.toInt_mul, Int32.toInt_neg, Nat.reducePow, Int32.reduceToInt, bmi] at * <;> omega) | grind) (by clear hQ9; first | with_reducible assumption | (simp only [xl, xt, xe, xa, xb, xm, xg, ne_eq, Int32.reduceToInt] at * <;> omega) | (simp only [xl, xt, xe, ne_eq, Int32.reduceToInt] at * <;> simp (disch := omega) only [Int32.toInt_add, Int32.toInt_sub, Int32.toInt_mul, Int32.toInt_neg, Nat.reducePow, Int32.reduceToInt, bmi] at * <;> omega) | grind) ?_
      exact ok_some (hQ9 _ trivial)
    · skip
      exact ok_some (hQ9 _ trivial)
  refine ok_if (fun q_7 => ?_) (fun q_7 => ?_)
  · skip
    exact h_j20 _ (by clear hQ9 h_j20; first | with_reducible assumption | (simp only [xl, xt, xe, xa, xb, xm, xg, ne_eq, Int32.reduceToInt] at * <;> omega) | (simp only [xl, xt, xe, ne_eq, Int32.reduceToInt] at * <;> simp (disch := omega) only [Int32.toInt_add, Int32.toInt_sub, Int32.toInt_mul, Int32.toInt_neg, Nat.reducePow, Int32.reduceToInt, bmi] at * <;> omega) | grind) (by clear hQ9 h_j20; first | with_reducible assumption | (simp only [xl, xt, xe, xa, xb, xm, xg, ne_eq, Int32.reduceToInt] at * <;> omega) | (simp only [xl, xt, xe, ne_eq, Int32.reduceToInt] at * <;> simp (disch := omega) only [Int32.toInt_add, Int32.toInt_sub, Int32.toInt_mul, Int32.toInt_neg, Nat.reducePow, Int32.reduceToInt, bmi] at * <;> omega) | grind)
  · skip
    exact h_j20 _ (by clear hQ9 h_j20; first | with_reducible assumption | (simp only [xl, xt, xe, xa, xb, xm, xg, ne_eq, Int32.reduceToInt] at * <;> omega) | (simp only [xl, xt, xe, ne_eq, Int32.reduceToInt] at * <;> simp (disch := omega) only [Int32.toInt_add, Int32.toInt_sub, Int32.toInt_mul, Int32.toInt_neg, Nat.reducePow, Int32.reduceToInt, bmi] at * <;> omega) | grind) (by clear hQ9 h_j20; first | with_reducible assumption | (simp only [xl, xt, xe, xa, xb, xm, xg, ne_eq, Int32.reduceToInt] at * <;> omega) | (simp only [xl, xt, xe, ne_eq, Int32.reduceToInt] at * <;> simp (disch := omega) only [Int32.toInt_add, Int32.toInt_sub, Int32.toInt_mul, Int32.toInt_neg, Nat.reducePow, Int32.reduceToInt, bmi] at * <;> omega) | grind)

set_option maxHeartbeats 4000000 in
set_option maxRecDepth 20000 in
theorem s_Mo_feed {mo_came : Int32} {mo_in : (Nat → Int32)} {p0 : Int32} (q_1 : ((0 : Int32) ≤ mo_came ∧ mo_came ≤ (2000 : Int32))) : ok (f_Mo_feed mo_came mo_in p0) (fun o => ((0 : Int32) ≤ o.2.2.1 ∧ o.2.2.1 ≤ (2000 : Int32))) := by
  refine ok_Q (fun Q9 hQ9 => ?_)
  unfold f_Mo_feed
  refine ok_bd (s_Mo_isIn) (fun o9 h9 => ?_)
  obtain ⟨r_1, rfl⟩ : ∃ z9, z9 = o9 := ⟨_, rfl⟩
  obtain ⟨q_2, q_3⟩ := h9
  refine ok_jn (fun j9 => ∀ (s_2 : Int32), ((0 : Int32) ≤ s_2 ∧ s_2 ≤ (2 : Int32)) → (s_2 = 0 → ¬ mo_came = 2000) → ok (j9 s_2) Q9) ?_ (fun j31 h_j31 => ?_)
  · intro s_2 q_4 q_5
    refine ok_if (fun q_6 => ?_) (fun q_6 => ?_)
    · skip
      refine ok_gq (2000 : Int32) (by decide) (by clear hQ9; first | with_reducible assumption | (simp only [xl, xt, xe, xa, xb, xm, xg, ne_eq, Int32.reduceToInt] at * <;> omega) | (simp only [xl, xt, xe, ne_eq, Int32.reduceToInt] at * <;> simp (disch := omega) only [Int32.toInt_add, Int32.toInt_sub, Int32.toInt_mul, Int32.toInt_neg, Nat.reducePow, Int32.reduceToInt, bmi] at * <;> omega) | grind) (by clear hQ9; first | with_reducible assumption | (simp only [xl, xt, xe, xa, xb, xm, xg, ne_eq, Int32.reduceToInt] at * <;> omega) | (simp only [xl, xt, xe, ne_eq, Int32.reduceToInt] at * <;> simp (disch := omega) only [Int32.toInt_add, Int32.toInt_sub, Int32.toInt_mul, Int32.toInt_neg, Nat.reducePow, Int32.reduceToInt, bmi] at * <;> omega) | grind) ?_
      refine ok_nl (fun came_3 e_came_3 => ?_)
      have q_7 : ((0 : Int32) ≤ came_3 ∧ came_3 ≤ (2000 : Int32)) := by clear hQ9; first | with_reducible assumption | (simp only [xl, xt, xe, xa, xb, xm, xg, ne_eq, Int32.reduceToInt] at * <;> omega) | (simp only [xl, xt, xe, ne_eq, Int32.reduceToInt] at * <;> simp (disch := omega) only [Int32.toInt_add, Int32.toInt_sub, Int32.toInt_mul, Int32.toInt_neg, Nat.reducePow, Int32.reduceToInt, bmi] at * <;> omega) | grind
      exact ok_some (hQ9 _ (by clear hQ9; first | with_reducible assumption | (simp only [xl, xt, xe, xa, xb, xm, xg, ne_eq, Int32.reduceToInt] at * <;> omega) | (simp only [xl, xt, xe, ne_eq, Int32.reduceToInt] at * <;> simp (disch := omega) only [Int32.toInt_add, Int32.toInt_sub, Int32.toInt_mul, Int32.toInt_neg, Nat.reducePow, Int32.reduceToInt, bmi] at * <;> omega) | grind))
    · skip
      exact ok_some (hQ9 _ (by clear hQ9; first | with_reducible assumption | (simp only [xl, xt, xe, xa, xb, xm, xg, ne_eq, Int32.reduceToInt] at * <;> omega) | (simp only [xl, xt, xe, ne_eq, Int32.reduceToInt] at * <;> simp (disch := omega) only [Int32.toInt_add, Int32.toInt_sub, Int32.toInt_mul, Int32.toInt_neg, Nat.reducePow, Int32.reduceToInt, bmi] at * <;> omega) | grind))
  refine ok_if (fun q_8 => ?_) (fun q_8 => ?_)
  · skip
    exact h_j31 _ (by clear hQ9 h_j31; first | with_reducible assumption | (simp only [xl, xt, xe, xa, xb, xm, xg, ne_eq, Int32.reduceToInt] at * <;> omega) | (simp only [xl, xt, xe, ne_eq, Int32.reduceToInt] at * <;> simp (disch := omega) only [Int32.toInt_add, Int32.toInt_sub, Int32.toInt_mul, Int32.toInt_neg, Nat.reducePow, Int32.reduceToInt, bmi] at * <;> omega) | grind) (by clear hQ9 h_j31; first | with_reducible assumption | (simp only [xl, xt, xe, xa, xb, xm, xg, ne_eq, Int32.reduceToInt] at * <;> omega) | (simp only [xl, xt, xe, ne_eq, Int32.reduceToInt] at * <;> simp (disch := omega) only [Int32.toInt_add, Int32.toInt_sub, Int32.toInt_mul, Int32.toInt_neg, Nat.reducePow, Int32.reduceToInt, bmi] at * <;> omega) | grind)
  · skip
    refine ok_if (fun q_9 => ?_) (fun q_9 => ?_)
    · skip
      exact h_j31 _ (by clear hQ9 h_j31; first | with_reducible assumption | (simp only [xl, xt, xe, xa, xb, xm, xg, ne_eq, Int32.reduceToInt] at * <;> omega) | (simp only [xl, xt, xe, ne_eq, Int32.reduceToInt] at * <;> simp (disch := omega) only [Int32.toInt_add, Int32.toInt_sub, Int32.toInt_mul, Int32.toInt_neg, Nat.reducePow, Int32.reduceToInt, bmi] at * <;> omega) | grind) (by clear hQ9 h_j31; first | with_reducible assumption | (simp only [xl, xt, xe, xa, xb, xm, xg, ne_eq, Int32.reduceToInt] at * <;> omega) | (simp only [xl, xt, xe, ne_eq, Int32.reduceToInt] at * <;> simp (disch := omega) only [Int32.toInt_add, Int32.toInt_sub, Int32.toInt_mul, Int32.toInt_neg, Nat.reducePow, Int32.reduceToInt, bmi] at * <;> omega) | grind)
    · skip
      exact h_j31 _ (by clear hQ9 h_j31; first | with_reducible assumption | (simp only [xl, xt, xe, xa, xb, xm, xg, ne_eq, Int32.reduceToInt] at * <;> omega) | (simp only [xl, xt, xe, ne_eq, Int32.reduceToInt] at * <;> simp (disch := omega) only [Int32.toInt_add, Int32.toInt_sub, Int32.toInt_mul, Int32.toInt_neg, Nat.reducePow, Int32.reduceToInt, bmi] at * <;> omega) | grind) (by clear hQ9 h_j31; first | with_reducible assumption | (simp only [xl, xt, xe, xa, xb, xm, xg, ne_eq, Int32.reduceToInt] at * <;> omega) | (simp only [xl, xt, xe, ne_eq, Int32.reduceToInt] at * <;> simp (disch := omega) only [Int32.toInt_add, Int32.toInt_sub, Int32.toInt_mul, Int32.toInt_neg, Nat.reducePow, Int32.reduceToInt, bmi] at * <;> omega) | grind)

set_option maxHeartbeats 4000000 in
set_option maxRecDepth 20000 in
theorem s_Mo_pass {mo_toldBytes : Int32} {mo_came : Int32} {mo_in : (Nat → Int32)} {mo_out : (Nat → Int32)} (q_1 : ((0 : Int32) ≤ mo_toldBytes ∧ mo_toldBytes ≤ (2000 : Int32))) (q_2 : ((0 : Int32) ≤ mo_came ∧ mo_came ≤ (2000 : Int32))) : ok (f_Mo_pass mo_toldBytes mo_came mo_in mo_out) (fun o => ((0 : Int32) ≤ o.2.2.1 ∧ o.2.2.1 ≤ (2000 : Int32))) := by
  refine ok_Q (fun Q9 hQ9 => ?_)
  unfold f_Mo_pass
  refine ok_jn (fun j9 => ∀ (s_1 : Int32), ((0 : Int32) ≤ s_1 ∧ s_1 ≤ (1 : Int32)) → (s_1 = 0 → mo_came + mo_toldBytes ≤ 2000) → ok (j9 s_1) Q9) ?_ (fun j21 h_j21 => ?_)
  · intro s_1 q_3 q_4
    refine ok_if (fun q_5 => ?_) (fun q_5 => ?_)
    · skip
      refine ok_ex (fun k9 => lp (f_Mo_pass_L35 mo_toldBytes mo_out mo_came k9) FU ((0 : Int32), mo_in)) (fun j9 => ∀ (mo_in_4 : (Nat → Int32)), ok (j9 mo_in_4) Q9) ?_ (fun k66 h_k66 => ?_)
      · intro mo_in_4
        refine ok_nl (fun came_7 e_came_7 => ?_)
        have q_6 : ((0 : Int32) ≤ came_7 ∧ came_7 ≤ (2000 : Int32)) := by clear hQ9; first | with_reducible assumption | (simp only [xl, xt, xe, xa, xb, xm, xg, ne_eq, Int32.reduceToInt] at * <;> omega) | (simp only [xl, xt, xe, ne_eq, Int32.reduceToInt] at * <;> simp (disch := omega) only [Int32.toInt_add, Int32.toInt_sub, Int32.toInt_mul, Int32.toInt_neg, Nat.reducePow, Int32.reduceToInt, bmi] at * <;> omega) | grind
        exact ok_some (hQ9 _ (by clear hQ9; first | with_reducible assumption | (simp only [xl, xt, xe, xa, xb, xm, xg, ne_eq, Int32.reduceToInt] at * <;> omega) | (simp only [xl, xt, xe, ne_eq, Int32.reduceToInt] at * <;> simp (disch := omega) only [Int32.toInt_add, Int32.toInt_sub, Int32.toInt_mul, Int32.toInt_neg, Nat.reducePow, Int32.reduceToInt, bmi] at * <;> omega) | grind))
      refine ok_lp (fun s9 => ((0 : Int32) ≤ s9.1 ∧ s9.1 ≤ (2000 : Int32))) (fun s9 => 2000 - s9.1) (by clear hQ9 h_k66; first | with_reducible assumption | (simp only [xl, xt, xe, xa, xb, xm, xg, ne_eq, Int32.reduceToInt] at * <;> omega) | (simp only [xl, xt, xe, ne_eq, Int32.reduceToInt] at * <;> simp (disch := omega) only [Int32.toInt_add, Int32.toInt_sub, Int32.toInt_mul, Int32.toInt_neg, Nat.reducePow, Int32.reduceToInt, bmi] at * <;> omega) | grind) ?_ ?_
      · intro s9 hs9; obtain ⟨v1_2, mo_in_3⟩ := s9; try dsimp only at hs9; have q_7 := hs9; exact ⟨by clear hQ9 h_k66; (try dsimp only); first | with_reducible assumption | (simp only [xl, xt, xe, xa, xb, xm, xg, ne_eq, Int32.reduceToInt] at * <;> omega) | (simp only [xl, xt, xe, ne_eq, Int32.reduceToInt] at * <;> simp (disch := omega) only [Int32.toInt_add, Int32.toInt_sub, Int32.toInt_mul, Int32.toInt_neg, Nat.reducePow, Int32.reduceToInt, bmi] at * <;> omega) | grind, by clear hQ9 h_k66; (try dsimp only); first | with_reducible assumption | (simp only [xl, xt, xe, xa, xb, xm, xg, ne_eq, Int32.reduceToInt] at * <;> omega) | (simp only [xl, xt, xe, ne_eq, Int32.reduceToInt] at * <;> simp (disch := omega) only [Int32.toInt_add, Int32.toInt_sub, Int32.toInt_mul, Int32.toInt_neg, Nat.reducePow, Int32.reduceToInt, bmi] at * <;> omega) | grind⟩
      intro self35 s9 hs9 ih_self35
      obtain ⟨v1_2, mo_in_3⟩ := s9; try dsimp only at hs9; have q_7 := hs9
      unfold f_Mo_pass_L35
      try dsimp only
      try dsimp only at ih_self35
      refine ok_if (fun q_8 => ?_) (fun q_8 => ?_)
      · skip
        exact h_k66 _
      · skip
        refine ok_gq (2000 : Int32) (by decide) (by clear hQ9 h_k66 ih_self35; first | with_reducible assumption | (simp only [xl, xt, xe, xa, xb, xm, xg, ne_eq, Int32.reduceToInt] at * <;> omega) | (simp only [xl, xt, xe, ne_eq, Int32.reduceToInt] at * <;> simp (disch := omega) only [Int32.toInt_add, Int32.toInt_sub, Int32.toInt_mul, Int32.toInt_neg, Nat.reducePow, Int32.reduceToInt, bmi] at * <;> omega) | grind) (by clear hQ9 h_k66 ih_self35; first | with_reducible assumption | (simp only [xl, xt, xe, xa, xb, xm, xg, ne_eq, Int32.reduceToInt] at * <;> omega) | (simp only [xl, xt, xe, ne_eq, Int32.reduceToInt] at * <;> simp (disch := omega) only [Int32.toInt_add, Int32.toInt_sub, Int32.toInt_mul, Int32.toInt_neg, Nat.reducePow, Int32.reduceToInt, bmi] at * <;> omega) | grind) ?_
        refine ok_nl (fun w_5 e_w_5 => ?_)
        refine ok_gq (2000 : Int32) (by decide) (by clear hQ9 h_k66 ih_self35; first | with_reducible assumption | (simp only [xl, xt, xe, xa, xb, xm, xg, ne_eq, Int32.reduceToInt] at * <;> omega) | (simp only [xl, xt, xe, ne_eq, Int32.reduceToInt] at * <;> simp (disch := omega) only [Int32.toInt_add, Int32.toInt_sub, Int32.toInt_mul, Int32.toInt_neg, Nat.reducePow, Int32.reduceToInt, bmi] at * <;> omega) | grind) (by clear hQ9 h_k66 ih_self35; first | with_reducible assumption | (simp only [xl, xt, xe, xa, xb, xm, xg, ne_eq, Int32.reduceToInt] at * <;> omega) | (simp only [xl, xt, xe, ne_eq, Int32.reduceToInt] at * <;> simp (disch := omega) only [Int32.toInt_add, Int32.toInt_sub, Int32.toInt_mul, Int32.toInt_neg, Nat.reducePow, Int32.reduceToInt, bmi] at * <;> omega) | grind) ?_
        refine ok_nl (fun v1_6 e_v1_6 => ?_)
        exact ih_self35 (v1_6, (upd mo_in_3 ((mo_came + v1_2)).toNatClampNeg w_5)) (by clear hQ9 h_k66 ih_self35; first | with_reducible assumption | (simp only [xl, xt, xe, xa, xb, xm, xg, ne_eq, Int32.reduceToInt] at * <;> omega) | (simp only [xl, xt, xe, ne_eq, Int32.reduceToInt] at * <;> simp (disch := omega) only [Int32.toInt_add, Int32.toInt_sub, Int32.toInt_mul, Int32.toInt_neg, Nat.reducePow, Int32.reduceToInt, bmi] at * <;> omega) | grind) (by clear hQ9 h_k66 ih_self35; (try dsimp only); first | with_reducible assumption | (simp only [xl, xt, xe, xa, xb, xm, xg, ne_eq, Int32.reduceToInt] at * <;> omega) | (simp only [xl, xt, xe, ne_eq, Int32.reduceToInt] at * <;> simp (disch := omega) only [Int32.toInt_add, Int32.toInt_sub, Int32.toInt_mul, Int32.toInt_neg, Nat.reducePow, Int32.reduceToInt, bmi] at * <;> omega) | grind)
    · skip
      exact ok_some (hQ9 _ (by clear hQ9; first | with_reducible assumption | (simp only [xl, xt, xe, xa, xb, xm, xg, ne_eq, Int32.reduceToInt] at * <;> omega) | (simp only [xl, xt, xe, ne_eq, Int32.reduceToInt] at * <;> simp (disch := omega) only [Int32.toInt_add, Int32.toInt_sub, Int32.toInt_mul, Int32.toInt_neg, Nat.reducePow, Int32.reduceToInt, bmi] at * <;> omega) | grind))
  refine ok_if (fun q_9 => ?_) (fun q_9 => ?_)
  · skip
    exact h_j21 _ (by clear hQ9 h_j21; first | with_reducible assumption | (simp only [xl, xt, xe, xa, xb, xm, xg, ne_eq, Int32.reduceToInt] at * <;> omega) | (simp only [xl, xt, xe, ne_eq, Int32.reduceToInt] at * <;> simp (disch := omega) only [Int32.toInt_add, Int32.toInt_sub, Int32.toInt_mul, Int32.toInt_neg, Nat.reducePow, Int32.reduceToInt, bmi] at * <;> omega) | grind) (by clear hQ9 h_j21; first | with_reducible assumption | (simp only [xl, xt, xe, xa, xb, xm, xg, ne_eq, Int32.reduceToInt] at * <;> omega) | (simp only [xl, xt, xe, ne_eq, Int32.reduceToInt] at * <;> simp (disch := omega) only [Int32.toInt_add, Int32.toInt_sub, Int32.toInt_mul, Int32.toInt_neg, Nat.reducePow, Int32.reduceToInt, bmi] at * <;> omega) | grind)
  · skip
    exact h_j21 _ (by clear hQ9 h_j21; first | with_reducible assumption | (simp only [xl, xt, xe, xa, xb, xm, xg, ne_eq, Int32.reduceToInt] at * <;> omega) | (simp only [xl, xt, xe, ne_eq, Int32.reduceToInt] at * <;> simp (disch := omega) only [Int32.toInt_add, Int32.toInt_sub, Int32.toInt_mul, Int32.toInt_neg, Nat.reducePow, Int32.reduceToInt, bmi] at * <;> omega) | grind) (by clear hQ9 h_j21; first | with_reducible assumption | (simp only [xl, xt, xe, xa, xb, xm, xg, ne_eq, Int32.reduceToInt] at * <;> omega) | (simp only [xl, xt, xe, ne_eq, Int32.reduceToInt] at * <;> simp (disch := omega) only [Int32.toInt_add, Int32.toInt_sub, Int32.toInt_mul, Int32.toInt_neg, Nat.reducePow, Int32.reduceToInt, bmi] at * <;> omega) | grind)

set_option maxHeartbeats 4000000 in
set_option maxRecDepth 20000 in
theorem s_Mo_place {mo_instances : Int32} {mo_differs : (Nat → Int64)} {mo_ways : (Nat → Int32)} {mo_ys : (Nat → Int32)} {mo_high : (Nat → Int32)} {mo_symbolOf : (Nat → Int32)} {mo_xs : (Nat → Int32)} {mo_wide : (Nat → Int32)} {p0 : Int32} {p1 : Int32} (q_1 : ((0 : Int32) ≤ mo_instances ∧ mo_instances ≤ (40 : Int32))) (q_2 : R mo_ways (0 : Int32) (7 : Int32)) (q_3 : R mo_ys (-8 : Int32) (31 : Int32)) (q_4 : R mo_high (0 : Int32) (8 : Int32)) (q_5 : R mo_symbolOf (0 : Int32) (15 : Int32)) (q_6 : R mo_xs (-8 : Int32) (31 : Int32)) (q_7 : R mo_wide (0 : Int32) (8 : Int32)) : ok (f_Mo_place mo_instances mo_differs mo_ways mo_ys mo_high mo_symbolOf mo_xs mo_wide p0 p1) (fun o => True) := by
  refine ok_Q (fun Q9 hQ9 => ?_)
  unfold f_Mo_place
  refine ok_bd (s_Mo_isInstance (by clear hQ9; first | with_reducible assumption | (simp only [xl, xt, xe, xa, xb, xm, xg, ne_eq, Int32.reduceToInt] at * <;> omega) | (simp only [xl, xt, xe, ne_eq, Int32.reduceToInt] at * <;> simp (disch := omega) only [Int32.toInt_add, Int32.toInt_sub, Int32.toInt_mul, Int32.toInt_neg, Nat.reducePow, Int32.reduceToInt, bmi] at * <;> omega) | grind)) (fun o9 h9 => ?_)
  obtain ⟨r_1, rfl⟩ : ∃ z9, z9 = o9 := ⟨_, rfl⟩
  obtain ⟨q_8, q_9⟩ := h9
  refine ok_jn (fun j9 => ∀ (s_2 : Int32), ((0 : Int32) ≤ s_2 ∧ s_2 ≤ (1 : Int32)) → (s_2 = 0 → (0 : Int32) ≤ p0 ∧ p0 ≤ 39) → ok (j9 s_2) Q9) ?_ (fun j14 h_j14 => ?_)
  · intro s_2 q_10 q_11
    refine ok_if (fun q_12 => ?_) (fun q_12 => ?_)
    · skip
      refine ok_if (fun q_13 => ?_) (fun q_13 => ?_)
      · skip
        refine ok_gq (40 : Int32) (by decide) (by clear hQ9; first | with_reducible assumption | (simp only [xl, xt, xe, xa, xb, xm, xg, ne_eq, Int32.reduceToInt] at * <;> omega) | (simp only [xl, xt, xe, ne_eq, Int32.reduceToInt] at * <;> simp (disch := omega) only [Int32.toInt_add, Int32.toInt_sub, Int32.toInt_mul, Int32.toInt_neg, Nat.reducePow, Int32.reduceToInt, bmi] at * <;> omega) | grind) (by clear hQ9; first | with_reducible assumption | (simp only [xl, xt, xe, xa, xb, xm, xg, ne_eq, Int32.reduceToInt] at * <;> omega) | (simp only [xl, xt, xe, ne_eq, Int32.reduceToInt] at * <;> simp (disch := omega) only [Int32.toInt_add, Int32.toInt_sub, Int32.toInt_mul, Int32.toInt_neg, Nat.reducePow, Int32.reduceToInt, bmi] at * <;> omega) | grind) ?_
        have q_14 := (by assumption : R mo_symbolOf (0 : Int32) (15 : Int32)) (p0).toNatClampNeg
        exact ok_some (hQ9 _ trivial)
      · skip
        refine ok_if (fun q_15 => ?_) (fun q_15 => ?_)
        · skip
          refine ok_gq (40 : Int32) (by decide) (by clear hQ9; first | with_reducible assumption | (simp only [xl, xt, xe, xa, xb, xm, xg, ne_eq, Int32.reduceToInt] at * <;> omega) | (simp only [xl, xt, xe, ne_eq, Int32.reduceToInt] at * <;> simp (disch := omega) only [Int32.toInt_add, Int32.toInt_sub, Int32.toInt_mul, Int32.toInt_neg, Nat.reducePow, Int32.reduceToInt, bmi] at * <;> omega) | grind) (by clear hQ9; first | with_reducible assumption | (simp only [xl, xt, xe, xa, xb, xm, xg, ne_eq, Int32.reduceToInt] at * <;> omega) | (simp only [xl, xt, xe, ne_eq, Int32.reduceToInt] at * <;> simp (disch := omega) only [Int32.toInt_add, Int32.toInt_sub, Int32.toInt_mul, Int32.toInt_neg, Nat.reducePow, Int32.reduceToInt, bmi] at * <;> omega) | grind) ?_
          have q_16 := (by assumption : R mo_xs (-8 : Int32) (31 : Int32)) (p0).toNatClampNeg
          exact ok_some (hQ9 _ trivial)
        · skip
          refine ok_if (fun q_17 => ?_) (fun q_17 => ?_)
          · skip
            refine ok_gq (40 : Int32) (by decide) (by clear hQ9; first | with_reducible assumption | (simp only [xl, xt, xe, xa, xb, xm, xg, ne_eq, Int32.reduceToInt] at * <;> omega) | (simp only [xl, xt, xe, ne_eq, Int32.reduceToInt] at * <;> simp (disch := omega) only [Int32.toInt_add, Int32.toInt_sub, Int32.toInt_mul, Int32.toInt_neg, Nat.reducePow, Int32.reduceToInt, bmi] at * <;> omega) | grind) (by clear hQ9; first | with_reducible assumption | (simp only [xl, xt, xe, xa, xb, xm, xg, ne_eq, Int32.reduceToInt] at * <;> omega) | (simp only [xl, xt, xe, ne_eq, Int32.reduceToInt] at * <;> simp (disch := omega) only [Int32.toInt_add, Int32.toInt_sub, Int32.toInt_mul, Int32.toInt_neg, Nat.reducePow, Int32.reduceToInt, bmi] at * <;> omega) | grind) ?_
            have q_18 := (by assumption : R mo_ys (-8 : Int32) (31 : Int32)) (p0).toNatClampNeg
            exact ok_some (hQ9 _ trivial)
          · skip
            refine ok_if (fun q_19 => ?_) (fun q_19 => ?_)
            · skip
              refine ok_bd (s_Mo_sOf (by assumption) (by assumption) (by assumption) (by assumption) (by assumption) (by assumption) (by clear hQ9; first | with_reducible assumption | (simp only [xl, xt, xe, xa, xb, xm, xg, ne_eq, Int32.reduceToInt] at * <;> omega) | (simp only [xl, xt, xe, ne_eq, Int32.reduceToInt] at * <;> simp (disch := omega) only [Int32.toInt_add, Int32.toInt_sub, Int32.toInt_mul, Int32.toInt_neg, Nat.reducePow, Int32.reduceToInt, bmi] at * <;> omega) | grind)) (fun o9 h9 => ?_)
              obtain ⟨r_9, rfl⟩ : ∃ z9, z9 = o9 := ⟨_, rfl⟩
              have q_20 := h9
              clear h9
              exact ok_some (hQ9 _ trivial)
            · skip
              refine ok_if (fun q_21 => ?_) (fun q_21 => ?_)
              · skip
                refine ok_bd (s_Mo_tOf (by assumption) (by assumption) (by assumption) (by assumption) (by assumption) (by assumption) (by clear hQ9; first | with_reducible assumption | (simp only [xl, xt, xe, xa, xb, xm, xg, ne_eq, Int32.reduceToInt] at * <;> omega) | (simp only [xl, xt, xe, ne_eq, Int32.reduceToInt] at * <;> simp (disch := omega) only [Int32.toInt_add, Int32.toInt_sub, Int32.toInt_mul, Int32.toInt_neg, Nat.reducePow, Int32.reduceToInt, bmi] at * <;> omega) | grind)) (fun o9 h9 => ?_)
                obtain ⟨r_8, rfl⟩ : ∃ z9, z9 = o9 := ⟨_, rfl⟩
                have q_22 := h9
                clear h9
                exact ok_some (hQ9 _ trivial)
              · skip
                refine ok_if (fun q_23 => ?_) (fun q_23 => ?_)
                · skip
                  refine ok_bd (s_Mo_stripOf (by assumption) (by assumption) (by assumption) (by assumption) (by assumption) (by assumption) (by clear hQ9; first | with_reducible assumption | (simp only [xl, xt, xe, xa, xb, xm, xg, ne_eq, Int32.reduceToInt] at * <;> omega) | (simp only [xl, xt, xe, ne_eq, Int32.reduceToInt] at * <;> simp (disch := omega) only [Int32.toInt_add, Int32.toInt_sub, Int32.toInt_mul, Int32.toInt_neg, Nat.reducePow, Int32.reduceToInt, bmi] at * <;> omega) | grind)) (fun o9 h9 => ?_)
                  obtain ⟨r_7, rfl⟩ : ∃ z9, z9 = o9 := ⟨_, rfl⟩
                  have q_24 := h9
                  clear h9
                  exact ok_some (hQ9 _ trivial)
                · skip
                  refine ok_if (fun q_25 => ?_) (fun q_25 => ?_)
                  · skip
                    refine ok_lp (fun s9 => ((0 : Int32) ≤ s9.1 ∧ s9.1 ≤ (64 : Int32))) (fun s9 => 64 - s9.1) (by clear hQ9; first | with_reducible assumption | (simp only [xl, xt, xe, xa, xb, xm, xg, ne_eq, Int32.reduceToInt] at * <;> omega) | (simp only [xl, xt, xe, ne_eq, Int32.reduceToInt] at * <;> simp (disch := omega) only [Int32.toInt_add, Int32.toInt_sub, Int32.toInt_mul, Int32.toInt_neg, Nat.reducePow, Int32.reduceToInt, bmi] at * <;> omega) | grind) ?_ ?_
                    · intro s9 hs9; obtain ⟨v4_3, v3_4⟩ := s9; try dsimp only at hs9; have q_26 := hs9; exact ⟨by clear hQ9; (try dsimp only); first | with_reducible assumption | (simp only [xl, xt, xe, xa, xb, xm, xg, ne_eq, Int32.reduceToInt] at * <;> omega) | (simp only [xl, xt, xe, ne_eq, Int32.reduceToInt] at * <;> simp (disch := omega) only [Int32.toInt_add, Int32.toInt_sub, Int32.toInt_mul, Int32.toInt_neg, Nat.reducePow, Int32.reduceToInt, bmi] at * <;> omega) | grind, by clear hQ9; (try dsimp only); first | with_reducible assumption | (simp only [xl, xt, xe, xa, xb, xm, xg, ne_eq, Int32.reduceToInt] at * <;> omega) | (simp only [xl, xt, xe, ne_eq, Int32.reduceToInt] at * <;> simp (disch := omega) only [Int32.toInt_add, Int32.toInt_sub, Int32.toInt_mul, Int32.toInt_neg, Nat.reducePow, Int32.reduceToInt, bmi] at * <;> omega) | grind⟩
                    intro self107 s9 hs9 ih_self107
                    obtain ⟨v4_3, v3_4⟩ := s9; try dsimp only at hs9; have q_26 := hs9
                    unfold f_Mo_place_L107
                    try dsimp only
                    try dsimp only at ih_self107
                    refine ok_if (fun q_27 => ?_) (fun q_27 => ?_)
                    · skip
                      exact ok_some (hQ9 _ trivial)
                    · skip
                      refine ok_gq (40 : Int32) (by decide) (by clear hQ9 ih_self107; first | with_reducible assumption | (simp only [xl, xt, xe, xa, xb, xm, xg, ne_eq, Int32.reduceToInt] at * <;> omega) | (simp only [xl, xt, xe, ne_eq, Int32.reduceToInt] at * <;> simp (disch := omega) only [Int32.toInt_add, Int32.toInt_sub, Int32.toInt_mul, Int32.toInt_neg, Nat.reducePow, Int32.reduceToInt, bmi] at * <;> omega) | grind) (by clear hQ9 ih_self107; first | with_reducible assumption | (simp only [xl, xt, xe, xa, xb, xm, xg, ne_eq, Int32.reduceToInt] at * <;> omega) | (simp only [xl, xt, xe, ne_eq, Int32.reduceToInt] at * <;> simp (disch := omega) only [Int32.toInt_add, Int32.toInt_sub, Int32.toInt_mul, Int32.toInt_neg, Nat.reducePow, Int32.reduceToInt, bmi] at * <;> omega) | grind) ?_
                      refine ok_jn (fun j9 => ∀ (s_5 : Int32), ok (j9 s_5) Q9) ?_ (fun j137 h_j137 => ?_)
                      · intro s_5
                        refine ok_nl (fun v4_6 e_v4_6 => ?_)
                        exact ih_self107 (v4_6, s_5) (by clear hQ9 ih_self107; first | with_reducible assumption | (simp only [xl, xt, xe, xa, xb, xm, xg, ne_eq, Int32.reduceToInt] at * <;> omega) | (simp only [xl, xt, xe, ne_eq, Int32.reduceToInt] at * <;> simp (disch := omega) only [Int32.toInt_add, Int32.toInt_sub, Int32.toInt_mul, Int32.toInt_neg, Nat.reducePow, Int32.reduceToInt, bmi] at * <;> omega) | grind) (by clear hQ9 ih_self107; (try dsimp only); first | with_reducible assumption | (simp only [xl, xt, xe, xa, xb, xm, xg, ne_eq, Int32.reduceToInt] at * <;> omega) | (simp only [xl, xt, xe, ne_eq, Int32.reduceToInt] at * <;> simp (disch := omega) only [Int32.toInt_add, Int32.toInt_sub, Int32.toInt_mul, Int32.toInt_neg, Nat.reducePow, Int32.reduceToInt, bmi] at * <;> omega) | grind)
                      refine ok_if (fun q_28 => ?_) (fun q_28 => ?_)
                      · skip
                        exact h_j137 _
                      · skip
                        exact h_j137 _
                  · skip
                    exact ok_some (hQ9 _ trivial)
    · skip
      exact ok_some (hQ9 _ trivial)
  refine ok_if (fun q_29 => ?_) (fun q_29 => ?_)
  · skip
    exact h_j14 _ (by clear hQ9 h_j14; first | with_reducible assumption | (simp only [xl, xt, xe, xa, xb, xm, xg, ne_eq, Int32.reduceToInt] at * <;> omega) | (simp only [xl, xt, xe, ne_eq, Int32.reduceToInt] at * <;> simp (disch := omega) only [Int32.toInt_add, Int32.toInt_sub, Int32.toInt_mul, Int32.toInt_neg, Nat.reducePow, Int32.reduceToInt, bmi] at * <;> omega) | grind) (by clear hQ9 h_j14; first | with_reducible assumption | (simp only [xl, xt, xe, xa, xb, xm, xg, ne_eq, Int32.reduceToInt] at * <;> omega) | (simp only [xl, xt, xe, ne_eq, Int32.reduceToInt] at * <;> simp (disch := omega) only [Int32.toInt_add, Int32.toInt_sub, Int32.toInt_mul, Int32.toInt_neg, Nat.reducePow, Int32.reduceToInt, bmi] at * <;> omega) | grind)
  · skip
    exact h_j14 _ (by clear hQ9 h_j14; first | with_reducible assumption | (simp only [xl, xt, xe, xa, xb, xm, xg, ne_eq, Int32.reduceToInt] at * <;> omega) | (simp only [xl, xt, xe, ne_eq, Int32.reduceToInt] at * <;> simp (disch := omega) only [Int32.toInt_add, Int32.toInt_sub, Int32.toInt_mul, Int32.toInt_neg, Nat.reducePow, Int32.reduceToInt, bmi] at * <;> omega) | grind) (by clear hQ9 h_j14; first | with_reducible assumption | (simp only [xl, xt, xe, xa, xb, xm, xg, ne_eq, Int32.reduceToInt] at * <;> omega) | (simp only [xl, xt, xe, ne_eq, Int32.reduceToInt] at * <;> simp (disch := omega) only [Int32.toInt_add, Int32.toInt_sub, Int32.toInt_mul, Int32.toInt_neg, Nat.reducePow, Int32.reduceToInt, bmi] at * <;> omega) | grind)

set_option maxHeartbeats 4000000 in
set_option maxRecDepth 20000 in
theorem s_Mo_told {mo_width : Int32} {mo_height : Int32} {mo_kind : Int32} {mo_symbols : Int32} {mo_instances : Int32} {mo_toldBytes : Int32} {mo_came : Int32} {mo_place : Int32} {p0 : Int32} (q_1 : ((1 : Int32) ≤ mo_width ∧ mo_width ≤ (24 : Int32))) (q_2 : ((1 : Int32) ≤ mo_height ∧ mo_height ≤ (24 : Int32))) (q_3 : ((0 : Int32) ≤ mo_kind ∧ mo_kind ≤ (1 : Int32))) (q_4 : ((0 : Int32) ≤ mo_symbols ∧ mo_symbols ≤ (16 : Int32))) (q_5 : ((0 : Int32) ≤ mo_instances ∧ mo_instances ≤ (40 : Int32))) (q_6 : ((0 : Int32) ≤ mo_toldBytes ∧ mo_toldBytes ≤ (2000 : Int32))) (q_7 : ((0 : Int32) ≤ mo_came ∧ mo_came ≤ (2000 : Int32))) : ok (f_Mo_told mo_width mo_height mo_kind mo_symbols mo_instances mo_toldBytes mo_came mo_place p0) (fun o => True) := by
  refine ok_Q (fun Q9 hQ9 => ?_)
  unfold f_Mo_told
  refine ok_if (fun q_8 => ?_) (fun q_8 => ?_)
  · skip
    exact ok_some (hQ9 _ trivial)
  · skip
    refine ok_if (fun q_9 => ?_) (fun q_9 => ?_)
    · skip
      exact ok_some (hQ9 _ trivial)
    · skip
      refine ok_if (fun q_10 => ?_) (fun q_10 => ?_)
      · skip
        exact ok_some (hQ9 _ trivial)
      · skip
        refine ok_if (fun q_11 => ?_) (fun q_11 => ?_)
        · skip
          exact ok_some (hQ9 _ trivial)
        · skip
          refine ok_if (fun q_12 => ?_) (fun q_12 => ?_)
          · skip
            exact ok_some (hQ9 _ trivial)
          · skip
            refine ok_if (fun q_13 => ?_) (fun q_13 => ?_)
            · skip
              exact ok_some (hQ9 _ trivial)
            · skip
              refine ok_if (fun q_14 => ?_) (fun q_14 => ?_)
              · skip
                exact ok_some (hQ9 _ trivial)
              · skip
                refine ok_if (fun q_15 => ?_) (fun q_15 => ?_)
                · skip
                  exact ok_some (hQ9 _ trivial)
                · skip
                  exact ok_some (hQ9 _ trivial)

set_option maxHeartbeats 4000000 in
set_option maxRecDepth 20000 in
theorem s_Mo_clear {mo_ways : (Nat → Int32)} {mo_page : (Nat → Int32)} (q_1 : R mo_ways (0 : Int32) (7 : Int32)) (q_2 : R mo_page (0 : Int32) (1 : Int32)) : ok (f_Mo_clear mo_ways mo_page) (fun o => ((0 : Int32) ≤ o.2.1 ∧ o.2.1 ≤ (16 : Int32)) ∧ ((0 : Int32) ≤ o.2.2.1 ∧ o.2.2.1 ≤ (40 : Int32)) ∧ ((0 : Int32) ≤ o.2.2.2.1 ∧ o.2.2.2.1 ≤ (2000 : Int32)) ∧ ((0 : Int32) ≤ o.2.2.2.2.1 ∧ o.2.2.2.2.1 ≤ (2000 : Int32)) ∧ R o.2.2.2.2.2.2.1 (0 : Int32) (7 : Int32) ∧ R o.2.2.2.2.2.2.2 (0 : Int32) (1 : Int32)) := by
  refine ok_Q (fun Q9 hQ9 => ?_)
  unfold f_Mo_clear
  have q_3 : ((0 : Int32) ≤ (0 : Int32) ∧ (0 : Int32) ≤ (16 : Int32)) := by clear hQ9; first | with_reducible assumption | (simp only [xl, xt, xe, xa, xb, xm, xg, ne_eq, Int32.reduceToInt] at * <;> omega) | (simp only [xl, xt, xe, ne_eq, Int32.reduceToInt] at * <;> simp (disch := omega) only [Int32.toInt_add, Int32.toInt_sub, Int32.toInt_mul, Int32.toInt_neg, Nat.reducePow, Int32.reduceToInt, bmi] at * <;> omega) | grind
  have q_4 : ((0 : Int32) ≤ (0 : Int32) ∧ (0 : Int32) ≤ (40 : Int32)) := by clear hQ9; first | with_reducible assumption | (simp only [xl, xt, xe, xa, xb, xm, xg, ne_eq, Int32.reduceToInt] at * <;> omega) | (simp only [xl, xt, xe, ne_eq, Int32.reduceToInt] at * <;> simp (disch := omega) only [Int32.toInt_add, Int32.toInt_sub, Int32.toInt_mul, Int32.toInt_neg, Nat.reducePow, Int32.reduceToInt, bmi] at * <;> omega) | grind
  have q_5 : ((0 : Int32) ≤ (0 : Int32) ∧ (0 : Int32) ≤ (2000 : Int32)) := by clear hQ9; first | with_reducible assumption | (simp only [xl, xt, xe, xa, xb, xm, xg, ne_eq, Int32.reduceToInt] at * <;> omega) | (simp only [xl, xt, xe, ne_eq, Int32.reduceToInt] at * <;> simp (disch := omega) only [Int32.toInt_add, Int32.toInt_sub, Int32.toInt_mul, Int32.toInt_neg, Nat.reducePow, Int32.reduceToInt, bmi] at * <;> omega) | grind
  have q_6 : ((0 : Int32) ≤ (0 : Int32) ∧ (0 : Int32) ≤ (2000 : Int32)) := by clear hQ9; first | with_reducible assumption | (simp only [xl, xt, xe, xa, xb, xm, xg, ne_eq, Int32.reduceToInt] at * <;> omega) | (simp only [xl, xt, xe, ne_eq, Int32.reduceToInt] at * <;> simp (disch := omega) only [Int32.toInt_add, Int32.toInt_sub, Int32.toInt_mul, Int32.toInt_neg, Nat.reducePow, Int32.reduceToInt, bmi] at * <;> omega) | grind
  refine ok_ex (fun k9 => lp (f_Mo_clear_L32 k9) FU ((0 : Int32), mo_ways)) (fun j9 => ∀ (mo_ways_3 : (Nat → Int32)), R mo_ways_3 (0 : Int32) (7 : Int32) → ok (j9 mo_ways_3) Q9) ?_ (fun k50 h_k50 => ?_)
  · intro mo_ways_3 q_7
    refine ok_lp (fun s9 => ((0 : Int32) ≤ s9.1 ∧ s9.1 ≤ (576 : Int32)) ∧ R s9.2 (0 : Int32) (1 : Int32)) (fun s9 => 576 - s9.1) ⟨by clear hQ9; first | with_reducible assumption | (simp only [xl, xt, xe, xa, xb, xm, xg, ne_eq, Int32.reduceToInt] at * <;> omega) | (simp only [xl, xt, xe, ne_eq, Int32.reduceToInt] at * <;> simp (disch := omega) only [Int32.toInt_add, Int32.toInt_sub, Int32.toInt_mul, Int32.toInt_neg, Nat.reducePow, Int32.reduceToInt, bmi] at * <;> omega) | grind, by assumption⟩ ?_ ?_
    · intro s9 hs9; obtain ⟨v1_5, mo_page_6⟩ := s9; try dsimp only at hs9; obtain ⟨q_8, q_9⟩ := hs9; exact ⟨by clear hQ9; (try dsimp only); first | with_reducible assumption | (simp only [xl, xt, xe, xa, xb, xm, xg, ne_eq, Int32.reduceToInt] at * <;> omega) | (simp only [xl, xt, xe, ne_eq, Int32.reduceToInt] at * <;> simp (disch := omega) only [Int32.toInt_add, Int32.toInt_sub, Int32.toInt_mul, Int32.toInt_neg, Nat.reducePow, Int32.reduceToInt, bmi] at * <;> omega) | grind, by clear hQ9; (try dsimp only); first | with_reducible assumption | (simp only [xl, xt, xe, xa, xb, xm, xg, ne_eq, Int32.reduceToInt] at * <;> omega) | (simp only [xl, xt, xe, ne_eq, Int32.reduceToInt] at * <;> simp (disch := omega) only [Int32.toInt_add, Int32.toInt_sub, Int32.toInt_mul, Int32.toInt_neg, Nat.reducePow, Int32.reduceToInt, bmi] at * <;> omega) | grind⟩
    intro self52 s9 hs9 ih_self52
    obtain ⟨v1_5, mo_page_6⟩ := s9; try dsimp only at hs9; obtain ⟨q_8, q_9⟩ := hs9
    unfold f_Mo_clear_L52
    try dsimp only
    try dsimp only at ih_self52
    refine ok_if (fun q_10 => ?_) (fun q_10 => ?_)
    · skip
      exact ok_some (hQ9 _ ⟨by clear hQ9 ih_self52; first | with_reducible assumption | (simp only [xl, xt, xe, xa, xb, xm, xg, ne_eq, Int32.reduceToInt] at * <;> omega) | (simp only [xl, xt, xe, ne_eq, Int32.reduceToInt] at * <;> simp (disch := omega) only [Int32.toInt_add, Int32.toInt_sub, Int32.toInt_mul, Int32.toInt_neg, Nat.reducePow, Int32.reduceToInt, bmi] at * <;> omega) | grind, by clear hQ9 ih_self52; first | with_reducible assumption | (simp only [xl, xt, xe, xa, xb, xm, xg, ne_eq, Int32.reduceToInt] at * <;> omega) | (simp only [xl, xt, xe, ne_eq, Int32.reduceToInt] at * <;> simp (disch := omega) only [Int32.toInt_add, Int32.toInt_sub, Int32.toInt_mul, Int32.toInt_neg, Nat.reducePow, Int32.reduceToInt, bmi] at * <;> omega) | grind, by clear hQ9 ih_self52; first | with_reducible assumption | (simp only [xl, xt, xe, xa, xb, xm, xg, ne_eq, Int32.reduceToInt] at * <;> omega) | (simp only [xl, xt, xe, ne_eq, Int32.reduceToInt] at * <;> simp (disch := omega) only [Int32.toInt_add, Int32.toInt_sub, Int32.toInt_mul, Int32.toInt_neg, Nat.reducePow, Int32.reduceToInt, bmi] at * <;> omega) | grind, by clear hQ9 ih_self52; first | with_reducible assumption | (simp only [xl, xt, xe, xa, xb, xm, xg, ne_eq, Int32.reduceToInt] at * <;> omega) | (simp only [xl, xt, xe, ne_eq, Int32.reduceToInt] at * <;> simp (disch := omega) only [Int32.toInt_add, Int32.toInt_sub, Int32.toInt_mul, Int32.toInt_neg, Nat.reducePow, Int32.reduceToInt, bmi] at * <;> omega) | grind, by assumption, by assumption⟩)
    · skip
      refine ok_gq (576 : Int32) (by decide) (by clear hQ9 ih_self52; first | with_reducible assumption | (simp only [xl, xt, xe, xa, xb, xm, xg, ne_eq, Int32.reduceToInt] at * <;> omega) | (simp only [xl, xt, xe, ne_eq, Int32.reduceToInt] at * <;> simp (disch := omega) only [Int32.toInt_add, Int32.toInt_sub, Int32.toInt_mul, Int32.toInt_neg, Nat.reducePow, Int32.reduceToInt, bmi] at * <;> omega) | grind) (by clear hQ9 ih_self52; first | with_reducible assumption | (simp only [xl, xt, xe, xa, xb, xm, xg, ne_eq, Int32.reduceToInt] at * <;> omega) | (simp only [xl, xt, xe, ne_eq, Int32.reduceToInt] at * <;> simp (disch := omega) only [Int32.toInt_add, Int32.toInt_sub, Int32.toInt_mul, Int32.toInt_neg, Nat.reducePow, Int32.reduceToInt, bmi] at * <;> omega) | grind) ?_
      have q_11 : R (upd mo_page_6 (v1_5).toNatClampNeg (vp_nar .boolean (0 : Int32))) (0 : Int32) (1 : Int32) := R_updB (by assumption) _ _
      refine ok_nl (fun v1_7 e_v1_7 => ?_)
      exact ih_self52 (v1_7, (upd mo_page_6 (v1_5).toNatClampNeg (vp_nar .boolean (0 : Int32)))) ⟨by clear hQ9 ih_self52; first | with_reducible assumption | (simp only [xl, xt, xe, xa, xb, xm, xg, ne_eq, Int32.reduceToInt] at * <;> omega) | (simp only [xl, xt, xe, ne_eq, Int32.reduceToInt] at * <;> simp (disch := omega) only [Int32.toInt_add, Int32.toInt_sub, Int32.toInt_mul, Int32.toInt_neg, Nat.reducePow, Int32.reduceToInt, bmi] at * <;> omega) | grind, by assumption⟩ (by clear hQ9 ih_self52; (try dsimp only); first | with_reducible assumption | (simp only [xl, xt, xe, xa, xb, xm, xg, ne_eq, Int32.reduceToInt] at * <;> omega) | (simp only [xl, xt, xe, ne_eq, Int32.reduceToInt] at * <;> simp (disch := omega) only [Int32.toInt_add, Int32.toInt_sub, Int32.toInt_mul, Int32.toInt_neg, Nat.reducePow, Int32.reduceToInt, bmi] at * <;> omega) | grind)
  refine ok_lp (fun s9 => ((0 : Int32) ≤ s9.1 ∧ s9.1 ≤ (4 : Int32)) ∧ R s9.2 (0 : Int32) (7 : Int32)) (fun s9 => 4 - s9.1) ⟨by clear hQ9 h_k50; first | with_reducible assumption | (simp only [xl, xt, xe, xa, xb, xm, xg, ne_eq, Int32.reduceToInt] at * <;> omega) | (simp only [xl, xt, xe, ne_eq, Int32.reduceToInt] at * <;> simp (disch := omega) only [Int32.toInt_add, Int32.toInt_sub, Int32.toInt_mul, Int32.toInt_neg, Nat.reducePow, Int32.reduceToInt, bmi] at * <;> omega) | grind, by assumption⟩ ?_ ?_
  · intro s9 hs9; obtain ⟨v1_1, mo_ways_2⟩ := s9; try dsimp only at hs9; obtain ⟨q_12, q_13⟩ := hs9; exact ⟨by clear hQ9 h_k50; (try dsimp only); first | with_reducible assumption | (simp only [xl, xt, xe, xa, xb, xm, xg, ne_eq, Int32.reduceToInt] at * <;> omega) | (simp only [xl, xt, xe, ne_eq, Int32.reduceToInt] at * <;> simp (disch := omega) only [Int32.toInt_add, Int32.toInt_sub, Int32.toInt_mul, Int32.toInt_neg, Nat.reducePow, Int32.reduceToInt, bmi] at * <;> omega) | grind, by clear hQ9 h_k50; (try dsimp only); first | with_reducible assumption | (simp only [xl, xt, xe, xa, xb, xm, xg, ne_eq, Int32.reduceToInt] at * <;> omega) | (simp only [xl, xt, xe, ne_eq, Int32.reduceToInt] at * <;> simp (disch := omega) only [Int32.toInt_add, Int32.toInt_sub, Int32.toInt_mul, Int32.toInt_neg, Nat.reducePow, Int32.reduceToInt, bmi] at * <;> omega) | grind⟩
  intro self32 s9 hs9 ih_self32
  obtain ⟨v1_1, mo_ways_2⟩ := s9; try dsimp only at hs9; obtain ⟨q_12, q_13⟩ := hs9
  unfold f_Mo_clear_L32
  try dsimp only
  try dsimp only at ih_self32
  refine ok_if (fun q_14 => ?_) (fun q_14 => ?_)
  · skip
    exact h_k50 _ (by assumption)
  · skip
    refine ok_gq (4 : Int32) (by decide) (by clear hQ9 h_k50 ih_self32; first | with_reducible assumption | (simp only [xl, xt, xe, xa, xb, xm, xg, ne_eq, Int32.reduceToInt] at * <;> omega) | (simp only [xl, xt, xe, ne_eq, Int32.reduceToInt] at * <;> simp (disch := omega) only [Int32.toInt_add, Int32.toInt_sub, Int32.toInt_mul, Int32.toInt_neg, Nat.reducePow, Int32.reduceToInt, bmi] at * <;> omega) | grind) (by clear hQ9 h_k50 ih_self32; first | with_reducible assumption | (simp only [xl, xt, xe, xa, xb, xm, xg, ne_eq, Int32.reduceToInt] at * <;> omega) | (simp only [xl, xt, xe, ne_eq, Int32.reduceToInt] at * <;> simp (disch := omega) only [Int32.toInt_add, Int32.toInt_sub, Int32.toInt_mul, Int32.toInt_neg, Nat.reducePow, Int32.reduceToInt, bmi] at * <;> omega) | grind) ?_
    have q_15 : R (upd mo_ways_2 (v1_1).toNatClampNeg (0 : Int32)) (0 : Int32) (7 : Int32) := R_upd (by assumption) _ (by clear hQ9 h_k50 ih_self32; first | with_reducible assumption | (simp only [xl, xt, xe, xa, xb, xm, xg, ne_eq, Int32.reduceToInt] at * <;> omega) | (simp only [xl, xt, xe, ne_eq, Int32.reduceToInt] at * <;> simp (disch := omega) only [Int32.toInt_add, Int32.toInt_sub, Int32.toInt_mul, Int32.toInt_neg, Nat.reducePow, Int32.reduceToInt, bmi] at * <;> omega) | grind)
    refine ok_nl (fun v1_4 e_v1_4 => ?_)
    exact ih_self32 (v1_4, (upd mo_ways_2 (v1_1).toNatClampNeg (0 : Int32))) ⟨by clear hQ9 h_k50 ih_self32; first | with_reducible assumption | (simp only [xl, xt, xe, xa, xb, xm, xg, ne_eq, Int32.reduceToInt] at * <;> omega) | (simp only [xl, xt, xe, ne_eq, Int32.reduceToInt] at * <;> simp (disch := omega) only [Int32.toInt_add, Int32.toInt_sub, Int32.toInt_mul, Int32.toInt_neg, Nat.reducePow, Int32.reduceToInt, bmi] at * <;> omega) | grind, by assumption⟩ (by clear hQ9 h_k50 ih_self32; (try dsimp only); first | with_reducible assumption | (simp only [xl, xt, xe, xa, xb, xm, xg, ne_eq, Int32.reduceToInt] at * <;> omega) | (simp only [xl, xt, xe, ne_eq, Int32.reduceToInt] at * <;> simp (disch := omega) only [Int32.toInt_add, Int32.toInt_sub, Int32.toInt_mul, Int32.toInt_neg, Nat.reducePow, Int32.reduceToInt, bmi] at * <;> omega) | grind)

