set_option maxHeartbeats 4000000 in
set_option maxRecDepth 20000 in
theorem s_Top_symbol {di_count : Int32} {di_widths : (Nat → Int32)} {di_heights : (Nat → Int32)} {di_samples : (Nat → Int64)} {p0 : Int32} {p1 : Int32} (q_1 : ((0 : Int32) ≤ di_count ∧ di_count ≤ (16 : Int32))) (q_2 : R di_widths (0 : Int32) (8 : Int32)) (q_3 : R di_heights (0 : Int32) (8 : Int32)) : ok (f_Top_symbol di_count di_widths di_heights di_samples p0 p1) (fun o => match o with | .inl c => c = "java/lang/IllegalArgumentException" ∨ c = "java/lang/UnsupportedOperationException" | .inr u => ((0 : Int32) ≤ u.2.1 ∧ u.2.1 ≤ (16 : Int32)) ∧ R u.2.2.1 (0 : Int32) (8 : Int32) ∧ R u.2.2.2.1 (0 : Int32) (8 : Int32)) := by
  refine ok_Q (fun Q9 hQ9 => ?_)
  unfold f_Top_symbol
  refine ok_bd (s_Top_isWithin) (fun o9 h9 => ?_)
  obtain ⟨r_1, rfl⟩ : ∃ z9, z9 = o9 := ⟨_, rfl⟩
  obtain ⟨q_4, q_5⟩ := h9
  refine ok_jn (fun j9 => ∀ (_ : Unit), ok (j9 ()) Q9) ?_ (fun j20 h_j20 => ?_)
  · intro _
    exact ok_some (hQ9 _ (by decide))
  refine ok_if (fun q_6 => ?_) (fun q_6 => ?_)
  · skip
    exact h_j20 ()
  · skip
    refine ok_bd (s_Top_isWithin) (fun o9 h9 => ?_)
    obtain ⟨r_2, rfl⟩ : ∃ z9, z9 = o9 := ⟨_, rfl⟩
    obtain ⟨q_7, q_8⟩ := h9
    refine ok_if (fun q_9 => ?_) (fun q_9 => ?_)
    · skip
      exact h_j20 ()
    · skip
      refine ok_if (fun q_10 => ?_) (fun q_10 => ?_)
      · skip
        refine ok_bd (s_Dictionary_add (by clear hQ9 h_j20; first | with_reducible assumption | (simp only [xl, xt, xe, xa, xb, xm, xg, ne_eq, Int32.reduceToInt] at * <;> omega) | grind) (by assumption) (by assumption) (by clear hQ9 h_j20; first | with_reducible assumption | (simp only [xl, xt, xe, xa, xb, xm, xg, ne_eq, Int32.reduceToInt] at * <;> omega) | grind) (by clear hQ9 h_j20; first | with_reducible assumption | (simp only [xl, xt, xe, xa, xb, xm, xg, ne_eq, Int32.reduceToInt] at * <;> omega) | grind) (by clear hQ9 h_j20; first | with_reducible assumption | (simp only [xl, xt, xe, xa, xb, xm, xg, ne_eq, Int32.reduceToInt] at * <;> omega) | grind)) (fun o9 h9 => ?_)
        obtain ⟨r_3, di_count_4, di_widths_5, di_heights_6, di_samples_7⟩ := o9
        try dsimp only at h9
        try dsimp only
        obtain ⟨q_11, q_12, q_13, q_14⟩ := h9
        exact ok_some (hQ9 _ ⟨by clear hQ9 h_j20; first | with_reducible assumption | (simp only [xl, xt, xe, xa, xb, xm, xg, ne_eq, Int32.reduceToInt] at * <;> omega) | grind, by assumption, by assumption⟩)
      · skip
        exact ok_some (hQ9 _ (by decide))

set_option maxHeartbeats 4000000 in
set_option maxRecDepth 20000 in
theorem s_Top_put {di_count : Int32} {di_widths : (Nat → Int32)} {di_heights : (Nat → Int32)} {di_samples : (Nat → Int64)} {p0 : Int32} {p1 : Int32} {p2 : Int32} {p3 : Int32} (q_1 : ((0 : Int32) ≤ di_count ∧ di_count ≤ (16 : Int32))) (q_2 : R di_widths (0 : Int32) (8 : Int32)) (q_3 : R di_heights (0 : Int32) (8 : Int32)) : ok (f_Top_put di_count di_widths di_heights di_samples p0 p1 p2 p3) (fun o => match o with | .inl c => c = "java/lang/IndexOutOfBoundsException" | .inr u => ((0 : Int32) ≤ u.1 ∧ u.1 ≤ (1 : Int32))) := by
  refine ok_Q (fun Q9 hQ9 => ?_)
  unfold f_Top_put
  refine ok_bd (s_Dictionary_has (by clear hQ9; first | with_reducible assumption | (simp only [xl, xt, xe, xa, xb, xm, xg, ne_eq, Int32.reduceToInt] at * <;> omega) | grind)) (fun o9 h9 => ?_)
  obtain ⟨r_1, rfl⟩ : ∃ z9, z9 = o9 := ⟨_, rfl⟩
  obtain ⟨q_4, q_5⟩ := h9
  refine ok_jn (fun j9 => ∀ (_ : Unit), ok (j9 ()) Q9) ?_ (fun j24 h_j24 => ?_)
  · intro _
    exact ok_some (hQ9 _ (by decide))
  refine ok_if (fun q_6 => ?_) (fun q_6 => ?_)
  · skip
    exact h_j24 ()
  · skip
    refine ok_bd (s_Dictionary_hasSample (by assumption) (by assumption) (by clear hQ9 h_j24; first | with_reducible assumption | (simp only [xl, xt, xe, xa, xb, xm, xg, ne_eq, Int32.reduceToInt] at * <;> omega) | grind)) (fun o9 h9 => ?_)
    obtain ⟨r_2, rfl⟩ : ∃ z9, z9 = o9 := ⟨_, rfl⟩
    have q_7 := h9
    clear h9
    refine ok_if (fun q_8 => ?_) (fun q_8 => ?_)
    · skip
      exact h_j24 ()
    · skip
      refine ok_gq (16 : Int32) (by decide) (by clear hQ9 h_j24; first | with_reducible assumption | (simp only [xl, xt, xe, xa, xb, xm, xg, ne_eq, Int32.reduceToInt] at * <;> omega) | grind) (by clear hQ9 h_j24; first | with_reducible assumption | (simp only [xl, xt, xe, xa, xb, xm, xg, ne_eq, Int32.reduceToInt] at * <;> omega) | grind) ?_
      refine ok_nl (fun v5_3 e_v5_3 => ?_)
      refine ok_bd (s_Dictionary_sampleNumber (by assumption) (by clear hQ9 h_j24; first | with_reducible assumption | (simp only [xl, xt, xe, xa, xb, xm, xg, ne_eq, Int32.reduceToInt] at * <;> omega) | grind)) (fun o9 h9 => ?_)
      obtain ⟨r_4, rfl⟩ : ∃ z9, z9 = o9 := ⟨_, rfl⟩
      refine ok_bd (s_Top_withBit) (fun o9 h9 => ?_)
      obtain ⟨r_5, rfl⟩ : ∃ z9, z9 = o9 := ⟨_, rfl⟩
      refine ok_gq (16 : Int32) (by decide) (by clear hQ9 h_j24; first | with_reducible assumption | (simp only [xl, xt, xe, xa, xb, xm, xg, ne_eq, Int32.reduceToInt] at * <;> omega) | grind) (by clear hQ9 h_j24; first | with_reducible assumption | (simp only [xl, xt, xe, xa, xb, xm, xg, ne_eq, Int32.reduceToInt] at * <;> omega) | grind) ?_
      refine ok_gq (16 : Int32) (by decide) (by clear hQ9 h_j24; first | with_reducible assumption | (simp only [xl, xt, xe, xa, xb, xm, xg, ne_eq, Int32.reduceToInt] at * <;> omega) | grind) (by clear hQ9 h_j24; first | with_reducible assumption | (simp only [xl, xt, xe, xa, xb, xm, xg, ne_eq, Int32.reduceToInt] at * <;> omega) | grind) ?_
      refine ok_if (fun q_9 => ?_) (fun q_9 => ?_)
      · skip
        exact ok_some (hQ9 _ (by clear hQ9 h_j24; first | with_reducible assumption | (simp only [xl, xt, xe, xa, xb, xm, xg, ne_eq, Int32.reduceToInt] at * <;> omega) | grind))
      · skip
        exact ok_some (hQ9 _ (by clear hQ9 h_j24; first | with_reducible assumption | (simp only [xl, xt, xe, xa, xb, xm, xg, ne_eq, Int32.reduceToInt] at * <;> omega) | grind))

set_option maxHeartbeats 4000000 in
set_option maxRecDepth 20000 in
theorem s_Top_instance {di_count : Int32} {la_count : Int32} {la_symbolOf : (Nat → Int32)} {la_xs : (Nat → Int32)} {la_ys : (Nat → Int32)} {la_differs : (Nat → Int64)} {p0 : Int32} {p1 : Int32} {p2 : Int32} (q_1 : ((0 : Int32) ≤ di_count ∧ di_count ≤ (16 : Int32))) (q_2 : ((0 : Int32) ≤ la_count ∧ la_count ≤ (40 : Int32))) (q_3 : R la_symbolOf (0 : Int32) (15 : Int32)) (q_4 : R la_xs (-8 : Int32) (31 : Int32)) (q_5 : R la_ys (-8 : Int32) (31 : Int32)) : ok (f_Top_instance di_count la_count la_symbolOf la_xs la_ys la_differs p0 p1 p2) (fun o => match o with | .inl c => c = "java/lang/IndexOutOfBoundsException" ∨ c = "java/lang/IllegalArgumentException" ∨ c = "java/lang/UnsupportedOperationException" | .inr u => ((0 : Int32) ≤ u.2.1 ∧ u.2.1 ≤ (40 : Int32)) ∧ R u.2.2.1 (0 : Int32) (15 : Int32) ∧ R u.2.2.2.1 (-8 : Int32) (31 : Int32) ∧ R u.2.2.2.2.1 (-8 : Int32) (31 : Int32)) := by
  refine ok_Q (fun Q9 hQ9 => ?_)
  unfold f_Top_instance
  refine ok_bd (s_Dictionary_has (by clear hQ9; first | with_reducible assumption | (simp only [xl, xt, xe, xa, xb, xm, xg, ne_eq, Int32.reduceToInt] at * <;> omega) | grind)) (fun o9 h9 => ?_)
  obtain ⟨r_1, rfl⟩ : ∃ z9, z9 = o9 := ⟨_, rfl⟩
  obtain ⟨q_6, q_7⟩ := h9
  refine ok_if (fun q_8 => ?_) (fun q_8 => ?_)
  · skip
    exact ok_some (hQ9 _ (by decide))
  · skip
    refine ok_bd (s_Top_isPlace) (fun o9 h9 => ?_)
    obtain ⟨r_2, rfl⟩ : ∃ z9, z9 = o9 := ⟨_, rfl⟩
    obtain ⟨q_9, q_10⟩ := h9
    refine ok_jn (fun j9 => ∀ (_ : Unit), ok (j9 ()) Q9) ?_ (fun j35 h_j35 => ?_)
    · intro _
      exact ok_some (hQ9 _ (by decide))
    refine ok_if (fun q_11 => ?_) (fun q_11 => ?_)
    · skip
      exact h_j35 ()
    · skip
      refine ok_bd (s_Top_isPlace) (fun o9 h9 => ?_)
      obtain ⟨r_3, rfl⟩ : ∃ z9, z9 = o9 := ⟨_, rfl⟩
      obtain ⟨q_12, q_13⟩ := h9
      refine ok_if (fun q_14 => ?_) (fun q_14 => ?_)
      · skip
        exact h_j35 ()
      · skip
        refine ok_if (fun q_15 => ?_) (fun q_15 => ?_)
        · skip
          refine ok_bd (s_Layout_add (by clear hQ9 h_j35; first | with_reducible assumption | (simp only [xl, xt, xe, xa, xb, xm, xg, ne_eq, Int32.reduceToInt] at * <;> omega) | grind) (by assumption) (by assumption) (by assumption) (by clear hQ9 h_j35; first | with_reducible assumption | (simp only [xl, xt, xe, xa, xb, xm, xg, ne_eq, Int32.reduceToInt] at * <;> omega) | grind) (by clear hQ9 h_j35; first | with_reducible assumption | (simp only [xl, xt, xe, xa, xb, xm, xg, ne_eq, Int32.reduceToInt] at * <;> omega) | grind) (by clear hQ9 h_j35; first | with_reducible assumption | (simp only [xl, xt, xe, xa, xb, xm, xg, ne_eq, Int32.reduceToInt] at * <;> omega) | grind) (by clear hQ9 h_j35; first | with_reducible assumption | (simp only [xl, xt, xe, xa, xb, xm, xg, ne_eq, Int32.reduceToInt] at * <;> omega) | grind)) (fun o9 h9 => ?_)
          obtain ⟨r_4, la_count_5, la_symbolOf_6, la_xs_7, la_ys_8, la_differs_9⟩ := o9
          try dsimp only at h9
          try dsimp only
          obtain ⟨q_16, q_17, q_18, q_19, q_20⟩ := h9
          exact ok_some (hQ9 _ ⟨by clear hQ9 h_j35; first | with_reducible assumption | (simp only [xl, xt, xe, xa, xb, xm, xg, ne_eq, Int32.reduceToInt] at * <;> omega) | grind, by assumption, by assumption, by assumption⟩)
        · skip
          exact ok_some (hQ9 _ (by decide))

set_option maxHeartbeats 4000000 in
set_option maxRecDepth 20000 in
theorem s_Top_refine {la_count : Int32} {la_symbolOf : (Nat → Int32)} {di_widths : (Nat → Int32)} {di_heights : (Nat → Int32)} {la_differs : (Nat → Int64)} {p0 : Int32} {p1 : Int32} {p2 : Int32} {p3 : Int32} (q_1 : ((0 : Int32) ≤ la_count ∧ la_count ≤ (40 : Int32))) (q_2 : R la_symbolOf (0 : Int32) (15 : Int32)) (q_3 : R di_widths (0 : Int32) (8 : Int32)) (q_4 : R di_heights (0 : Int32) (8 : Int32)) : ok (f_Top_refine la_count la_symbolOf di_widths di_heights la_differs p0 p1 p2 p3) (fun o => match o with | .inl c => c = "java/lang/IndexOutOfBoundsException" | .inr u => ((0 : Int32) ≤ u.1 ∧ u.1 ≤ (1 : Int32))) := by
  refine ok_Q (fun Q9 hQ9 => ?_)
  unfold f_Top_refine
  refine ok_bd (s_Layout_has (by clear hQ9; first | with_reducible assumption | (simp only [xl, xt, xe, xa, xb, xm, xg, ne_eq, Int32.reduceToInt] at * <;> omega) | grind)) (fun o9 h9 => ?_)
  obtain ⟨r_1, rfl⟩ : ∃ z9, z9 = o9 := ⟨_, rfl⟩
  obtain ⟨q_5, q_6⟩ := h9
  refine ok_jn (fun j9 => ∀ (_ : Unit), ok (j9 ()) Q9) ?_ (fun j32 h_j32 => ?_)
  · intro _
    exact ok_some (hQ9 _ (by decide))
  refine ok_if (fun q_7 => ?_) (fun q_7 => ?_)
  · skip
    exact h_j32 ()
  · skip
    refine ok_gq (40 : Int32) (by decide) (by clear hQ9 h_j32; first | with_reducible assumption | (simp only [xl, xt, xe, xa, xb, xm, xg, ne_eq, Int32.reduceToInt] at * <;> omega) | grind) (by clear hQ9 h_j32; first | with_reducible assumption | (simp only [xl, xt, xe, xa, xb, xm, xg, ne_eq, Int32.reduceToInt] at * <;> omega) | grind) ?_
    have q_8 := (by assumption : R la_symbolOf (0 : Int32) (15 : Int32)) (p0).toNatClampNeg
    refine ok_bd (s_Dictionary_hasSample (by assumption) (by assumption) (by clear hQ9 h_j32; first | with_reducible assumption | (simp only [xl, xt, xe, xa, xb, xm, xg, ne_eq, Int32.reduceToInt] at * <;> omega) | grind)) (fun o9 h9 => ?_)
    obtain ⟨r_2, rfl⟩ : ∃ z9, z9 = o9 := ⟨_, rfl⟩
    have q_9 := h9
    clear h9
    refine ok_if (fun q_10 => ?_) (fun q_10 => ?_)
    · skip
      exact h_j32 ()
    · skip
      refine ok_gq (40 : Int32) (by decide) (by clear hQ9 h_j32; first | with_reducible assumption | (simp only [xl, xt, xe, xa, xb, xm, xg, ne_eq, Int32.reduceToInt] at * <;> omega) | grind) (by clear hQ9 h_j32; first | with_reducible assumption | (simp only [xl, xt, xe, xa, xb, xm, xg, ne_eq, Int32.reduceToInt] at * <;> omega) | grind) ?_
      refine ok_nl (fun v5_3 e_v5_3 => ?_)
      refine ok_gq (40 : Int32) (by decide) (by clear hQ9 h_j32; first | with_reducible assumption | (simp only [xl, xt, xe, xa, xb, xm, xg, ne_eq, Int32.reduceToInt] at * <;> omega) | grind) (by clear hQ9 h_j32; first | with_reducible assumption | (simp only [xl, xt, xe, xa, xb, xm, xg, ne_eq, Int32.reduceToInt] at * <;> omega) | grind) ?_
      have q_11 := (by assumption : R la_symbolOf (0 : Int32) (15 : Int32)) (p0).toNatClampNeg
      refine ok_bd (s_Dictionary_sampleNumber (by assumption) (by clear hQ9 h_j32; first | with_reducible assumption | (simp only [xl, xt, xe, xa, xb, xm, xg, ne_eq, Int32.reduceToInt] at * <;> omega) | grind)) (fun o9 h9 => ?_)
      obtain ⟨r_4, rfl⟩ : ∃ z9, z9 = o9 := ⟨_, rfl⟩
      refine ok_bd (s_Top_withBit) (fun o9 h9 => ?_)
      obtain ⟨r_5, rfl⟩ : ∃ z9, z9 = o9 := ⟨_, rfl⟩
      refine ok_gq (40 : Int32) (by decide) (by clear hQ9 h_j32; first | with_reducible assumption | (simp only [xl, xt, xe, xa, xb, xm, xg, ne_eq, Int32.reduceToInt] at * <;> omega) | grind) (by clear hQ9 h_j32; first | with_reducible assumption | (simp only [xl, xt, xe, xa, xb, xm, xg, ne_eq, Int32.reduceToInt] at * <;> omega) | grind) ?_
      refine ok_gq (40 : Int32) (by decide) (by clear hQ9 h_j32; first | with_reducible assumption | (simp only [xl, xt, xe, xa, xb, xm, xg, ne_eq, Int32.reduceToInt] at * <;> omega) | grind) (by clear hQ9 h_j32; first | with_reducible assumption | (simp only [xl, xt, xe, xa, xb, xm, xg, ne_eq, Int32.reduceToInt] at * <;> omega) | grind) ?_
      refine ok_if (fun q_12 => ?_) (fun q_12 => ?_)
      · skip
        exact ok_some (hQ9 _ (by clear hQ9 h_j32; first | with_reducible assumption | (simp only [xl, xt, xe, xa, xb, xm, xg, ne_eq, Int32.reduceToInt] at * <;> omega) | grind))
      · skip
        exact ok_some (hQ9 _ (by clear hQ9 h_j32; first | with_reducible assumption | (simp only [xl, xt, xe, xa, xb, xm, xg, ne_eq, Int32.reduceToInt] at * <;> omega) | grind))

set_option maxHeartbeats 4000000 in
set_option maxRecDepth 20000 in
theorem s_Top_way {la_ways : (Nat → Int32)} {p0 : Int32} {p1 : Int32} (q_1 : R la_ways (0 : Int32) (7 : Int32)) : ok (f_Top_way la_ways p0 p1) (fun o => match o with | .inl c => c = "java/lang/IllegalArgumentException" | .inr u => R u.2 (0 : Int32) (7 : Int32)) := by
  refine ok_Q (fun Q9 hQ9 => ?_)
  unfold f_Top_way
  refine ok_bd (s_Top_isWithin) (fun o9 h9 => ?_)
  obtain ⟨r_1, rfl⟩ : ∃ z9, z9 = o9 := ⟨_, rfl⟩
  obtain ⟨q_2, q_3⟩ := h9
  refine ok_jn (fun j9 => ∀ (_ : Unit), ok (j9 ()) Q9) ?_ (fun j22 h_j22 => ?_)
  · intro _
    exact ok_some (hQ9 _ (by decide))
  refine ok_if (fun q_4 => ?_) (fun q_4 => ?_)
  · skip
    exact h_j22 ()
  · skip
    refine ok_gq (4 : Int32) (by decide) (by clear hQ9 h_j22; first | with_reducible assumption | (simp only [xl, xt, xe, xa, xb, xm, xg, ne_eq, Int32.reduceToInt] at * <;> omega) | grind) (by clear hQ9 h_j22; first | with_reducible assumption | (simp only [xl, xt, xe, xa, xb, xm, xg, ne_eq, Int32.reduceToInt] at * <;> omega) | grind) ?_
    have q_5 := Rtb_MOST_OF_WAY (p0).toNatClampNeg
    refine ok_bd (s_Top_isWithin) (fun o9 h9 => ?_)
    obtain ⟨r_2, rfl⟩ : ∃ z9, z9 = o9 := ⟨_, rfl⟩
    obtain ⟨q_6, q_7⟩ := h9
    refine ok_if (fun q_8 => ?_) (fun q_8 => ?_)
    · skip
      exact h_j22 ()
    · skip
      refine ok_gq (4 : Int32) (by decide) (by clear hQ9 h_j22; first | with_reducible assumption | (simp only [xl, xt, xe, xa, xb, xm, xg, ne_eq, Int32.reduceToInt] at * <;> omega) | grind) (by clear hQ9 h_j22; first | with_reducible assumption | (simp only [xl, xt, xe, xa, xb, xm, xg, ne_eq, Int32.reduceToInt] at * <;> omega) | grind) ?_
      have q_9 := (by assumption : R la_ways (0 : Int32) (7 : Int32)) (p0).toNatClampNeg
      refine ok_nl (fun v3_3 e_v3_3 => ?_)
      refine ok_gq (4 : Int32) (by decide) (by clear hQ9 h_j22; first | with_reducible assumption | (simp only [xl, xt, xe, xa, xb, xm, xg, ne_eq, Int32.reduceToInt] at * <;> omega) | grind) (by clear hQ9 h_j22; first | with_reducible assumption | (simp only [xl, xt, xe, xa, xb, xm, xg, ne_eq, Int32.reduceToInt] at * <;> omega) | grind) ?_
      have q_10 : R (upd la_ways (p0).toNatClampNeg p1) (0 : Int32) (7 : Int32) := R_upd (by assumption) _ (by clear hQ9 h_j22; first | with_reducible assumption | (simp only [xl, xt, xe, xa, xb, xm, xg, ne_eq, Int32.reduceToInt] at * <;> omega) | grind)
      exact ok_some (hQ9 _ (by assumption))

set_option maxHeartbeats 4000000 in
set_option maxRecDepth 20000 in
theorem s_Top_compose {la_count : Int32} {la_ways : (Nat → Int32)} {la_ys : (Nat → Int32)} {la_symbolOf : (Nat → Int32)} {di_heights : (Nat → Int32)} {la_xs : (Nat → Int32)} {di_widths : (Nat → Int32)} {la_sequence : (Nat → Int32)} {pg_width : Int32} {pg_height : Int32} {n_pg_dark : Nat} {pg_dark : (Nat → Int32)} {di_samples : (Nat → Int64)} {la_differs : (Nat → Int64)} {N9 : Int32} (hn9 : (n_pg_dark : Int) = N9.toInt) (hN9 : 0 ≤ N9 ∧ N9 ≤ 576) (hwh : N9 = pg_width * pg_height) (q_1 : ((0 : Int32) ≤ la_count ∧ la_count ≤ (40 : Int32))) (q_2 : R la_ways (0 : Int32) (7 : Int32)) (q_3 : R la_ys (-8 : Int32) (31 : Int32)) (q_4 : R la_symbolOf (0 : Int32) (15 : Int32)) (q_5 : R di_heights (0 : Int32) (8 : Int32)) (q_6 : R la_xs (-8 : Int32) (31 : Int32)) (q_7 : R di_widths (0 : Int32) (8 : Int32)) (q_8 : R la_sequence (0 : Int32) (39 : Int32)) (q_9 : ((1 : Int32) ≤ pg_width ∧ pg_width ≤ (24 : Int32))) (q_10 : ((1 : Int32) ≤ pg_height ∧ pg_height ≤ (24 : Int32))) (q_11 : R pg_dark (0 : Int32) (1 : Int32)) : ok (f_Top_compose la_count la_ways la_ys la_symbolOf di_heights la_xs di_widths la_sequence pg_width pg_height n_pg_dark pg_dark di_samples la_differs) (fun o => R o.2.1 (0 : Int32) (39 : Int32) ∧ R o.2.2 (0 : Int32) (1 : Int32)) := by
  refine ok_Q (fun Q9 hQ9 => ?_)
  unfold f_Top_compose
  refine ok_bd (s_Layout_arrange (by clear hQ9; first | with_reducible assumption | (simp only [xl, xt, xe, xa, xb, xm, xg, ne_eq, Int32.reduceToInt] at * <;> omega) | grind) (by assumption) (by assumption) (by assumption) (by assumption) (by assumption) (by assumption) (by assumption)) (fun o9 h9 => ?_)
  obtain ⟨la_sequence_1, rfl⟩ : ∃ z9, z9 = o9 := ⟨_, rfl⟩
  have q_12 := h9
  clear h9
  refine ok_bd (s_Page_lighten hn9 hN9 (by assumption)) (fun o9 h9 => ?_)
  obtain ⟨pg_dark_2, rfl⟩ : ∃ z9, z9 = o9 := ⟨_, rfl⟩
  have q_13 := h9
  clear h9
  refine ok_ex (fun k9 => lp (f_Top_compose_L16 la_count pg_width pg_height la_symbolOf di_samples la_differs di_heights di_widths la_xs la_ys la_ways n_pg_dark la_sequence_1 k9) FU ((0 : Int32), pg_dark_2)) (fun j9 => ∀ (pg_dark_5 : (Nat → Int32)), R pg_dark_5 (0 : Int32) (1 : Int32) → ok (j9 pg_dark_5) Q9) ?_ (fun k53 h_k53 => ?_)
  · intro pg_dark_5 q_14
    refine ok_bd (s_Page_countDark hn9 hN9 (by assumption)) (fun o9 h9 => ?_)
    obtain ⟨r_8, rfl⟩ : ∃ z9, z9 = o9 := ⟨_, rfl⟩
    exact ok_some (hQ9 _ ⟨by assumption, by assumption⟩)
  refine ok_lp (fun s9 => ((0 : Int32) ≤ s9.1 ∧ s9.1 ≤ (40 : Int32)) ∧ R s9.2 (0 : Int32) (1 : Int32)) (fun s9 => 40 - s9.1) ⟨by clear hQ9 h_k53; first | with_reducible assumption | (simp only [xl, xt, xe, xa, xb, xm, xg, ne_eq, Int32.reduceToInt] at * <;> omega) | grind, by assumption⟩ ?_ ?_
  · intro s9 hs9; obtain ⟨v1_3, pg_dark_4⟩ := s9; try dsimp only at hs9; obtain ⟨q_15, q_16⟩ := hs9; exact ⟨by clear hQ9 h_k53; (try dsimp only); first | with_reducible assumption | (simp only [xl, xt, xe, xa, xb, xm, xg, ne_eq, Int32.reduceToInt] at * <;> omega) | grind, by clear hQ9 h_k53; (try dsimp only); first | with_reducible assumption | (simp only [xl, xt, xe, xa, xb, xm, xg, ne_eq, Int32.reduceToInt] at * <;> omega) | grind⟩
  intro self16 s9 hs9 ih_self16
  obtain ⟨v1_3, pg_dark_4⟩ := s9; try dsimp only at hs9; obtain ⟨q_15, q_16⟩ := hs9
  unfold f_Top_compose_L16
  try dsimp only
  try rw [ofn hn9]
  try dsimp only at ih_self16
  refine ok_if (fun q_17 => ?_) (fun q_17 => ?_)
  · skip
    exact h_k53 _ (by assumption)
  · skip
    refine ok_gq (40 : Int32) (by decide) (by clear hQ9 h_k53 ih_self16; first | with_reducible assumption | (simp only [xl, xt, xe, xa, xb, xm, xg, ne_eq, Int32.reduceToInt] at * <;> omega) | grind) (by clear hQ9 h_k53 ih_self16; first | with_reducible assumption | (simp only [xl, xt, xe, xa, xb, xm, xg, ne_eq, Int32.reduceToInt] at * <;> omega) | grind) ?_
    have q_18 := (by assumption : R la_sequence_1 (0 : Int32) (39 : Int32)) (v1_3).toNatClampNeg
    refine ok_bd (s_Page_lay hn9 hN9 hwh (by clear hQ9 h_k53 ih_self16; first | with_reducible assumption | (simp only [xl, xt, xe, xa, xb, xm, xg, ne_eq, Int32.reduceToInt] at * <;> omega) | grind) (by clear hQ9 h_k53 ih_self16; first | with_reducible assumption | (simp only [xl, xt, xe, xa, xb, xm, xg, ne_eq, Int32.reduceToInt] at * <;> omega) | grind) (by assumption) (by assumption) (by assumption) (by assumption) (by assumption) (by assumption) (by assumption) (by clear hQ9 h_k53 ih_self16; first | with_reducible assumption | (simp only [xl, xt, xe, xa, xb, xm, xg, ne_eq, Int32.reduceToInt] at * <;> omega) | grind)) (fun o9 h9 => ?_)
    obtain ⟨pg_dark_6, rfl⟩ : ∃ z9, z9 = o9 := ⟨_, rfl⟩
    have q_19 := h9
    clear h9
    refine ok_nl (fun v1_7 e_v1_7 => ?_)
    exact ih_self16 (v1_7, pg_dark_6) ⟨by clear hQ9 h_k53 ih_self16; first | with_reducible assumption | (simp only [xl, xt, xe, xa, xb, xm, xg, ne_eq, Int32.reduceToInt] at * <;> omega) | grind, by assumption⟩ (by clear hQ9 h_k53 ih_self16; (try dsimp only); first | with_reducible assumption | (simp only [xl, xt, xe, xa, xb, xm, xg, ne_eq, Int32.reduceToInt] at * <;> omega) | grind)

set_option maxHeartbeats 4000000 in
set_option maxRecDepth 20000 in
theorem s_Top_at {pg_width : Int32} {pg_height : Int32} {n_pg_dark : Nat} {pg_dark : (Nat → Int32)} {p0 : Int32} {p1 : Int32} {N9 : Int32} (hn9 : (n_pg_dark : Int) = N9.toInt) (hN9 : 0 ≤ N9 ∧ N9 ≤ 576) (hwh : N9 = pg_width * pg_height) (q_1 : ((1 : Int32) ≤ pg_width ∧ pg_width ≤ (24 : Int32))) (q_2 : ((1 : Int32) ≤ pg_height ∧ pg_height ≤ (24 : Int32))) (q_3 : R pg_dark (0 : Int32) (1 : Int32)) : ok (f_Top_at pg_width pg_height n_pg_dark pg_dark p0 p1) (fun o => match o with | .inl c => c = "java/lang/IndexOutOfBoundsException" | .inr u => ((0 : Int32) ≤ u ∧ u ≤ (1 : Int32))) := by
  refine ok_Q (fun Q9 hQ9 => ?_)
  unfold f_Top_at
  refine ok_bd (s_Page_has (by clear hQ9; first | with_reducible assumption | (simp only [xl, xt, xe, xa, xb, xm, xg, ne_eq, Int32.reduceToInt] at * <;> omega) | grind) (by clear hQ9; first | with_reducible assumption | (simp only [xl, xt, xe, xa, xb, xm, xg, ne_eq, Int32.reduceToInt] at * <;> omega) | grind)) (fun o9 h9 => ?_)
  obtain ⟨r_1, rfl⟩ : ∃ z9, z9 = o9 := ⟨_, rfl⟩
  obtain ⟨q_4, q_5⟩ := h9
  refine ok_if (fun q_6 => ?_) (fun q_6 => ?_)
  · skip
    exact ok_some (hQ9 _ (by decide))
  · skip
    have q_7 := pgi (x := p0) (y := p1) (w := pg_width) (h := pg_height) (e := ((p1 * pg_width) + p0)) (by clear hQ9; first | with_reducible assumption | (simp only [xl, xt, xe, xa, xb, xm, xg, ne_eq, Int32.reduceToInt] at * <;> omega) | grind) (by clear hQ9; first | with_reducible assumption | (simp only [xl, xt, xe, xa, xb, xm, xg, ne_eq, Int32.reduceToInt] at * <;> omega) | grind) (by clear hQ9; first | with_reducible assumption | (simp only [xl, xt, xe, xa, xb, xm, xg, ne_eq, Int32.reduceToInt] at * <;> omega) | grind) (by clear hQ9; first | with_reducible assumption | (simp only [xl, xt, xe, xa, xb, xm, xg, ne_eq, Int32.reduceToInt] at * <;> omega) | grind) (by clear hQ9; first | with_reducible assumption | (simp only [xl, xt, xe, xa, xb, xm, xg, ne_eq, Int32.reduceToInt] at * <;> omega) | grind) (by clear hQ9; first | with_reducible assumption | (simp only [xl, xt, xe, xa, xb, xm, xg, ne_eq, Int32.reduceToInt] at * <;> omega) | grind) rfl
    refine ok_gq N9 hn9 (by clear hQ9; first | with_reducible assumption | (simp only [xl, xt, xe, xa, xb, xm, xg, ne_eq, Int32.reduceToInt] at * <;> omega) | grind) (by clear hQ9; first | with_reducible assumption | (simp only [xl, xt, xe, xa, xb, xm, xg, ne_eq, Int32.reduceToInt] at * <;> omega) | grind) ?_
    have q_8 := (by assumption : R pg_dark (0 : Int32) (1 : Int32)) (((p1 * pg_width) + p0)).toNatClampNeg
    refine ok_bz (by clear hQ9; first | with_reducible assumption | (simp only [xl, xt, xe, xa, xb, xm, xg, ne_eq, Int32.reduceToInt] at * <;> omega) | grind) ?_
    exact ok_some (hQ9 _ (by clear hQ9; first | with_reducible assumption | (simp only [xl, xt, xe, xa, xb, xm, xg, ne_eq, Int32.reduceToInt] at * <;> omega) | grind))

set_option maxHeartbeats 4000000 in
set_option maxRecDepth 20000 in
theorem s_Top_byteAt {tb_count : Int32} {tb_bytes : (Nat → Int32)} {p0 : Int32} (q_1 : ((0 : Int32) ≤ tb_count ∧ tb_count ≤ (2000 : Int32))) : ok (f_Top_byteAt tb_count tb_bytes p0) (fun o => match o with | .inl c => c = "java/lang/IndexOutOfBoundsException" | .inr u => True) := by
  refine ok_Q (fun Q9 hQ9 => ?_)
  unfold f_Top_byteAt
  refine ok_bd (s_Top_isWithin) (fun o9 h9 => ?_)
  obtain ⟨r_1, rfl⟩ : ∃ z9, z9 = o9 := ⟨_, rfl⟩
  obtain ⟨q_2, q_3⟩ := h9
  refine ok_if (fun q_4 => ?_) (fun q_4 => ?_)
  · skip
    exact ok_some (hQ9 _ (by decide))
  · skip
    refine ok_gq (2000 : Int32) (by decide) (by clear hQ9; first | with_reducible assumption | (simp only [xl, xt, xe, xa, xb, xm, xg, ne_eq, Int32.reduceToInt] at * <;> omega) | grind) (by clear hQ9; first | with_reducible assumption | (simp only [xl, xt, xe, xa, xb, xm, xg, ne_eq, Int32.reduceToInt] at * <;> omega) | grind) ?_
    exact ok_some (hQ9 _ trivial)

set_option maxHeartbeats 4000000 in
set_option maxRecDepth 20000 in
theorem s_Top_feed {cb_count : Int32} {cb_bytes : (Nat → Int32)} {p0 : Int32} (q_1 : ((0 : Int32) ≤ cb_count ∧ cb_count ≤ (2000 : Int32))) : ok (f_Top_feed cb_count cb_bytes p0) (fun o => match o with | .inl c => c = "java/lang/IllegalArgumentException" ∨ c = "java/lang/UnsupportedOperationException" | .inr u => ((0 : Int32) ≤ u.2.1 ∧ u.2.1 ≤ (2000 : Int32))) := by
  refine ok_Q (fun Q9 hQ9 => ?_)
  unfold f_Top_feed
  refine ok_bd (s_Top_isWithin) (fun o9 h9 => ?_)
  obtain ⟨r_1, rfl⟩ : ∃ z9, z9 = o9 := ⟨_, rfl⟩
  obtain ⟨q_2, q_3⟩ := h9
  refine ok_if (fun q_4 => ?_) (fun q_4 => ?_)
  · skip
    exact ok_some (hQ9 _ (by decide))
  · skip
    refine ok_if (fun q_5 => ?_) (fun q_5 => ?_)
    · skip
      refine ok_bd (s_ByteRow_append (by clear hQ9; first | with_reducible assumption | (simp only [xl, xt, xe, xa, xb, xm, xg, ne_eq, Int32.reduceToInt] at * <;> omega) | grind)) (fun o9 h9 => ?_)
      obtain ⟨cb_count_2, cb_bytes_3⟩ := o9
      try dsimp only at h9
      try dsimp only
      have q_6 := h9
      clear h9
      exact ok_some (hQ9 _ (by clear hQ9; first | with_reducible assumption | (simp only [xl, xt, xe, xa, xb, xm, xg, ne_eq, Int32.reduceToInt] at * <;> omega) | grind))
    · skip
      exact ok_some (hQ9 _ (by decide))

set_option maxHeartbeats 4000000 in
set_option maxRecDepth 20000 in
theorem s_Top_pass {tb_count : Int32} {cb_count : Int32} {tb_bytes : (Nat → Int32)} {cb_bytes : (Nat → Int32)} (q_1 : ((0 : Int32) ≤ tb_count ∧ tb_count ≤ (2000 : Int32))) (q_2 : ((0 : Int32) ≤ cb_count ∧ cb_count ≤ (2000 : Int32))) : ok (f_Top_pass tb_count cb_count tb_bytes cb_bytes) (fun o => match o with | .inl c => c = "java/lang/UnsupportedOperationException" | .inr u => ((0 : Int32) ≤ u.2.1 ∧ u.2.1 ≤ (2000 : Int32))) := by
  refine ok_Q (fun Q9 hQ9 => ?_)
  unfold f_Top_pass
  refine ok_if (fun q_3 => ?_) (fun q_3 => ?_)
  · skip
    refine ok_lp (fun s9 => ((0 : Int32) ≤ s9.1 ∧ s9.1 ≤ (2000 : Int32)) ∧ ((0 : Int32) ≤ s9.2.1 ∧ s9.2.1 ≤ (2000 : Int32))) (fun s9 => 2000 - s9.1) ⟨by clear hQ9; first | with_reducible assumption | (simp only [xl, xt, xe, xa, xb, xm, xg, ne_eq, Int32.reduceToInt] at * <;> omega) | grind, by clear hQ9; first | with_reducible assumption | (simp only [xl, xt, xe, xa, xb, xm, xg, ne_eq, Int32.reduceToInt] at * <;> omega) | grind⟩ ?_ ?_
    · intro s9 hs9; obtain ⟨v1_1, cb_count_2, cb_bytes_3⟩ := s9; try dsimp only at hs9; obtain ⟨q_4, q_5⟩ := hs9; exact ⟨by clear hQ9; (try dsimp only); first | with_reducible assumption | (simp only [xl, xt, xe, xa, xb, xm, xg, ne_eq, Int32.reduceToInt] at * <;> omega) | grind, by clear hQ9; (try dsimp only); first | with_reducible assumption | (simp only [xl, xt, xe, xa, xb, xm, xg, ne_eq, Int32.reduceToInt] at * <;> omega) | grind⟩
    intro self33 s9 hs9 ih_self33
    obtain ⟨v1_1, cb_count_2, cb_bytes_3⟩ := s9; try dsimp only at hs9; obtain ⟨q_4, q_5⟩ := hs9
    unfold f_Top_pass_L33
    try dsimp only
    try dsimp only at ih_self33
    refine ok_if (fun q_6 => ?_) (fun q_6 => ?_)
    · skip
      exact ok_some (hQ9 _ (by clear hQ9 ih_self33; first | with_reducible assumption | (simp only [xl, xt, xe, xa, xb, xm, xg, ne_eq, Int32.reduceToInt] at * <;> omega) | grind))
    · skip
      refine ok_gq (2000 : Int32) (by decide) (by clear hQ9 ih_self33; first | with_reducible assumption | (simp only [xl, xt, xe, xa, xb, xm, xg, ne_eq, Int32.reduceToInt] at * <;> omega) | grind) (by clear hQ9 ih_self33; first | with_reducible assumption | (simp only [xl, xt, xe, xa, xb, xm, xg, ne_eq, Int32.reduceToInt] at * <;> omega) | grind) ?_
      refine ok_bd (s_ByteRow_append (by clear hQ9 ih_self33; first | with_reducible assumption | (simp only [xl, xt, xe, xa, xb, xm, xg, ne_eq, Int32.reduceToInt] at * <;> omega) | grind)) (fun o9 h9 => ?_)
      obtain ⟨cb_count_4, cb_bytes_5⟩ := o9
      try dsimp only at h9
      try dsimp only
      have q_7 := h9
      clear h9
      refine ok_nl (fun v1_6 e_v1_6 => ?_)
      exact ih_self33 (v1_6, cb_count_4, cb_bytes_5) ⟨by clear hQ9 ih_self33; first | with_reducible assumption | (simp only [xl, xt, xe, xa, xb, xm, xg, ne_eq, Int32.reduceToInt] at * <;> omega) | grind, by clear hQ9 ih_self33; first | with_reducible assumption | (simp only [xl, xt, xe, xa, xb, xm, xg, ne_eq, Int32.reduceToInt] at * <;> omega) | grind⟩ (by clear hQ9 ih_self33; (try dsimp only); first | with_reducible assumption | (simp only [xl, xt, xe, xa, xb, xm, xg, ne_eq, Int32.reduceToInt] at * <;> omega) | grind)
  · skip
    exact ok_some (hQ9 _ (by decide))

set_option maxHeartbeats 4000000 in
set_option maxRecDepth 20000 in
theorem s_Top_place {la_count : Int32} {la_symbolOf : (Nat → Int32)} {la_xs : (Nat → Int32)} {la_ys : (Nat → Int32)} {la_ways : (Nat → Int32)} {di_widths : (Nat → Int32)} {di_heights : (Nat → Int32)} {la_differs : (Nat → Int64)} {p0 : Int32} {p1 : Int32} (q_1 : ((0 : Int32) ≤ la_count ∧ la_count ≤ (40 : Int32))) (q_2 : R la_symbolOf (0 : Int32) (15 : Int32)) (q_3 : R la_xs (-8 : Int32) (31 : Int32)) (q_4 : R la_ys (-8 : Int32) (31 : Int32)) (q_5 : R la_ways (0 : Int32) (7 : Int32)) (q_6 : R di_widths (0 : Int32) (8 : Int32)) (q_7 : R di_heights (0 : Int32) (8 : Int32)) : ok (f_Top_place la_count la_symbolOf la_xs la_ys la_ways di_widths di_heights la_differs p0 p1) (fun o => match o with | .inl c => c = "java/lang/IndexOutOfBoundsException" | .inr u => True) := by
  refine ok_Q (fun Q9 hQ9 => ?_)
  unfold f_Top_place
  refine ok_bd (s_Layout_has (by clear hQ9; first | with_reducible assumption | (simp only [xl, xt, xe, xa, xb, xm, xg, ne_eq, Int32.reduceToInt] at * <;> omega) | grind)) (fun o9 h9 => ?_)
  obtain ⟨r_1, rfl⟩ : ∃ z9, z9 = o9 := ⟨_, rfl⟩
  obtain ⟨q_8, q_9⟩ := h9
  refine ok_if (fun q_10 => ?_) (fun q_10 => ?_)
  · skip
    exact ok_some (hQ9 _ (by decide))
  · skip
    refine ok_if (fun q_11 => ?_) (fun q_11 => ?_)
    · skip
      refine ok_gq (40 : Int32) (by decide) (by clear hQ9; first | with_reducible assumption | (simp only [xl, xt, xe, xa, xb, xm, xg, ne_eq, Int32.reduceToInt] at * <;> omega) | grind) (by clear hQ9; first | with_reducible assumption | (simp only [xl, xt, xe, xa, xb, xm, xg, ne_eq, Int32.reduceToInt] at * <;> omega) | grind) ?_
      have q_12 := (by assumption : R la_symbolOf (0 : Int32) (15 : Int32)) (p0).toNatClampNeg
      exact ok_some (hQ9 _ trivial)
    refine ok_if (fun q_13 => ?_) (fun q_13 => ?_)
    · skip
      refine ok_gq (40 : Int32) (by decide) (by clear hQ9; first | with_reducible assumption | (simp only [xl, xt, xe, xa, xb, xm, xg, ne_eq, Int32.reduceToInt] at * <;> omega) | grind) (by clear hQ9; first | with_reducible assumption | (simp only [xl, xt, xe, xa, xb, xm, xg, ne_eq, Int32.reduceToInt] at * <;> omega) | grind) ?_
      have q_14 := (by assumption : R la_xs (-8 : Int32) (31 : Int32)) (p0).toNatClampNeg
      exact ok_some (hQ9 _ trivial)
    refine ok_if (fun q_15 => ?_) (fun q_15 => ?_)
    · skip
      refine ok_gq (40 : Int32) (by decide) (by clear hQ9; first | with_reducible assumption | (simp only [xl, xt, xe, xa, xb, xm, xg, ne_eq, Int32.reduceToInt] at * <;> omega) | grind) (by clear hQ9; first | with_reducible assumption | (simp only [xl, xt, xe, xa, xb, xm, xg, ne_eq, Int32.reduceToInt] at * <;> omega) | grind) ?_
      have q_16 := (by assumption : R la_ys (-8 : Int32) (31 : Int32)) (p0).toNatClampNeg
      exact ok_some (hQ9 _ trivial)
    refine ok_if (fun q_17 => ?_) (fun q_17 => ?_)
    · skip
      refine ok_bd (s_Layout_cornerS (by assumption) (by assumption) (by assumption) (by assumption) (by assumption) (by assumption) (by clear hQ9; first | with_reducible assumption | (simp only [xl, xt, xe, xa, xb, xm, xg, ne_eq, Int32.reduceToInt] at * <;> omega) | grind)) (fun o9 h9 => ?_)
      obtain ⟨r_2, rfl⟩ : ∃ z9, z9 = o9 := ⟨_, rfl⟩
      have q_18 := h9
      clear h9
      exact ok_some (hQ9 _ trivial)
    refine ok_if (fun q_19 => ?_) (fun q_19 => ?_)
    · skip
      refine ok_bd (s_Layout_cornerT (by assumption) (by assumption) (by assumption) (by assumption) (by assumption) (by assumption) (by clear hQ9; first | with_reducible assumption | (simp only [xl, xt, xe, xa, xb, xm, xg, ne_eq, Int32.reduceToInt] at * <;> omega) | grind)) (fun o9 h9 => ?_)
      obtain ⟨r_3, rfl⟩ : ∃ z9, z9 = o9 := ⟨_, rfl⟩
      have q_20 := h9
      clear h9
      exact ok_some (hQ9 _ trivial)
    refine ok_if (fun q_21 => ?_) (fun q_21 => ?_)
    · skip
      refine ok_bd (s_Layout_strip (by assumption) (by assumption) (by assumption) (by assumption) (by assumption) (by assumption) (by clear hQ9; first | with_reducible assumption | (simp only [xl, xt, xe, xa, xb, xm, xg, ne_eq, Int32.reduceToInt] at * <;> omega) | grind)) (fun o9 h9 => ?_)
      obtain ⟨r_4, rfl⟩ : ∃ z9, z9 = o9 := ⟨_, rfl⟩
      have q_22 := h9
      clear h9
      exact ok_some (hQ9 _ trivial)
    refine ok_if (fun q_23 => ?_) (fun q_23 => ?_)
    · skip
      refine ok_gq (40 : Int32) (by decide) (by clear hQ9; first | with_reducible assumption | (simp only [xl, xt, xe, xa, xb, xm, xg, ne_eq, Int32.reduceToInt] at * <;> omega) | grind) (by clear hQ9; first | with_reducible assumption | (simp only [xl, xt, xe, xa, xb, xm, xg, ne_eq, Int32.reduceToInt] at * <;> omega) | grind) ?_
      refine ok_bd (s_Long_bitCount) (fun o9 h9 => ?_)
      obtain ⟨r_5, rfl⟩ : ∃ z9, z9 = o9 := ⟨_, rfl⟩
      exact ok_some (hQ9 _ trivial)
    exact ok_some (hQ9 _ trivial)

set_option maxHeartbeats 4000000 in
set_option maxRecDepth 20000 in
theorem s_Top_told {tr_kind : Int32} {tr_refusedAt : Int32} {pg_width : Int32} {pg_height : Int32} {di_count : Int32} {la_count : Int32} {tb_count : Int32} {cb_count : Int32} {p0 : Int32} (q_1 : ((0 : Int32) ≤ tr_kind ∧ tr_kind ≤ (1 : Int32))) (q_2 : ((1 : Int32) ≤ pg_width ∧ pg_width ≤ (24 : Int32))) (q_3 : ((1 : Int32) ≤ pg_height ∧ pg_height ≤ (24 : Int32))) (q_4 : ((0 : Int32) ≤ di_count ∧ di_count ≤ (16 : Int32))) (q_5 : ((0 : Int32) ≤ la_count ∧ la_count ≤ (40 : Int32))) (q_6 : ((0 : Int32) ≤ tb_count ∧ tb_count ≤ (2000 : Int32))) (q_7 : ((0 : Int32) ≤ cb_count ∧ cb_count ≤ (2000 : Int32))) : ok (f_Top_told tr_kind tr_refusedAt pg_width pg_height di_count la_count tb_count cb_count p0) (fun o => True) := by
  refine ok_Q (fun Q9 hQ9 => ?_)
  unfold f_Top_told
  refine ok_if (fun q_8 => ?_) (fun q_8 => ?_)
  · skip
    exact ok_some (hQ9 _ trivial)
  refine ok_if (fun q_9 => ?_) (fun q_9 => ?_)
  · skip
    exact ok_some (hQ9 _ trivial)
  refine ok_if (fun q_10 => ?_) (fun q_10 => ?_)
  · skip
    exact ok_some (hQ9 _ trivial)
  refine ok_if (fun q_11 => ?_) (fun q_11 => ?_)
  · skip
    exact ok_some (hQ9 _ trivial)
  refine ok_if (fun q_12 => ?_) (fun q_12 => ?_)
  · skip
    exact ok_some (hQ9 _ trivial)
  refine ok_if (fun q_13 => ?_) (fun q_13 => ?_)
  · skip
    exact ok_some (hQ9 _ trivial)
  refine ok_if (fun q_14 => ?_) (fun q_14 => ?_)
  · skip
    exact ok_some (hQ9 _ trivial)
  refine ok_if (fun q_15 => ?_) (fun q_15 => ?_)
  · skip
    exact ok_some (hQ9 _ trivial)
  exact ok_some (hQ9 _ trivial)

set_option maxHeartbeats 4000000 in
set_option maxRecDepth 20000 in
theorem s_Top_clear {la_ways : (Nat → Int32)} {n_pg_dark : Nat} {pg_dark : (Nat → Int32)} {N9 : Int32} (hn9 : (n_pg_dark : Int) = N9.toInt) (hN9 : 0 ≤ N9 ∧ N9 ≤ 576) (q_1 : R la_ways (0 : Int32) (7 : Int32)) (q_2 : R pg_dark (0 : Int32) (1 : Int32)) : ok (f_Top_clear la_ways n_pg_dark pg_dark) (fun o => ((0 : Int32) ≤ o.1 ∧ o.1 ≤ (16 : Int32)) ∧ ((0 : Int32) ≤ o.2.1 ∧ o.2.1 ≤ (40 : Int32)) ∧ R o.2.2.1 (0 : Int32) (7 : Int32) ∧ ((0 : Int32) ≤ o.2.2.2.1 ∧ o.2.2.2.1 ≤ (2000 : Int32)) ∧ ((0 : Int32) ≤ o.2.2.2.2.1 ∧ o.2.2.2.2.1 ≤ (2000 : Int32)) ∧ R o.2.2.2.2.2 (0 : Int32) (1 : Int32)) := by
  refine ok_Q (fun Q9 hQ9 => ?_)
  unfold f_Top_clear
  have q_3 : ((0 : Int32) ≤ (0 : Int32) ∧ (0 : Int32) ≤ (16 : Int32)) := by clear hQ9; first | with_reducible assumption | (simp only [xl, xt, xe, xa, xb, xm, xg, ne_eq, Int32.reduceToInt] at * <;> omega) | grind
  refine ok_bd (s_Layout_empty (by assumption)) (fun o9 h9 => ?_)
  obtain ⟨la_count_1, la_ways_2⟩ := o9
  try dsimp only at h9
  try dsimp only
  obtain ⟨q_4, q_5⟩ := h9
  have q_6 : ((0 : Int32) ≤ (0 : Int32) ∧ (0 : Int32) ≤ (2000 : Int32)) := by clear hQ9; first | with_reducible assumption | (simp only [xl, xt, xe, xa, xb, xm, xg, ne_eq, Int32.reduceToInt] at * <;> omega) | grind
  have q_7 : ((0 : Int32) ≤ (0 : Int32) ∧ (0 : Int32) ≤ (2000 : Int32)) := by clear hQ9; first | with_reducible assumption | (simp only [xl, xt, xe, xa, xb, xm, xg, ne_eq, Int32.reduceToInt] at * <;> omega) | grind
  refine ok_bd (s_Page_lighten hn9 hN9 (by assumption)) (fun o9 h9 => ?_)
  obtain ⟨pg_dark_3, rfl⟩ : ∃ z9, z9 = o9 := ⟨_, rfl⟩
  have q_8 := h9
  clear h9
  exact ok_some (hQ9 _ ⟨by clear hQ9; first | with_reducible assumption | (simp only [xl, xt, xe, xa, xb, xm, xg, ne_eq, Int32.reduceToInt] at * <;> omega) | grind, by clear hQ9; first | with_reducible assumption | (simp only [xl, xt, xe, xa, xb, xm, xg, ne_eq, Int32.reduceToInt] at * <;> omega) | grind, by assumption, by clear hQ9; first | with_reducible assumption | (simp only [xl, xt, xe, xa, xb, xm, xg, ne_eq, Int32.reduceToInt] at * <;> omega) | grind, by clear hQ9; first | with_reducible assumption | (simp only [xl, xt, xe, xa, xb, xm, xg, ne_eq, Int32.reduceToInt] at * <;> omega) | grind, by assumption⟩)

set_option maxHeartbeats 4000000 in
set_option maxRecDepth 20000 in
theorem s_Top_changeNeighbours_C {la_count : Int32} {tb_count : Int32} {tb_bytes : (Nat → Int32)} {la_ways : (Nat → Int32)} {di_count : Int32} {na_lengths : (Nat → Int32)} {la_sequence : (Nat → Int32)} {la_symbolOf : (Nat → Int32)} {la_xs : (Nat → Int32)} {di_widths : (Nat → Int32)} {la_ys : (Nat → Int32)} {di_heights : (Nat → Int32)} {na_codes : (Nat → Int32)} {la_differs : (Nat → Int64)} (q_1 : ((0 : Int32) ≤ la_count ∧ la_count ≤ (40 : Int32))) (q_2 : ((0 : Int32) ≤ tb_count ∧ tb_count ≤ (2000 : Int32))) (q_3 : R la_ways (0 : Int32) (7 : Int32)) (q_4 : ((0 : Int32) ≤ di_count ∧ di_count ≤ (16 : Int32))) (q_5 : R na_lengths (0 : Int32) (15 : Int32)) (q_6 : R la_sequence (0 : Int32) (39 : Int32)) (q_7 : R la_symbolOf (0 : Int32) (15 : Int32)) (q_8 : R la_xs (-8 : Int32) (31 : Int32)) (q_9 : R di_widths (0 : Int32) (8 : Int32)) (q_10 : R la_ys (-8 : Int32) (31 : Int32)) (q_11 : R di_heights (0 : Int32) (8 : Int32)) : ok (f_Top_changeNeighbours_C la_count tb_count tb_bytes la_ways di_count na_lengths la_sequence la_symbolOf la_xs di_widths la_ys di_heights na_codes la_differs) (fun o => ((0 : Int32) ≤ o.1 ∧ o.1 ≤ (1 : Int32)) ∧ ((0 : Int32) ≤ o.2.1 ∧ o.2.1 ≤ (1 : Int32)) ∧ ((0 : Int32) ≤ o.2.2.1 ∧ o.2.2.1 ≤ (1000000 : Int32)) ∧ ((0 : Int32) ≤ o.2.2.2.1 ∧ o.2.2.2.1 ≤ (2000 : Int32)) ∧ R o.2.2.2.2.2.1 (0 : Int32) (15 : Int32) ∧ R o.2.2.2.2.2.2.1 (-8 : Int32) (31 : Int32) ∧ R o.2.2.2.2.2.2.2.1 (-8 : Int32) (31 : Int32)) := by
  refine ok_Q (fun Q9 hQ9 => ?_)
  unfold f_Top_changeNeighbours_C
  refine ok_bd (s_Teller_tellAll_C (by clear hQ9; first | with_reducible assumption | (simp only [xl, xt, xe, xa, xb, xm, xg, ne_eq, Int32.reduceToInt] at * <;> omega) | grind) (by clear hQ9; first | with_reducible assumption | (simp only [xl, xt, xe, xa, xb, xm, xg, ne_eq, Int32.reduceToInt] at * <;> omega) | grind) (by assumption) (by clear hQ9; first | with_reducible assumption | (simp only [xl, xt, xe, xa, xb, xm, xg, ne_eq, Int32.reduceToInt] at * <;> omega) | grind) (by assumption) (by assumption) (by assumption) (by assumption) (by assumption) (by assumption) (by assumption) (by clear hQ9; first | with_reducible assumption | (simp only [xl, xt, xe, xa, xb, xm, xg, ne_eq, Int32.reduceToInt] at * <;> omega) | grind)) (fun o9 h9 => ?_)
  obtain ⟨r_1, wr_keeping_2, wr_count_3, tb_count_4, tb_bytes_5⟩ := o9
  try dsimp only at h9
  try dsimp only
  obtain ⟨q_12, q_13, q_14⟩ := h9
  refine ok_lp (fun s9 => ((0 : Int32) ≤ s9.1 ∧ s9.1 ≤ (40 : Int32)) ∧ ((0 : Int32) ≤ s9.2.2.1 ∧ s9.2.2.1 ≤ (1 : Int32)) ∧ ((0 : Int32) ≤ s9.2.2.2.1 ∧ s9.2.2.2.1 ≤ (1 : Int32)) ∧ ((0 : Int32) ≤ s9.2.2.2.2.1 ∧ s9.2.2.2.2.1 ≤ (1000000 : Int32)) ∧ ((0 : Int32) ≤ s9.2.2.2.2.2.1 ∧ s9.2.2.2.2.2.1 ≤ (2000 : Int32)) ∧ R s9.2.2.2.2.2.2.2.1 (0 : Int32) (15 : Int32) ∧ R s9.2.2.2.2.2.2.2.2.1 (-8 : Int32) (31 : Int32) ∧ R s9.2.2.2.2.2.2.2.2.2.1 (-8 : Int32) (31 : Int32)) (fun s9 => 40 - s9.1) ⟨by clear hQ9; first | with_reducible assumption | (simp only [xl, xt, xe, xa, xb, xm, xg, ne_eq, Int32.reduceToInt] at * <;> omega) | grind, by clear hQ9; first | with_reducible assumption | (simp only [xl, xt, xe, xa, xb, xm, xg, ne_eq, Int32.reduceToInt] at * <;> omega) | grind, by clear hQ9; first | with_reducible assumption | (simp only [xl, xt, xe, xa, xb, xm, xg, ne_eq, Int32.reduceToInt] at * <;> omega) | grind, by clear hQ9; first | with_reducible assumption | (simp only [xl, xt, xe, xa, xb, xm, xg, ne_eq, Int32.reduceToInt] at * <;> omega) | grind, by clear hQ9; first | with_reducible assumption | (simp only [xl, xt, xe, xa, xb, xm, xg, ne_eq, Int32.reduceToInt] at * <;> omega) | grind, by assumption, by assumption, by assumption⟩ ?_ ?_
  · intro s9 hs9; obtain ⟨v3_6, v2_7, v1_8, wr_keeping_9, wr_count_10, tb_count_11, tb_bytes_12, la_symbolOf_13, la_xs_14, la_ys_15, la_differs_16⟩ := s9; try dsimp only at hs9; obtain ⟨q_15, q_16, q_17, q_18, q_19, q_20, q_21, q_22⟩ := hs9; exact ⟨by clear hQ9; (try dsimp only); first | with_reducible assumption | (simp only [xl, xt, xe, xa, xb, xm, xg, ne_eq, Int32.reduceToInt] at * <;> omega) | grind, by clear hQ9; (try dsimp only); first | with_reducible assumption | (simp only [xl, xt, xe, xa, xb, xm, xg, ne_eq, Int32.reduceToInt] at * <;> omega) | grind⟩
  intro self17 s9 hs9 ih_self17
  obtain ⟨v3_6, v2_7, v1_8, wr_keeping_9, wr_count_10, tb_count_11, tb_bytes_12, la_symbolOf_13, la_xs_14, la_ys_15, la_differs_16⟩ := s9; try dsimp only at hs9; obtain ⟨q_15, q_16, q_17, q_18, q_19, q_20, q_21, q_22⟩ := hs9
  unfold f_Top_changeNeighbours_C_L17
  try dsimp only
  try dsimp only at ih_self17
  refine ok_if (fun q_23 => ?_) (fun q_23 => ?_)
  · skip
    refine ok_bz (by clear hQ9 ih_self17; first | with_reducible assumption | (simp only [xl, xt, xe, xa, xb, xm, xg, ne_eq, Int32.reduceToInt] at * <;> omega) | grind) ?_
    exact ok_some (hQ9 _ ⟨by clear hQ9 ih_self17; first | with_reducible assumption | (simp only [xl, xt, xe, xa, xb, xm, xg, ne_eq, Int32.reduceToInt] at * <;> omega) | grind, by clear hQ9 ih_self17; first | with_reducible assumption | (simp only [xl, xt, xe, xa, xb, xm, xg, ne_eq, Int32.reduceToInt] at * <;> omega) | grind, by clear hQ9 ih_self17; first | with_reducible assumption | (simp only [xl, xt, xe, xa, xb, xm, xg, ne_eq, Int32.reduceToInt] at * <;> omega) | grind, by clear hQ9 ih_self17; first | with_reducible assumption | (simp only [xl, xt, xe, xa, xb, xm, xg, ne_eq, Int32.reduceToInt] at * <;> omega) | grind, by assumption, by assumption, by assumption⟩)
  · skip
    refine ok_bd (s_Layout_strip (by assumption) (by assumption) (by assumption) (by assumption) (by assumption) (by assumption) (by clear hQ9 ih_self17; first | with_reducible assumption | (simp only [xl, xt, xe, xa, xb, xm, xg, ne_eq, Int32.reduceToInt] at * <;> omega) | grind)) (fun o9 h9 => ?_)
    obtain ⟨r_17, rfl⟩ : ∃ z9, z9 = o9 := ⟨_, rfl⟩
    have q_24 := h9
    clear h9
    refine ok_bd (s_Layout_strip (by assumption) (by assumption) (by assumption) (by assumption) (by assumption) (by assumption) (by clear hQ9 ih_self17; first | with_reducible assumption | (simp only [xl, xt, xe, xa, xb, xm, xg, ne_eq, Int32.reduceToInt] at * <;> omega) | grind)) (fun o9 h9 => ?_)
    obtain ⟨r_18, rfl⟩ : ∃ z9, z9 = o9 := ⟨_, rfl⟩
    have q_25 := h9
    clear h9
    refine ok_jn (fun j9 => ∀ (v2_19 : Int32) (v1_20 : Int32) (wr_keeping_21 : Int32) (wr_count_22 : Int32) (tb_count_23 : Int32) (tb_bytes_24 : (Nat → Int32)) (la_symbolOf_25 : (Nat → Int32)) (la_xs_26 : (Nat → Int32)) (la_ys_27 : (Nat → Int32)) (la_differs_28 : (Nat → Int64)), ((0 : Int32) ≤ v1_20 ∧ v1_20 ≤ (1 : Int32)) → ((0 : Int32) ≤ wr_keeping_21 ∧ wr_keeping_21 ≤ (1 : Int32)) → ((0 : Int32) ≤ wr_count_22 ∧ wr_count_22 ≤ (1000000 : Int32)) → ((0 : Int32) ≤ tb_count_23 ∧ tb_count_23 ≤ (2000 : Int32)) → R la_symbolOf_25 (0 : Int32) (15 : Int32) → R la_xs_26 (-8 : Int32) (31 : Int32) → R la_ys_27 (-8 : Int32) (31 : Int32) → ok (j9 v2_19 v1_20 wr_keeping_21 wr_count_22 tb_count_23 tb_bytes_24 la_symbolOf_25 la_xs_26 la_ys_27 la_differs_28) Q9) ?_ (fun j95 h_j95 => ?_)
    · intro v2_19 v1_20 wr_keeping_21 wr_count_22 tb_count_23 tb_bytes_24 la_symbolOf_25 la_xs_26 la_ys_27 la_differs_28 q_26 q_27 q_28 q_29 q_30 q_31 q_32
      refine ok_nl (fun v3_29 e_v3_29 => ?_)
      exact ih_self17 (v3_29, v2_19, v1_20, wr_keeping_21, wr_count_22, tb_count_23, tb_bytes_24, la_symbolOf_25, la_xs_26, la_ys_27, la_differs_28) ⟨by clear hQ9 ih_self17; first | with_reducible assumption | (simp only [xl, xt, xe, xa, xb, xm, xg, ne_eq, Int32.reduceToInt] at * <;> omega) | grind, by clear hQ9 ih_self17; first | with_reducible assumption | (simp only [xl, xt, xe, xa, xb, xm, xg, ne_eq, Int32.reduceToInt] at * <;> omega) | grind, by clear hQ9 ih_self17; first | with_reducible assumption | (simp only [xl, xt, xe, xa, xb, xm, xg, ne_eq, Int32.reduceToInt] at * <;> omega) | grind, by clear hQ9 ih_self17; first | with_reducible assumption | (simp only [xl, xt, xe, xa, xb, xm, xg, ne_eq, Int32.reduceToInt] at * <;> omega) | grind, by clear hQ9 ih_self17; first | with_reducible assumption | (simp only [xl, xt, xe, xa, xb, xm, xg, ne_eq, Int32.reduceToInt] at * <;> omega) | grind, by assumption, by assumption, by assumption⟩ (by clear hQ9 ih_self17; (try dsimp only); first | with_reducible assumption | (simp only [xl, xt, xe, xa, xb, xm, xg, ne_eq, Int32.reduceToInt] at * <;> omega) | grind)
    refine ok_if (fun q_33 => ?_) (fun q_33 => ?_)
    · skip
      refine ok_bd (s_Layout_swapWithNext (by assumption) (by assumption) (by assumption) (by clear hQ9 ih_self17 h_j95; first | with_reducible assumption | (simp only [xl, xt, xe, xa, xb, xm, xg, ne_eq, Int32.reduceToInt] at * <;> omega) | grind)) (fun o9 h9 => ?_)
      obtain ⟨la_symbolOf_30, la_xs_31, la_ys_32, la_differs_33⟩ := o9
      try dsimp only at h9
      try dsimp only
      obtain ⟨q_34, q_35, q_36⟩ := h9
      refine ok_bd (s_Teller_tellAll_C (by clear hQ9 ih_self17 h_j95; first | with_reducible assumption | (simp only [xl, xt, xe, xa, xb, xm, xg, ne_eq, Int32.reduceToInt] at * <;> omega) | grind) (by clear hQ9 ih_self17 h_j95; first | with_reducible assumption | (simp only [xl, xt, xe, xa, xb, xm, xg, ne_eq, Int32.reduceToInt] at * <;> omega) | grind) (by assumption) (by clear hQ9 ih_self17 h_j95; first | with_reducible assumption | (simp only [xl, xt, xe, xa, xb, xm, xg, ne_eq, Int32.reduceToInt] at * <;> omega) | grind) (by assumption) (by assumption) (by assumption) (by assumption) (by assumption) (by assumption) (by assumption) (by clear hQ9 ih_self17 h_j95; first | with_reducible assumption | (simp only [xl, xt, xe, xa, xb, xm, xg, ne_eq, Int32.reduceToInt] at * <;> omega) | grind)) (fun o9 h9 => ?_)
      obtain ⟨r_34, wr_keeping_35, wr_count_36, tb_count_37, tb_bytes_38⟩ := o9
      try dsimp only at h9
      try dsimp only
      obtain ⟨q_37, q_38, q_39⟩ := h9
      refine ok_if (fun q_40 => ?_) (fun q_40 => ?_)
      · skip
        refine ok_bd (s_Layout_swapWithNext (by assumption) (by assumption) (by assumption) (by clear hQ9 ih_self17 h_j95; first | with_reducible assumption | (simp only [xl, xt, xe, xa, xb, xm, xg, ne_eq, Int32.reduceToInt] at * <;> omega) | grind)) (fun o9 h9 => ?_)
        obtain ⟨la_symbolOf_39, la_xs_40, la_ys_41, la_differs_42⟩ := o9
        try dsimp only at h9
        try dsimp only
        obtain ⟨q_41, q_42, q_43⟩ := h9
        exact h_j95 _ _ _ _ _ _ _ _ _ _ (by clear hQ9 ih_self17 h_j95; first | with_reducible assumption | (simp only [xl, xt, xe, xa, xb, xm, xg, ne_eq, Int32.reduceToInt] at * <;> omega) | grind) (by clear hQ9 ih_self17 h_j95; first | with_reducible assumption | (simp only [xl, xt, xe, xa, xb, xm, xg, ne_eq, Int32.reduceToInt] at * <;> omega) | grind) (by clear hQ9 ih_self17 h_j95; first | with_reducible assumption | (simp only [xl, xt, xe, xa, xb, xm, xg, ne_eq, Int32.reduceToInt] at * <;> omega) | grind) (by clear hQ9 ih_self17 h_j95; first | with_reducible assumption | (simp only [xl, xt, xe, xa, xb, xm, xg, ne_eq, Int32.reduceToInt] at * <;> omega) | grind) (by assumption) (by assumption) (by assumption)
      · skip
        exact h_j95 _ _ _ _ _ _ _ _ _ _ (by clear hQ9 ih_self17 h_j95; first | with_reducible assumption | (simp only [xl, xt, xe, xa, xb, xm, xg, ne_eq, Int32.reduceToInt] at * <;> omega) | grind) (by clear hQ9 ih_self17 h_j95; first | with_reducible assumption | (simp only [xl, xt, xe, xa, xb, xm, xg, ne_eq, Int32.reduceToInt] at * <;> omega) | grind) (by clear hQ9 ih_self17 h_j95; first | with_reducible assumption | (simp only [xl, xt, xe, xa, xb, xm, xg, ne_eq, Int32.reduceToInt] at * <;> omega) | grind) (by clear hQ9 ih_self17 h_j95; first | with_reducible assumption | (simp only [xl, xt, xe, xa, xb, xm, xg, ne_eq, Int32.reduceToInt] at * <;> omega) | grind) (by assumption) (by assumption) (by assumption)
    · skip
      exact h_j95 _ _ _ _ _ _ _ _ _ _ (by clear hQ9 ih_self17 h_j95; first | with_reducible assumption | (simp only [xl, xt, xe, xa, xb, xm, xg, ne_eq, Int32.reduceToInt] at * <;> omega) | grind) (by clear hQ9 ih_self17 h_j95; first | with_reducible assumption | (simp only [xl, xt, xe, xa, xb, xm, xg, ne_eq, Int32.reduceToInt] at * <;> omega) | grind) (by clear hQ9 ih_self17 h_j95; first | with_reducible assumption | (simp only [xl, xt, xe, xa, xb, xm, xg, ne_eq, Int32.reduceToInt] at * <;> omega) | grind) (by clear hQ9 ih_self17 h_j95; first | with_reducible assumption | (simp only [xl, xt, xe, xa, xb, xm, xg, ne_eq, Int32.reduceToInt] at * <;> omega) | grind) (by assumption) (by assumption) (by assumption)

set_option maxHeartbeats 4000000 in
set_option maxRecDepth 20000 in
theorem s_Top_order_C {la_count : Int32} {la_ways : (Nat → Int32)} {la_ys : (Nat → Int32)} {la_symbolOf : (Nat → Int32)} {di_count : Int32} {di_heights : (Nat → Int32)} {la_xs : (Nat → Int32)} {di_widths : (Nat → Int32)} {la_sequence : (Nat → Int32)} {na_weights : (Nat → Int32)} {na_joinedTo : (Nat → Int32)} {na_lengths : (Nat → Int32)} {na_codes : (Nat → Int32)} {wr_keeping : Int32} {wr_count : Int32} {tb_count : Int32} {tb_bytes : (Nat → Int32)} {la_differs : (Nat → Int64)} {p0 : Int32} (q_1 : ((0 : Int32) ≤ la_count ∧ la_count ≤ (40 : Int32))) (q_2 : R la_ways (0 : Int32) (7 : Int32)) (q_3 : R la_ys (-8 : Int32) (31 : Int32)) (q_4 : R la_symbolOf (0 : Int32) (15 : Int32)) (q_5 : ((0 : Int32) ≤ di_count ∧ di_count ≤ (16 : Int32))) (q_6 : R di_heights (0 : Int32) (8 : Int32)) (q_7 : R la_xs (-8 : Int32) (31 : Int32)) (q_8 : R di_widths (0 : Int32) (8 : Int32)) (q_9 : R la_sequence (0 : Int32) (39 : Int32)) (q_10 : R na_joinedTo (-1 : Int32) (31 : Int32)) (q_11 : R na_lengths (0 : Int32) (15 : Int32)) (q_12 : ((0 : Int32) ≤ wr_keeping ∧ wr_keeping ≤ (1 : Int32))) (q_13 : ((0 : Int32) ≤ wr_count ∧ wr_count ≤ (1000000 : Int32))) (q_14 : ((0 : Int32) ≤ tb_count ∧ tb_count ≤ (2000 : Int32))) : ok (f_Top_order_C la_count la_ways la_ys la_symbolOf di_count di_heights la_xs di_widths la_sequence na_weights na_joinedTo na_lengths na_codes wr_keeping wr_count tb_count tb_bytes la_differs p0) (fun o => match o with | .inl c => c = "java/lang/IllegalArgumentException" | .inr u => R u.2.1 (-8 : Int32) (31 : Int32) ∧ R u.2.2.1 (0 : Int32) (15 : Int32) ∧ R u.2.2.2.1 (-8 : Int32) (31 : Int32) ∧ R u.2.2.2.2.1 (0 : Int32) (39 : Int32) ∧ R u.2.2.2.2.2.2.1 (-1 : Int32) (31 : Int32) ∧ R u.2.2.2.2.2.2.2.1 (0 : Int32) (15 : Int32) ∧ ((0 : Int32) ≤ u.2.2.2.2.2.2.2.2.2.1 ∧ u.2.2.2.2.2.2.2.2.2.1 ≤ (1 : Int32)) ∧ ((0 : Int32) ≤ u.2.2.2.2.2.2.2.2.2.2.1 ∧ u.2.2.2.2.2.2.2.2.2.2.1 ≤ (1000000 : Int32)) ∧ ((0 : Int32) ≤ u.2.2.2.2.2.2.2.2.2.2.2.1 ∧ u.2.2.2.2.2.2.2.2.2.2.2.1 ≤ (2000 : Int32))) := by
  refine ok_Q (fun Q9 hQ9 => ?_)
  unfold f_Top_order_C
  refine ok_bd (s_Top_isWithin) (fun o9 h9 => ?_)
  obtain ⟨r_1, rfl⟩ : ∃ z9, z9 = o9 := ⟨_, rfl⟩
  obtain ⟨q_15, q_16⟩ := h9
  refine ok_if (fun q_17 => ?_) (fun q_17 => ?_)
  · skip
    exact ok_some (hQ9 _ (by decide))
  · skip
    refine ok_bd (s_Teller_prepare_C (by clear hQ9; first | with_reducible assumption | (simp only [xl, xt, xe, xa, xb, xm, xg, ne_eq, Int32.reduceToInt] at * <;> omega) | grind) (by assumption) (by assumption) (by assumption) (by clear hQ9; first | with_reducible assumption | (simp only [xl, xt, xe, xa, xb, xm, xg, ne_eq, Int32.reduceToInt] at * <;> omega) | grind) (by assumption) (by assumption) (by assumption) (by assumption) (by assumption) (by assumption)) (fun o9 h9 => ?_)
    obtain ⟨la_sequence_2, na_weights_3, na_joinedTo_4, na_lengths_5, na_codes_6⟩ := o9
    try dsimp only at h9
    try dsimp only
    obtain ⟨q_18, q_19, q_20⟩ := h9
    refine ok_gq (4 : Int32) (by decide) (by clear hQ9; first | with_reducible assumption | (simp only [xl, xt, xe, xa, xb, xm, xg, ne_eq, Int32.reduceToInt] at * <;> omega) | grind) (by clear hQ9; first | with_reducible assumption | (simp only [xl, xt, xe, xa, xb, xm, xg, ne_eq, Int32.reduceToInt] at * <;> omega) | grind) ?_
    have q_21 := (by assumption : R la_ways (0 : Int32) (7 : Int32)) ((3 : Int32)).toNatClampNeg
    refine ok_jn (fun j9 => ∀ (la_ys_7 : (Nat → Int32)) (la_symbolOf_8 : (Nat → Int32)) (la_xs_9 : (Nat → Int32)) (wr_keeping_10 : Int32) (wr_count_11 : Int32) (tb_count_12 : Int32) (tb_bytes_13 : (Nat → Int32)) (la_differs_14 : (Nat → Int64)), R la_ys_7 (-8 : Int32) (31 : Int32) → R la_symbolOf_8 (0 : Int32) (15 : Int32) → R la_xs_9 (-8 : Int32) (31 : Int32) → ((0 : Int32) ≤ wr_keeping_10 ∧ wr_keeping_10 ≤ (1 : Int32)) → ((0 : Int32) ≤ wr_count_11 ∧ wr_count_11 ≤ (1000000 : Int32)) → ((0 : Int32) ≤ tb_count_12 ∧ tb_count_12 ≤ (2000 : Int32)) → ok (j9 la_ys_7 la_symbolOf_8 la_xs_9 wr_keeping_10 wr_count_11 tb_count_12 tb_bytes_13 la_differs_14) Q9) ?_ (fun j68 h_j68 => ?_)
    · intro la_ys_7 la_symbolOf_8 la_xs_9 wr_keeping_10 wr_count_11 tb_count_12 tb_bytes_13 la_differs_14 q_22 q_23 q_24 q_25 q_26 q_27
      refine ok_bd (s_Teller_tellAll_C (by clear hQ9; first | with_reducible assumption | (simp only [xl, xt, xe, xa, xb, xm, xg, ne_eq, Int32.reduceToInt] at * <;> omega) | grind) (by clear hQ9; first | with_reducible assumption | (simp only [xl, xt, xe, xa, xb, xm, xg, ne_eq, Int32.reduceToInt] at * <;> omega) | grind) (by assumption) (by clear hQ9; first | with_reducible assumption | (simp only [xl, xt, xe, xa, xb, xm, xg, ne_eq, Int32.reduceToInt] at * <;> omega) | grind) (by assumption) (by assumption) (by assumption) (by assumption) (by assumption) (by assumption) (by assumption) (by clear hQ9; first | with_reducible assumption | (simp only [xl, xt, xe, xa, xb, xm, xg, ne_eq, Int32.reduceToInt] at * <;> omega) | grind)) (fun o9 h9 => ?_)
      obtain ⟨r_15, wr_keeping_16, wr_count_17, tb_count_18, tb_bytes_19⟩ := o9
      try dsimp only at h9
      try dsimp only
      obtain ⟨q_28, q_29, q_30⟩ := h9
      exact ok_some (hQ9 _ ⟨by assumption, by assumption, by assumption, by assumption, by assumption, by assumption, by clear hQ9; first | with_reducible assumption | (simp only [xl, xt, xe, xa, xb, xm, xg, ne_eq, Int32.reduceToInt] at * <;> omega) | grind, by clear hQ9; first | with_reducible assumption | (simp only [xl, xt, xe, xa, xb, xm, xg, ne_eq, Int32.reduceToInt] at * <;> omega) | grind, by clear hQ9; first | with_reducible assumption | (simp only [xl, xt, xe, xa, xb, xm, xg, ne_eq, Int32.reduceToInt] at * <;> omega) | grind⟩)
    refine ok_if (fun q_31 => ?_) (fun q_31 => ?_)
    · skip
      exact h_j68 _ _ _ _ _ _ _ _ (by assumption) (by assumption) (by assumption) (by clear hQ9 h_j68; first | with_reducible assumption | (simp only [xl, xt, xe, xa, xb, xm, xg, ne_eq, Int32.reduceToInt] at * <;> omega) | grind) (by clear hQ9 h_j68; first | with_reducible assumption | (simp only [xl, xt, xe, xa, xb, xm, xg, ne_eq, Int32.reduceToInt] at * <;> omega) | grind) (by clear hQ9 h_j68; first | with_reducible assumption | (simp only [xl, xt, xe, xa, xb, xm, xg, ne_eq, Int32.reduceToInt] at * <;> omega) | grind)
    · skip
      refine ok_lp (fun s9 => ((0 : Int32) ≤ s9.1 ∧ s9.1 ≤ (8 : Int32)) ∧ ((0 : Int32) ≤ s9.2.1 ∧ s9.2.1 ≤ (1 : Int32)) ∧ R s9.2.2.1 (-8 : Int32) (31 : Int32) ∧ R s9.2.2.2.1 (0 : Int32) (15 : Int32) ∧ R s9.2.2.2.2.1 (-8 : Int32) (31 : Int32) ∧ ((0 : Int32) ≤ s9.2.2.2.2.2.1 ∧ s9.2.2.2.2.2.1 ≤ (1 : Int32)) ∧ ((0 : Int32) ≤ s9.2.2.2.2.2.2.1 ∧ s9.2.2.2.2.2.2.1 ≤ (1000000 : Int32)) ∧ ((0 : Int32) ≤ s9.2.2.2.2.2.2.2.1 ∧ s9.2.2.2.2.2.2.2.1 ≤ (2000 : Int32))) (fun s9 => 8 - s9.1) ⟨by clear hQ9 h_j68; first | with_reducible assumption | (simp only [xl, xt, xe, xa, xb, xm, xg, ne_eq, Int32.reduceToInt] at * <;> omega) | grind, by clear hQ9 h_j68; first | with_reducible assumption | (simp only [xl, xt, xe, xa, xb, xm, xg, ne_eq, Int32.reduceToInt] at * <;> omega) | grind, by assumption, by assumption, by assumption, by clear hQ9 h_j68; first | with_reducible assumption | (simp only [xl, xt, xe, xa, xb, xm, xg, ne_eq, Int32.reduceToInt] at * <;> omega) | grind, by clear hQ9 h_j68; first | with_reducible assumption | (simp only [xl, xt, xe, xa, xb, xm, xg, ne_eq, Int32.reduceToInt] at * <;> omega) | grind, by clear hQ9 h_j68; first | with_reducible assumption | (simp only [xl, xt, xe, xa, xb, xm, xg, ne_eq, Int32.reduceToInt] at * <;> omega) | grind⟩ ?_ ?_
      · intro s9 hs9; obtain ⟨v3_20, v2_21, la_ys_22, la_symbolOf_23, la_xs_24, wr_keeping_25, wr_count_26, tb_count_27, tb_bytes_28, la_differs_29⟩ := s9; try dsimp only at hs9; obtain ⟨q_32, q_33, q_34, q_35, q_36, q_37, q_38, q_39⟩ := hs9; exact ⟨by clear hQ9 h_j68; (try dsimp only); first | with_reducible assumption | (simp only [xl, xt, xe, xa, xb, xm, xg, ne_eq, Int32.reduceToInt] at * <;> omega) | grind, by clear hQ9 h_j68; (try dsimp only); first | with_reducible assumption | (simp only [xl, xt, xe, xa, xb, xm, xg, ne_eq, Int32.reduceToInt] at * <;> omega) | grind⟩
      intro self48 s9 hs9 ih_self48
      obtain ⟨v3_20, v2_21, la_ys_22, la_symbolOf_23, la_xs_24, wr_keeping_25, wr_count_26, tb_count_27, tb_bytes_28, la_differs_29⟩ := s9; try dsimp only at hs9; obtain ⟨q_32, q_33, q_34, q_35, q_36, q_37, q_38, q_39⟩ := hs9
      unfold f_Top_order_C_L48
      try dsimp only
      try dsimp only at ih_self48
      refine ok_if (fun q_40 => ?_) (fun q_40 => ?_)
      · skip
        exact h_j68 _ _ _ _ _ _ _ _ (by assumption) (by assumption) (by assumption) (by clear hQ9 h_j68 ih_self48; first | with_reducible assumption | (simp only [xl, xt, xe, xa, xb, xm, xg, ne_eq, Int32.reduceToInt] at * <;> omega) | grind) (by clear hQ9 h_j68 ih_self48; first | with_reducible assumption | (simp only [xl, xt, xe, xa, xb, xm, xg, ne_eq, Int32.reduceToInt] at * <;> omega) | grind) (by clear hQ9 h_j68 ih_self48; first | with_reducible assumption | (simp only [xl, xt, xe, xa, xb, xm, xg, ne_eq, Int32.reduceToInt] at * <;> omega) | grind)
      · skip
        refine ok_if (fun q_41 => ?_) (fun q_41 => ?_)
        · skip
          exact h_j68 _ _ _ _ _ _ _ _ (by assumption) (by assumption) (by assumption) (by clear hQ9 h_j68 ih_self48; first | with_reducible assumption | (simp only [xl, xt, xe, xa, xb, xm, xg, ne_eq, Int32.reduceToInt] at * <;> omega) | grind) (by clear hQ9 h_j68 ih_self48; first | with_reducible assumption | (simp only [xl, xt, xe, xa, xb, xm, xg, ne_eq, Int32.reduceToInt] at * <;> omega) | grind) (by clear hQ9 h_j68 ih_self48; first | with_reducible assumption | (simp only [xl, xt, xe, xa, xb, xm, xg, ne_eq, Int32.reduceToInt] at * <;> omega) | grind)
        · skip
          refine ok_bd (s_Top_changeNeighbours_C (by clear hQ9 h_j68 ih_self48; first | with_reducible assumption | (simp only [xl, xt, xe, xa, xb, xm, xg, ne_eq, Int32.reduceToInt] at * <;> omega) | grind) (by clear hQ9 h_j68 ih_self48; first | with_reducible assumption | (simp only [xl, xt, xe, xa, xb, xm, xg, ne_eq, Int32.reduceToInt] at * <;> omega) | grind) (by assumption) (by clear hQ9 h_j68 ih_self48; first | with_reducible assumption | (simp only [xl, xt, xe, xa, xb, xm, xg, ne_eq, Int32.reduceToInt] at * <;> omega) | grind) (by assumption) (by assumption) (by assumption) (by assumption) (by assumption) (by assumption) (by assumption)) (fun o9 h9 => ?_)
          obtain ⟨r_30, wr_keeping_31, wr_count_32, tb_count_33, tb_bytes_34, la_symbolOf_35, la_xs_36, la_ys_37, la_differs_38⟩ := o9
          try dsimp only at h9
          try dsimp only
          obtain ⟨q_42, q_43, q_44, q_45, q_46, q_47, q_48⟩ := h9
          refine ok_nl (fun v3_39 e_v3_39 => ?_)
          exact ih_self48 (v3_39, r_30, la_ys_37, la_symbolOf_35, la_xs_36, wr_keeping_31, wr_count_32, tb_count_33, tb_bytes_34, la_differs_38) ⟨by clear hQ9 h_j68 ih_self48; first | with_reducible assumption | (simp only [xl, xt, xe, xa, xb, xm, xg, ne_eq, Int32.reduceToInt] at * <;> omega) | grind, by clear hQ9 h_j68 ih_self48; first | with_reducible assumption | (simp only [xl, xt, xe, xa, xb, xm, xg, ne_eq, Int32.reduceToInt] at * <;> omega) | grind, by assumption, by assumption, by assumption, by clear hQ9 h_j68 ih_self48; first | with_reducible assumption | (simp only [xl, xt, xe, xa, xb, xm, xg, ne_eq, Int32.reduceToInt] at * <;> omega) | grind, by clear hQ9 h_j68 ih_self48; first | with_reducible assumption | (simp only [xl, xt, xe, xa, xb, xm, xg, ne_eq, Int32.reduceToInt] at * <;> omega) | grind, by clear hQ9 h_j68 ih_self48; first | with_reducible assumption | (simp only [xl, xt, xe, xa, xb, xm, xg, ne_eq, Int32.reduceToInt] at * <;> omega) | grind⟩ (by clear hQ9 h_j68 ih_self48; (try dsimp only); first | with_reducible assumption | (simp only [xl, xt, xe, xa, xb, xm, xg, ne_eq, Int32.reduceToInt] at * <;> omega) | grind)

set_option maxHeartbeats 4000000 in
set_option maxRecDepth 20000 in
theorem s_Top_write_C {la_count : Int32} {la_ways : (Nat → Int32)} {la_ys : (Nat → Int32)} {la_symbolOf : (Nat → Int32)} {di_count : Int32} {di_heights : (Nat → Int32)} {la_xs : (Nat → Int32)} {di_widths : (Nat → Int32)} {la_sequence : (Nat → Int32)} {na_weights : (Nat → Int32)} {na_joinedTo : (Nat → Int32)} {na_lengths : (Nat → Int32)} {na_codes : (Nat → Int32)} {tb_count : Int32} {tb_bytes : (Nat → Int32)} {la_differs : (Nat → Int64)} (q_1 : ((0 : Int32) ≤ la_count ∧ la_count ≤ (40 : Int32))) (q_2 : R la_ways (0 : Int32) (7 : Int32)) (q_3 : R la_ys (-8 : Int32) (31 : Int32)) (q_4 : R la_symbolOf (0 : Int32) (15 : Int32)) (q_5 : ((0 : Int32) ≤ di_count ∧ di_count ≤ (16 : Int32))) (q_6 : R di_heights (0 : Int32) (8 : Int32)) (q_7 : R la_xs (-8 : Int32) (31 : Int32)) (q_8 : R di_widths (0 : Int32) (8 : Int32)) (q_9 : R la_sequence (0 : Int32) (39 : Int32)) (q_10 : R na_joinedTo (-1 : Int32) (31 : Int32)) (q_11 : R na_lengths (0 : Int32) (15 : Int32)) (q_12 : ((0 : Int32) ≤ tb_count ∧ tb_count ≤ (2000 : Int32))) : ok (f_Top_write_C la_count la_ways la_ys la_symbolOf di_count di_heights la_xs di_widths la_sequence na_weights na_joinedTo na_lengths na_codes tb_count tb_bytes la_differs) (fun o => R o.2.1 (0 : Int32) (39 : Int32) ∧ R o.2.2.2.1 (-1 : Int32) (31 : Int32) ∧ R o.2.2.2.2.1 (0 : Int32) (15 : Int32) ∧ ((0 : Int32) ≤ o.2.2.2.2.2.2.1 ∧ o.2.2.2.2.2.2.1 ≤ (1 : Int32)) ∧ ((0 : Int32) ≤ o.2.2.2.2.2.2.2.1 ∧ o.2.2.2.2.2.2.2.1 ≤ (1000000 : Int32)) ∧ ((0 : Int32) ≤ o.2.2.2.2.2.2.2.2.1 ∧ o.2.2.2.2.2.2.2.2.1 ≤ (2000 : Int32))) := by
  refine ok_Q (fun Q9 hQ9 => ?_)
  unfold f_Top_write_C
  refine ok_bd (s_Teller_prepare_C (by clear hQ9; first | with_reducible assumption | (simp only [xl, xt, xe, xa, xb, xm, xg, ne_eq, Int32.reduceToInt] at * <;> omega) | grind) (by assumption) (by assumption) (by assumption) (by clear hQ9; first | with_reducible assumption | (simp only [xl, xt, xe, xa, xb, xm, xg, ne_eq, Int32.reduceToInt] at * <;> omega) | grind) (by assumption) (by assumption) (by assumption) (by assumption) (by assumption) (by assumption)) (fun o9 h9 => ?_)
  obtain ⟨la_sequence_1, na_weights_2, na_joinedTo_3, na_lengths_4, na_codes_5⟩ := o9
  try dsimp only at h9
  try dsimp only
  obtain ⟨q_13, q_14, q_15⟩ := h9
  refine ok_bd (s_Teller_tellAll_C (by clear hQ9; first | with_reducible assumption | (simp only [xl, xt, xe, xa, xb, xm, xg, ne_eq, Int32.reduceToInt] at * <;> omega) | grind) (by clear hQ9; first | with_reducible assumption | (simp only [xl, xt, xe, xa, xb, xm, xg, ne_eq, Int32.reduceToInt] at * <;> omega) | grind) (by assumption) (by clear hQ9; first | with_reducible assumption | (simp only [xl, xt, xe, xa, xb, xm, xg, ne_eq, Int32.reduceToInt] at * <;> omega) | grind) (by assumption) (by assumption) (by assumption) (by assumption) (by assumption) (by assumption) (by assumption) (by clear hQ9; first | with_reducible assumption | (simp only [xl, xt, xe, xa, xb, xm, xg, ne_eq, Int32.reduceToInt] at * <;> omega) | grind)) (fun o9 h9 => ?_)
  obtain ⟨r_6, wr_keeping_7, wr_count_8, tb_count_9, tb_bytes_10⟩ := o9
  try dsimp only at h9
  try dsimp only
  obtain ⟨q_16, q_17, q_18⟩ := h9
  exact ok_some (hQ9 _ ⟨by assumption, by assumption, by assumption, by clear hQ9; first | with_reducible assumption | (simp only [xl, xt, xe, xa, xb, xm, xg, ne_eq, Int32.reduceToInt] at * <;> omega) | grind, by clear hQ9; first | with_reducible assumption | (simp only [xl, xt, xe, xa, xb, xm, xg, ne_eq, Int32.reduceToInt] at * <;> omega) | grind, by clear hQ9; first | with_reducible assumption | (simp only [xl, xt, xe, xa, xb, xm, xg, ne_eq, Int32.reduceToInt] at * <;> omega) | grind⟩)

set_option maxHeartbeats 4000000 in
set_option maxRecDepth 20000 in
theorem s_Top_read_C {h_la : Nat} {h_sp : Nat} {sp_ways : (Nat → Int32)} {cb_count : Int32} {cb_bytes : (Nat → Int32)} {na_lengths : (Nat → Int32)} {di_count : Int32} {na_codes : (Nat → Int32)} {di_widths : (Nat → Int32)} {di_heights : (Nat → Int32)} {sp_symbolOf : (Nat → Int32)} {sp_xs : (Nat → Int32)} {sp_ys : (Nat → Int32)} {sp_differs : (Nat → Int64)} (q_1 : R sp_ways (0 : Int32) (7 : Int32)) (q_2 : ((0 : Int32) ≤ cb_count ∧ cb_count ≤ (2000 : Int32))) (q_3 : R na_lengths (0 : Int32) (15 : Int32)) (q_4 : ((0 : Int32) ≤ di_count ∧ di_count ≤ (16 : Int32))) (q_5 : R di_widths (0 : Int32) (8 : Int32)) (q_6 : R di_heights (0 : Int32) (8 : Int32)) (q_7 : R sp_symbolOf (0 : Int32) (15 : Int32)) (q_8 : R sp_xs (-8 : Int32) (31 : Int32)) (q_9 : R sp_ys (-8 : Int32) (31 : Int32)) : ok (f_Top_read_C h_la h_sp sp_ways cb_count cb_bytes na_lengths di_count na_codes di_widths di_heights sp_symbolOf sp_xs sp_ys sp_differs) (fun o => ((0 : Int32) ≤ o.2.2.2.2.1 ∧ o.2.2.2.2.1 ≤ (40 : Int32)) ∧ ((0 : Int32) ≤ o.2.2.2.2.2.1 ∧ o.2.2.2.2.2.1 ≤ (16000 : Int32)) ∧ ((0 : Int32) ≤ o.2.2.2.2.2.2.1 ∧ o.2.2.2.2.2.2.1 ≤ (9 : Int32)) ∧ R o.2.2.2.2.2.2.2.1 (0 : Int32) (7 : Int32) ∧ ((0 : Int32) ≤ o.2.2.2.2.2.2.2.2.1 ∧ o.2.2.2.2.2.2.2.2.1 ≤ (2000 : Int32)) ∧ R o.2.2.2.2.2.2.2.2.2.1 (0 : Int32) (15 : Int32) ∧ R o.2.2.2.2.2.2.2.2.2.2.2.1 (0 : Int32) (15 : Int32) ∧ R o.2.2.2.2.2.2.2.2.2.2.2.2.1 (-8 : Int32) (31 : Int32) ∧ R o.2.2.2.2.2.2.2.2.2.2.2.2.2.1 (-8 : Int32) (31 : Int32)) := by
  refine ok_Q (fun Q9 hQ9 => ?_)
  unfold f_Top_read_C
  refine ok_bd (s_Reader_readAll_C (by assumption) (by clear hQ9; first | with_reducible assumption | (simp only [xl, xt, xe, xa, xb, xm, xg, ne_eq, Int32.reduceToInt] at * <;> omega) | grind) (by assumption) (by clear hQ9; first | with_reducible assumption | (simp only [xl, xt, xe, xa, xb, xm, xg, ne_eq, Int32.reduceToInt] at * <;> omega) | grind) (by assumption) (by assumption) (by assumption) (by assumption) (by assumption)) (fun o9 h9 => ?_)
  obtain ⟨r_1, sp_count_2, rd_place_3, rd_refusal_4, sp_ways_5, na_lengths_6, na_codes_7, sp_symbolOf_8, sp_xs_9, sp_ys_10, sp_differs_11⟩ := o9
  try dsimp only at h9
  try dsimp only
  obtain ⟨q_10, q_11, q_12, q_13, q_14, q_15, q_16, q_17, q_18⟩ := h9
  refine ok_jn (fun j9 => ∀ (s_12 : Int32), ok (j9 s_12) Q9) ?_ (fun j28 h_j28 => ?_)
  · intro s_12
    have q_19 : ((0 : Int32) ≤ (0 : Int32) ∧ (0 : Int32) ≤ (2000 : Int32)) := by clear hQ9; first | with_reducible assumption | (simp only [xl, xt, xe, xa, xb, xm, xg, ne_eq, Int32.reduceToInt] at * <;> omega) | grind
    refine ok_if (fun q_20 => ?_) (fun q_20 => ?_)
    · skip
      exact ok_some (hQ9 _ ⟨by clear hQ9; first | with_reducible assumption | (simp only [xl, xt, xe, xa, xb, xm, xg, ne_eq, Int32.reduceToInt] at * <;> omega) | grind, by clear hQ9; first | with_reducible assumption | (simp only [xl, xt, xe, xa, xb, xm, xg, ne_eq, Int32.reduceToInt] at * <;> omega) | grind, by clear hQ9; first | with_reducible assumption | (simp only [xl, xt, xe, xa, xb, xm, xg, ne_eq, Int32.reduceToInt] at * <;> omega) | grind, by assumption, by clear hQ9; first | with_reducible assumption | (simp only [xl, xt, xe, xa, xb, xm, xg, ne_eq, Int32.reduceToInt] at * <;> omega) | grind, by assumption, by assumption, by assumption, by assumption⟩)
    · skip
      exact ok_some (hQ9 _ ⟨by clear hQ9; first | with_reducible assumption | (simp only [xl, xt, xe, xa, xb, xm, xg, ne_eq, Int32.reduceToInt] at * <;> omega) | grind, by clear hQ9; first | with_reducible assumption | (simp only [xl, xt, xe, xa, xb, xm, xg, ne_eq, Int32.reduceToInt] at * <;> omega) | grind, by clear hQ9; first | with_reducible assumption | (simp only [xl, xt, xe, xa, xb, xm, xg, ne_eq, Int32.reduceToInt] at * <;> omega) | grind, by assumption, by clear hQ9; first | with_reducible assumption | (simp only [xl, xt, xe, xa, xb, xm, xg, ne_eq, Int32.reduceToInt] at * <;> omega) | grind, by assumption, by assumption, by assumption, by assumption⟩)
  refine ok_if (fun q_21 => ?_) (fun q_21 => ?_)
  · skip
    exact h_j28 _
  · skip
    refine ok_bd (s_Reader_bitsRead (by clear hQ9 h_j28; first | with_reducible assumption | (simp only [xl, xt, xe, xa, xb, xm, xg, ne_eq, Int32.reduceToInt] at * <;> omega) | grind)) (fun o9 h9 => ?_)
    obtain ⟨r_13, rfl⟩ : ∃ z9, z9 = o9 := ⟨_, rfl⟩
    exact h_j28 _

set_option maxHeartbeats 4000000 in
set_option maxRecDepth 20000 in
theorem s_Top_changeNeighbours_F {la_count : Int32} {tb_count : Int32} {tb_bytes : (Nat → Int32)} {la_ways : (Nat → Int32)} {na_row : (Nat → Int32)} {la_sequence : (Nat → Int32)} {la_symbolOf : (Nat → Int32)} {la_xs : (Nat → Int32)} {di_count : Int32} {di_widths : (Nat → Int32)} {la_ys : (Nat → Int32)} {di_heights : (Nat → Int32)} {la_differs : (Nat → Int64)} (q_1 : ((0 : Int32) ≤ la_count ∧ la_count ≤ (40 : Int32))) (q_2 : ((0 : Int32) ≤ tb_count ∧ tb_count ≤ (2000 : Int32))) (q_3 : R la_ways (0 : Int32) (7 : Int32)) (q_4 : R na_row (0 : Int32) (15 : Int32)) (q_5 : R la_sequence (0 : Int32) (39 : Int32)) (q_6 : R la_symbolOf (0 : Int32) (15 : Int32)) (q_7 : R la_xs (-8 : Int32) (31 : Int32)) (q_8 : ((0 : Int32) ≤ di_count ∧ di_count ≤ (16 : Int32))) (q_9 : R di_widths (0 : Int32) (8 : Int32)) (q_10 : R la_ys (-8 : Int32) (31 : Int32)) (q_11 : R di_heights (0 : Int32) (8 : Int32)) : ok (f_Top_changeNeighbours_F la_count tb_count tb_bytes la_ways na_row la_sequence la_symbolOf la_xs di_count di_widths la_ys di_heights la_differs) (fun o => ((0 : Int32) ≤ o.1 ∧ o.1 ≤ (1 : Int32)) ∧ ((0 : Int32) ≤ o.2.1 ∧ o.2.1 ≤ (1 : Int32)) ∧ ((0 : Int32) ≤ o.2.2.1 ∧ o.2.2.1 ≤ (1000000 : Int32)) ∧ ((0 : Int32) ≤ o.2.2.2.1 ∧ o.2.2.2.1 ≤ (2000 : Int32)) ∧ R o.2.2.2.2.2.1 (0 : Int32) (15 : Int32) ∧ R o.2.2.2.2.2.2.1 (0 : Int32) (15 : Int32) ∧ R o.2.2.2.2.2.2.2.1 (-8 : Int32) (31 : Int32) ∧ R o.2.2.2.2.2.2.2.2.1 (-8 : Int32) (31 : Int32)) := by
  refine ok_Q (fun Q9 hQ9 => ?_)
  unfold f_Top_changeNeighbours_F
  refine ok_bd (s_Teller_tellAll_F (by clear hQ9; first | with_reducible assumption | (simp only [xl, xt, xe, xa, xb, xm, xg, ne_eq, Int32.reduceToInt] at * <;> omega) | grind) (by clear hQ9; first | with_reducible assumption | (simp only [xl, xt, xe, xa, xb, xm, xg, ne_eq, Int32.reduceToInt] at * <;> omega) | grind) (by assumption) (by assumption) (by assumption) (by assumption) (by assumption) (by clear hQ9; first | with_reducible assumption | (simp only [xl, xt, xe, xa, xb, xm, xg, ne_eq, Int32.reduceToInt] at * <;> omega) | grind) (by assumption) (by assumption) (by assumption) (by clear hQ9; first | with_reducible assumption | (simp only [xl, xt, xe, xa, xb, xm, xg, ne_eq, Int32.reduceToInt] at * <;> omega) | grind)) (fun o9 h9 => ?_)
  obtain ⟨r_1, wr_keeping_2, wr_count_3, tb_count_4, tb_bytes_5, na_row_6⟩ := o9
  try dsimp only at h9
  try dsimp only
  obtain ⟨q_12, q_13, q_14, q_15⟩ := h9
  refine ok_lp (fun s9 => ((0 : Int32) ≤ s9.1 ∧ s9.1 ≤ (40 : Int32)) ∧ ((0 : Int32) ≤ s9.2.2.1 ∧ s9.2.2.1 ≤ (1 : Int32)) ∧ ((0 : Int32) ≤ s9.2.2.2.1 ∧ s9.2.2.2.1 ≤ (1 : Int32)) ∧ ((0 : Int32) ≤ s9.2.2.2.2.1 ∧ s9.2.2.2.2.1 ≤ (1000000 : Int32)) ∧ ((0 : Int32) ≤ s9.2.2.2.2.2.1 ∧ s9.2.2.2.2.2.1 ≤ (2000 : Int32)) ∧ R s9.2.2.2.2.2.2.2.1 (0 : Int32) (15 : Int32) ∧ R s9.2.2.2.2.2.2.2.2.1 (0 : Int32) (15 : Int32) ∧ R s9.2.2.2.2.2.2.2.2.2.1 (-8 : Int32) (31 : Int32) ∧ R s9.2.2.2.2.2.2.2.2.2.2.1 (-8 : Int32) (31 : Int32)) (fun s9 => 40 - s9.1) ⟨by clear hQ9; first | with_reducible assumption | (simp only [xl, xt, xe, xa, xb, xm, xg, ne_eq, Int32.reduceToInt] at * <;> omega) | grind, by clear hQ9; first | with_reducible assumption | (simp only [xl, xt, xe, xa, xb, xm, xg, ne_eq, Int32.reduceToInt] at * <;> omega) | grind, by clear hQ9; first | with_reducible assumption | (simp only [xl, xt, xe, xa, xb, xm, xg, ne_eq, Int32.reduceToInt] at * <;> omega) | grind, by clear hQ9; first | with_reducible assumption | (simp only [xl, xt, xe, xa, xb, xm, xg, ne_eq, Int32.reduceToInt] at * <;> omega) | grind, by clear hQ9; first | with_reducible assumption | (simp only [xl, xt, xe, xa, xb, xm, xg, ne_eq, Int32.reduceToInt] at * <;> omega) | grind, by assumption, by assumption, by assumption, by assumption⟩ ?_ ?_
  · intro s9 hs9; obtain ⟨v3_7, v2_8, v1_9, wr_keeping_10, wr_count_11, tb_count_12, tb_bytes_13, na_row_14, la_symbolOf_15, la_xs_16, la_ys_17, la_differs_18⟩ := s9; try dsimp only at hs9; obtain ⟨q_16, q_17, q_18, q_19, q_20, q_21, q_22, q_23, q_24⟩ := hs9; exact ⟨by clear hQ9; (try dsimp only); first | with_reducible assumption | (simp only [xl, xt, xe, xa, xb, xm, xg, ne_eq, Int32.reduceToInt] at * <;> omega) | grind, by clear hQ9; (try dsimp only); first | with_reducible assumption | (simp only [xl, xt, xe, xa, xb, xm, xg, ne_eq, Int32.reduceToInt] at * <;> omega) | grind⟩
  intro self17 s9 hs9 ih_self17
  obtain ⟨v3_7, v2_8, v1_9, wr_keeping_10, wr_count_11, tb_count_12, tb_bytes_13, na_row_14, la_symbolOf_15, la_xs_16, la_ys_17, la_differs_18⟩ := s9; try dsimp only at hs9; obtain ⟨q_16, q_17, q_18, q_19, q_20, q_21, q_22, q_23, q_24⟩ := hs9
  unfold f_Top_changeNeighbours_F_L17
  try dsimp only
  try dsimp only at ih_self17
  refine ok_if (fun q_25 => ?_) (fun q_25 => ?_)
  · skip
    refine ok_bz (by clear hQ9 ih_self17; first | with_reducible assumption | (simp only [xl, xt, xe, xa, xb, xm, xg, ne_eq, Int32.reduceToInt] at * <;> omega) | grind) ?_
    exact ok_some (hQ9 _ ⟨by clear hQ9 ih_self17; first | with_reducible assumption | (simp only [xl, xt, xe, xa, xb, xm, xg, ne_eq, Int32.reduceToInt] at * <;> omega) | grind, by clear hQ9 ih_self17; first | with_reducible assumption | (simp only [xl, xt, xe, xa, xb, xm, xg, ne_eq, Int32.reduceToInt] at * <;> omega) | grind, by clear hQ9 ih_self17; first | with_reducible assumption | (simp only [xl, xt, xe, xa, xb, xm, xg, ne_eq, Int32.reduceToInt] at * <;> omega) | grind, by clear hQ9 ih_self17; first | with_reducible assumption | (simp only [xl, xt, xe, xa, xb, xm, xg, ne_eq, Int32.reduceToInt] at * <;> omega) | grind, by assumption, by assumption, by assumption, by assumption⟩)
  · skip
    refine ok_bd (s_Layout_strip (by assumption) (by assumption) (by assumption) (by assumption) (by assumption) (by assumption) (by clear hQ9 ih_self17; first | with_reducible assumption | (simp only [xl, xt, xe, xa, xb, xm, xg, ne_eq, Int32.reduceToInt] at * <;> omega) | grind)) (fun o9 h9 => ?_)
    obtain ⟨r_19, rfl⟩ : ∃ z9, z9 = o9 := ⟨_, rfl⟩
    have q_26 := h9
    clear h9
    refine ok_bd (s_Layout_strip (by assumption) (by assumption) (by assumption) (by assumption) (by assumption) (by assumption) (by clear hQ9 ih_self17; first | with_reducible assumption | (simp only [xl, xt, xe, xa, xb, xm, xg, ne_eq, Int32.reduceToInt] at * <;> omega) | grind)) (fun o9 h9 => ?_)
    obtain ⟨r_20, rfl⟩ : ∃ z9, z9 = o9 := ⟨_, rfl⟩
    have q_27 := h9
    clear h9
    refine ok_jn (fun j9 => ∀ (v2_21 : Int32) (v1_22 : Int32) (wr_keeping_23 : Int32) (wr_count_24 : Int32) (tb_count_25 : Int32) (tb_bytes_26 : (Nat → Int32)) (na_row_27 : (Nat → Int32)) (la_symbolOf_28 : (Nat → Int32)) (la_xs_29 : (Nat → Int32)) (la_ys_30 : (Nat → Int32)) (la_differs_31 : (Nat → Int64)), ((0 : Int32) ≤ v1_22 ∧ v1_22 ≤ (1 : Int32)) → ((0 : Int32) ≤ wr_keeping_23 ∧ wr_keeping_23 ≤ (1 : Int32)) → ((0 : Int32) ≤ wr_count_24 ∧ wr_count_24 ≤ (1000000 : Int32)) → ((0 : Int32) ≤ tb_count_25 ∧ tb_count_25 ≤ (2000 : Int32)) → R na_row_27 (0 : Int32) (15 : Int32) → R la_symbolOf_28 (0 : Int32) (15 : Int32) → R la_xs_29 (-8 : Int32) (31 : Int32) → R la_ys_30 (-8 : Int32) (31 : Int32) → ok (j9 v2_21 v1_22 wr_keeping_23 wr_count_24 tb_count_25 tb_bytes_26 na_row_27 la_symbolOf_28 la_xs_29 la_ys_30 la_differs_31) Q9) ?_ (fun j95 h_j95 => ?_)
    · intro v2_21 v1_22 wr_keeping_23 wr_count_24 tb_count_25 tb_bytes_26 na_row_27 la_symbolOf_28 la_xs_29 la_ys_30 la_differs_31 q_28 q_29 q_30 q_31 q_32 q_33 q_34 q_35
      refine ok_nl (fun v3_32 e_v3_32 => ?_)
      exact ih_self17 (v3_32, v2_21, v1_22, wr_keeping_23, wr_count_24, tb_count_25, tb_bytes_26, na_row_27, la_symbolOf_28, la_xs_29, la_ys_30, la_differs_31) ⟨by clear hQ9 ih_self17; first | with_reducible assumption | (simp only [xl, xt, xe, xa, xb, xm, xg, ne_eq, Int32.reduceToInt] at * <;> omega) | grind, by clear hQ9 ih_self17; first | with_reducible assumption | (simp only [xl, xt, xe, xa, xb, xm, xg, ne_eq, Int32.reduceToInt] at * <;> omega) | grind, by clear hQ9 ih_self17; first | with_reducible assumption | (simp only [xl, xt, xe, xa, xb, xm, xg, ne_eq, Int32.reduceToInt] at * <;> omega) | grind, by clear hQ9 ih_self17; first | with_reducible assumption | (simp only [xl, xt, xe, xa, xb, xm, xg, ne_eq, Int32.reduceToInt] at * <;> omega) | grind, by clear hQ9 ih_self17; first | with_reducible assumption | (simp only [xl, xt, xe, xa, xb, xm, xg, ne_eq, Int32.reduceToInt] at * <;> omega) | grind, by assumption, by assumption, by assumption, by assumption⟩ (by clear hQ9 ih_self17; (try dsimp only); first | with_reducible assumption | (simp only [xl, xt, xe, xa, xb, xm, xg, ne_eq, Int32.reduceToInt] at * <;> omega) | grind)
    refine ok_if (fun q_36 => ?_) (fun q_36 => ?_)
    · skip
      refine ok_bd (s_Layout_swapWithNext (by assumption) (by assumption) (by assumption) (by clear hQ9 ih_self17 h_j95; first | with_reducible assumption | (simp only [xl, xt, xe, xa, xb, xm, xg, ne_eq, Int32.reduceToInt] at * <;> omega) | grind)) (fun o9 h9 => ?_)
      obtain ⟨la_symbolOf_33, la_xs_34, la_ys_35, la_differs_36⟩ := o9
      try dsimp only at h9
      try dsimp only
      obtain ⟨q_37, q_38, q_39⟩ := h9
      refine ok_bd (s_Teller_tellAll_F (by clear hQ9 ih_self17 h_j95; first | with_reducible assumption | (simp only [xl, xt, xe, xa, xb, xm, xg, ne_eq, Int32.reduceToInt] at * <;> omega) | grind) (by clear hQ9 ih_self17 h_j95; first | with_reducible assumption | (simp only [xl, xt, xe, xa, xb, xm, xg, ne_eq, Int32.reduceToInt] at * <;> omega) | grind) (by assumption) (by assumption) (by assumption) (by assumption) (by assumption) (by clear hQ9 ih_self17 h_j95; first | with_reducible assumption | (simp only [xl, xt, xe, xa, xb, xm, xg, ne_eq, Int32.reduceToInt] at * <;> omega) | grind) (by assumption) (by assumption) (by assumption) (by clear hQ9 ih_self17 h_j95; first | with_reducible assumption | (simp only [xl, xt, xe, xa, xb, xm, xg, ne_eq, Int32.reduceToInt] at * <;> omega) | grind)) (fun o9 h9 => ?_)
      obtain ⟨r_37, wr_keeping_38, wr_count_39, tb_count_40, tb_bytes_41, na_row_42⟩ := o9
      try dsimp only at h9
      try dsimp only
      obtain ⟨q_40, q_41, q_42, q_43⟩ := h9
      refine ok_if (fun q_44 => ?_) (fun q_44 => ?_)
      · skip
        refine ok_bd (s_Layout_swapWithNext (by assumption) (by assumption) (by assumption) (by clear hQ9 ih_self17 h_j95; first | with_reducible assumption | (simp only [xl, xt, xe, xa, xb, xm, xg, ne_eq, Int32.reduceToInt] at * <;> omega) | grind)) (fun o9 h9 => ?_)
        obtain ⟨la_symbolOf_43, la_xs_44, la_ys_45, la_differs_46⟩ := o9
        try dsimp only at h9
        try dsimp only
        obtain ⟨q_45, q_46, q_47⟩ := h9
        exact h_j95 _ _ _ _ _ _ _ _ _ _ _ (by clear hQ9 ih_self17 h_j95; first | with_reducible assumption | (simp only [xl, xt, xe, xa, xb, xm, xg, ne_eq, Int32.reduceToInt] at * <;> omega) | grind) (by clear hQ9 ih_self17 h_j95; first | with_reducible assumption | (simp only [xl, xt, xe, xa, xb, xm, xg, ne_eq, Int32.reduceToInt] at * <;> omega) | grind) (by clear hQ9 ih_self17 h_j95; first | with_reducible assumption | (simp only [xl, xt, xe, xa, xb, xm, xg, ne_eq, Int32.reduceToInt] at * <;> omega) | grind) (by clear hQ9 ih_self17 h_j95; first | with_reducible assumption | (simp only [xl, xt, xe, xa, xb, xm, xg, ne_eq, Int32.reduceToInt] at * <;> omega) | grind) (by assumption) (by assumption) (by assumption) (by assumption)
      · skip
        exact h_j95 _ _ _ _ _ _ _ _ _ _ _ (by clear hQ9 ih_self17 h_j95; first | with_reducible assumption | (simp only [xl, xt, xe, xa, xb, xm, xg, ne_eq, Int32.reduceToInt] at * <;> omega) | grind) (by clear hQ9 ih_self17 h_j95; first | with_reducible assumption | (simp only [xl, xt, xe, xa, xb, xm, xg, ne_eq, Int32.reduceToInt] at * <;> omega) | grind) (by clear hQ9 ih_self17 h_j95; first | with_reducible assumption | (simp only [xl, xt, xe, xa, xb, xm, xg, ne_eq, Int32.reduceToInt] at * <;> omega) | grind) (by clear hQ9 ih_self17 h_j95; first | with_reducible assumption | (simp only [xl, xt, xe, xa, xb, xm, xg, ne_eq, Int32.reduceToInt] at * <;> omega) | grind) (by assumption) (by assumption) (by assumption) (by assumption)
    · skip
      exact h_j95 _ _ _ _ _ _ _ _ _ _ _ (by clear hQ9 ih_self17 h_j95; first | with_reducible assumption | (simp only [xl, xt, xe, xa, xb, xm, xg, ne_eq, Int32.reduceToInt] at * <;> omega) | grind) (by clear hQ9 ih_self17 h_j95; first | with_reducible assumption | (simp only [xl, xt, xe, xa, xb, xm, xg, ne_eq, Int32.reduceToInt] at * <;> omega) | grind) (by clear hQ9 ih_self17 h_j95; first | with_reducible assumption | (simp only [xl, xt, xe, xa, xb, xm, xg, ne_eq, Int32.reduceToInt] at * <;> omega) | grind) (by clear hQ9 ih_self17 h_j95; first | with_reducible assumption | (simp only [xl, xt, xe, xa, xb, xm, xg, ne_eq, Int32.reduceToInt] at * <;> omega) | grind) (by assumption) (by assumption) (by assumption) (by assumption)

set_option maxHeartbeats 4000000 in
set_option maxRecDepth 20000 in
theorem s_Top_order_F {la_count : Int32} {la_ways : (Nat → Int32)} {la_ys : (Nat → Int32)} {la_symbolOf : (Nat → Int32)} {di_count : Int32} {di_heights : (Nat → Int32)} {la_xs : (Nat → Int32)} {di_widths : (Nat → Int32)} {la_sequence : (Nat → Int32)} {wr_keeping : Int32} {wr_count : Int32} {tb_count : Int32} {tb_bytes : (Nat → Int32)} {na_row : (Nat → Int32)} {la_differs : (Nat → Int64)} {p0 : Int32} (q_1 : ((0 : Int32) ≤ la_count ∧ la_count ≤ (40 : Int32))) (q_2 : R la_ways (0 : Int32) (7 : Int32)) (q_3 : R la_ys (-8 : Int32) (31 : Int32)) (q_4 : R la_symbolOf (0 : Int32) (15 : Int32)) (q_5 : ((0 : Int32) ≤ di_count ∧ di_count ≤ (16 : Int32))) (q_6 : R di_heights (0 : Int32) (8 : Int32)) (q_7 : R la_xs (-8 : Int32) (31 : Int32)) (q_8 : R di_widths (0 : Int32) (8 : Int32)) (q_9 : R la_sequence (0 : Int32) (39 : Int32)) (q_10 : ((0 : Int32) ≤ wr_keeping ∧ wr_keeping ≤ (1 : Int32))) (q_11 : ((0 : Int32) ≤ wr_count ∧ wr_count ≤ (1000000 : Int32))) (q_12 : ((0 : Int32) ≤ tb_count ∧ tb_count ≤ (2000 : Int32))) (q_13 : R na_row (0 : Int32) (15 : Int32)) : ok (f_Top_order_F la_count la_ways la_ys la_symbolOf di_count di_heights la_xs di_widths la_sequence wr_keeping wr_count tb_count tb_bytes na_row la_differs p0) (fun o => match o with | .inl c => c = "java/lang/IllegalArgumentException" | .inr u => R u.2.1 (-8 : Int32) (31 : Int32) ∧ R u.2.2.1 (0 : Int32) (15 : Int32) ∧ R u.2.2.2.1 (-8 : Int32) (31 : Int32) ∧ R u.2.2.2.2.1 (0 : Int32) (39 : Int32) ∧ ((0 : Int32) ≤ u.2.2.2.2.2.1 ∧ u.2.2.2.2.2.1 ≤ (1 : Int32)) ∧ ((0 : Int32) ≤ u.2.2.2.2.2.2.1 ∧ u.2.2.2.2.2.2.1 ≤ (1000000 : Int32)) ∧ ((0 : Int32) ≤ u.2.2.2.2.2.2.2.1 ∧ u.2.2.2.2.2.2.2.1 ≤ (2000 : Int32)) ∧ R u.2.2.2.2.2.2.2.2.2.1 (0 : Int32) (15 : Int32)) := by
  refine ok_Q (fun Q9 hQ9 => ?_)
  unfold f_Top_order_F
  refine ok_bd (s_Top_isWithin) (fun o9 h9 => ?_)
  obtain ⟨r_1, rfl⟩ : ∃ z9, z9 = o9 := ⟨_, rfl⟩
  obtain ⟨q_14, q_15⟩ := h9
  refine ok_if (fun q_16 => ?_) (fun q_16 => ?_)
  · skip
    exact ok_some (hQ9 _ (by decide))
  · skip
    refine ok_bd (s_Teller_prepare_F (by clear hQ9; first | with_reducible assumption | (simp only [xl, xt, xe, xa, xb, xm, xg, ne_eq, Int32.reduceToInt] at * <;> omega) | grind) (by assumption) (by assumption) (by assumption) (by assumption) (by assumption) (by assumption) (by assumption)) (fun o9 h9 => ?_)
    obtain ⟨la_sequence_2, rfl⟩ : ∃ z9, z9 = o9 := ⟨_, rfl⟩
    have q_17 := h9
    clear h9
    refine ok_gq (4 : Int32) (by decide) (by clear hQ9; first | with_reducible assumption | (simp only [xl, xt, xe, xa, xb, xm, xg, ne_eq, Int32.reduceToInt] at * <;> omega) | grind) (by clear hQ9; first | with_reducible assumption | (simp only [xl, xt, xe, xa, xb, xm, xg, ne_eq, Int32.reduceToInt] at * <;> omega) | grind) ?_
    have q_18 := (by assumption : R la_ways (0 : Int32) (7 : Int32)) ((3 : Int32)).toNatClampNeg
    refine ok_jn (fun j9 => ∀ (la_ys_3 : (Nat → Int32)) (la_symbolOf_4 : (Nat → Int32)) (la_xs_5 : (Nat → Int32)) (wr_keeping_6 : Int32) (wr_count_7 : Int32) (tb_count_8 : Int32) (tb_bytes_9 : (Nat → Int32)) (na_row_10 : (Nat → Int32)) (la_differs_11 : (Nat → Int64)), R la_ys_3 (-8 : Int32) (31 : Int32) → R la_symbolOf_4 (0 : Int32) (15 : Int32) → R la_xs_5 (-8 : Int32) (31 : Int32) → ((0 : Int32) ≤ wr_keeping_6 ∧ wr_keeping_6 ≤ (1 : Int32)) → ((0 : Int32) ≤ wr_count_7 ∧ wr_count_7 ≤ (1000000 : Int32)) → ((0 : Int32) ≤ tb_count_8 ∧ tb_count_8 ≤ (2000 : Int32)) → R na_row_10 (0 : Int32) (15 : Int32) → ok (j9 la_ys_3 la_symbolOf_4 la_xs_5 wr_keeping_6 wr_count_7 tb_count_8 tb_bytes_9 na_row_10 la_differs_11) Q9) ?_ (fun j68 h_j68 => ?_)
    · intro la_ys_3 la_symbolOf_4 la_xs_5 wr_keeping_6 wr_count_7 tb_count_8 tb_bytes_9 na_row_10 la_differs_11 q_19 q_20 q_21 q_22 q_23 q_24 q_25
      refine ok_bd (s_Teller_tellAll_F (by clear hQ9; first | with_reducible assumption | (simp only [xl, xt, xe, xa, xb, xm, xg, ne_eq, Int32.reduceToInt] at * <;> omega) | grind) (by clear hQ9; first | with_reducible assumption | (simp only [xl, xt, xe, xa, xb, xm, xg, ne_eq, Int32.reduceToInt] at * <;> omega) | grind) (by assumption) (by assumption) (by assumption) (by assumption) (by assumption) (by clear hQ9; first | with_reducible assumption | (simp only [xl, xt, xe, xa, xb, xm, xg, ne_eq, Int32.reduceToInt] at * <;> omega) | grind) (by assumption) (by assumption) (by assumption) (by clear hQ9; first | with_reducible assumption | (simp only [xl, xt, xe, xa, xb, xm, xg, ne_eq, Int32.reduceToInt] at * <;> omega) | grind)) (fun o9 h9 => ?_)
      obtain ⟨r_12, wr_keeping_13, wr_count_14, tb_count_15, tb_bytes_16, na_row_17⟩ := o9
      try dsimp only at h9
      try dsimp only
      obtain ⟨q_26, q_27, q_28, q_29⟩ := h9
      exact ok_some (hQ9 _ ⟨by assumption, by assumption, by assumption, by assumption, by clear hQ9; first | with_reducible assumption | (simp only [xl, xt, xe, xa, xb, xm, xg, ne_eq, Int32.reduceToInt] at * <;> omega) | grind, by clear hQ9; first | with_reducible assumption | (simp only [xl, xt, xe, xa, xb, xm, xg, ne_eq, Int32.reduceToInt] at * <;> omega) | grind, by clear hQ9; first | with_reducible assumption | (simp only [xl, xt, xe, xa, xb, xm, xg, ne_eq, Int32.reduceToInt] at * <;> omega) | grind, by assumption⟩)
    refine ok_if (fun q_30 => ?_) (fun q_30 => ?_)
    · skip
      exact h_j68 _ _ _ _ _ _ _ _ _ (by assumption) (by assumption) (by assumption) (by clear hQ9 h_j68; first | with_reducible assumption | (simp only [xl, xt, xe, xa, xb, xm, xg, ne_eq, Int32.reduceToInt] at * <;> omega) | grind) (by clear hQ9 h_j68; first | with_reducible assumption | (simp only [xl, xt, xe, xa, xb, xm, xg, ne_eq, Int32.reduceToInt] at * <;> omega) | grind) (by clear hQ9 h_j68; first | with_reducible assumption | (simp only [xl, xt, xe, xa, xb, xm, xg, ne_eq, Int32.reduceToInt] at * <;> omega) | grind) (by assumption)
    · skip
      refine ok_lp (fun s9 => ((0 : Int32) ≤ s9.1 ∧ s9.1 ≤ (8 : Int32)) ∧ ((0 : Int32) ≤ s9.2.1 ∧ s9.2.1 ≤ (1 : Int32)) ∧ R s9.2.2.1 (-8 : Int32) (31 : Int32) ∧ R s9.2.2.2.1 (0 : Int32) (15 : Int32) ∧ R s9.2.2.2.2.1 (-8 : Int32) (31 : Int32) ∧ ((0 : Int32) ≤ s9.2.2.2.2.2.1 ∧ s9.2.2.2.2.2.1 ≤ (1 : Int32)) ∧ ((0 : Int32) ≤ s9.2.2.2.2.2.2.1 ∧ s9.2.2.2.2.2.2.1 ≤ (1000000 : Int32)) ∧ ((0 : Int32) ≤ s9.2.2.2.2.2.2.2.1 ∧ s9.2.2.2.2.2.2.2.1 ≤ (2000 : Int32)) ∧ R s9.2.2.2.2.2.2.2.2.2.1 (0 : Int32) (15 : Int32)) (fun s9 => 8 - s9.1) ⟨by clear hQ9 h_j68; first | with_reducible assumption | (simp only [xl, xt, xe, xa, xb, xm, xg, ne_eq, Int32.reduceToInt] at * <;> omega) | grind, by clear hQ9 h_j68; first | with_reducible assumption | (simp only [xl, xt, xe, xa, xb, xm, xg, ne_eq, Int32.reduceToInt] at * <;> omega) | grind, by assumption, by assumption, by assumption, by clear hQ9 h_j68; first | with_reducible assumption | (simp only [xl, xt, xe, xa, xb, xm, xg, ne_eq, Int32.reduceToInt] at * <;> omega) | grind, by clear hQ9 h_j68; first | with_reducible assumption | (simp only [xl, xt, xe, xa, xb, xm, xg, ne_eq, Int32.reduceToInt] at * <;> omega) | grind, by clear hQ9 h_j68; first | with_reducible assumption | (simp only [xl, xt, xe, xa, xb, xm, xg, ne_eq, Int32.reduceToInt] at * <;> omega) | grind, by assumption⟩ ?_ ?_
      · intro s9 hs9; obtain ⟨v3_18, v2_19, la_ys_20, la_symbolOf_21, la_xs_22, wr_keeping_23, wr_count_24, tb_count_25, tb_bytes_26, na_row_27, la_differs_28⟩ := s9; try dsimp only at hs9; obtain ⟨q_31, q_32, q_33, q_34, q_35, q_36, q_37, q_38, q_39⟩ := hs9; exact ⟨by clear hQ9 h_j68; (try dsimp only); first | with_reducible assumption | (simp only [xl, xt, xe, xa, xb, xm, xg, ne_eq, Int32.reduceToInt] at * <;> omega) | grind, by clear hQ9 h_j68; (try dsimp only); first | with_reducible assumption | (simp only [xl, xt, xe, xa, xb, xm, xg, ne_eq, Int32.reduceToInt] at * <;> omega) | grind⟩
      intro self48 s9 hs9 ih_self48
      obtain ⟨v3_18, v2_19, la_ys_20, la_symbolOf_21, la_xs_22, wr_keeping_23, wr_count_24, tb_count_25, tb_bytes_26, na_row_27, la_differs_28⟩ := s9; try dsimp only at hs9; obtain ⟨q_31, q_32, q_33, q_34, q_35, q_36, q_37, q_38, q_39⟩ := hs9
      unfold f_Top_order_F_L48
      try dsimp only
      try dsimp only at ih_self48
      refine ok_if (fun q_40 => ?_) (fun q_40 => ?_)
      · skip
        exact h_j68 _ _ _ _ _ _ _ _ _ (by assumption) (by assumption) (by assumption) (by clear hQ9 h_j68 ih_self48; first | with_reducible assumption | (simp only [xl, xt, xe, xa, xb, xm, xg, ne_eq, Int32.reduceToInt] at * <;> omega) | grind) (by clear hQ9 h_j68 ih_self48; first | with_reducible assumption | (simp only [xl, xt, xe, xa, xb, xm, xg, ne_eq, Int32.reduceToInt] at * <;> omega) | grind) (by clear hQ9 h_j68 ih_self48; first | with_reducible assumption | (simp only [xl, xt, xe, xa, xb, xm, xg, ne_eq, Int32.reduceToInt] at * <;> omega) | grind) (by assumption)
      · skip
        refine ok_if (fun q_41 => ?_) (fun q_41 => ?_)
        · skip
          exact h_j68 _ _ _ _ _ _ _ _ _ (by assumption) (by assumption) (by assumption) (by clear hQ9 h_j68 ih_self48; first | with_reducible assumption | (simp only [xl, xt, xe, xa, xb, xm, xg, ne_eq, Int32.reduceToInt] at * <;> omega) | grind) (by clear hQ9 h_j68 ih_self48; first | with_reducible assumption | (simp only [xl, xt, xe, xa, xb, xm, xg, ne_eq, Int32.reduceToInt] at * <;> omega) | grind) (by clear hQ9 h_j68 ih_self48; first | with_reducible assumption | (simp only [xl, xt, xe, xa, xb, xm, xg, ne_eq, Int32.reduceToInt] at * <;> omega) | grind) (by assumption)
        · skip
          refine ok_bd (s_Top_changeNeighbours_F (by clear hQ9 h_j68 ih_self48; first | with_reducible assumption | (simp only [xl, xt, xe, xa, xb, xm, xg, ne_eq, Int32.reduceToInt] at * <;> omega) | grind) (by clear hQ9 h_j68 ih_self48; first | with_reducible assumption | (simp only [xl, xt, xe, xa, xb, xm, xg, ne_eq, Int32.reduceToInt] at * <;> omega) | grind) (by assumption) (by assumption) (by assumption) (by assumption) (by assumption) (by clear hQ9 h_j68 ih_self48; first | with_reducible assumption | (simp only [xl, xt, xe, xa, xb, xm, xg, ne_eq, Int32.reduceToInt] at * <;> omega) | grind) (by assumption) (by assumption) (by assumption)) (fun o9 h9 => ?_)
          obtain ⟨r_29, wr_keeping_30, wr_count_31, tb_count_32, tb_bytes_33, na_row_34, la_symbolOf_35, la_xs_36, la_ys_37, la_differs_38⟩ := o9
          try dsimp only at h9
          try dsimp only
          obtain ⟨q_42, q_43, q_44, q_45, q_46, q_47, q_48, q_49⟩ := h9
          refine ok_nl (fun v3_39 e_v3_39 => ?_)
          exact ih_self48 (v3_39, r_29, la_ys_37, la_symbolOf_35, la_xs_36, wr_keeping_30, wr_count_31, tb_count_32, tb_bytes_33, na_row_34, la_differs_38) ⟨by clear hQ9 h_j68 ih_self48; first | with_reducible assumption | (simp only [xl, xt, xe, xa, xb, xm, xg, ne_eq, Int32.reduceToInt] at * <;> omega) | grind, by clear hQ9 h_j68 ih_self48; first | with_reducible assumption | (simp only [xl, xt, xe, xa, xb, xm, xg, ne_eq, Int32.reduceToInt] at * <;> omega) | grind, by assumption, by assumption, by assumption, by clear hQ9 h_j68 ih_self48; first | with_reducible assumption | (simp only [xl, xt, xe, xa, xb, xm, xg, ne_eq, Int32.reduceToInt] at * <;> omega) | grind, by clear hQ9 h_j68 ih_self48; first | with_reducible assumption | (simp only [xl, xt, xe, xa, xb, xm, xg, ne_eq, Int32.reduceToInt] at * <;> omega) | grind, by clear hQ9 h_j68 ih_self48; first | with_reducible assumption | (simp only [xl, xt, xe, xa, xb, xm, xg, ne_eq, Int32.reduceToInt] at * <;> omega) | grind, by assumption⟩ (by clear hQ9 h_j68 ih_self48; (try dsimp only); first | with_reducible assumption | (simp only [xl, xt, xe, xa, xb, xm, xg, ne_eq, Int32.reduceToInt] at * <;> omega) | grind)

set_option maxHeartbeats 4000000 in
set_option maxRecDepth 20000 in
theorem s_Top_write_F {la_count : Int32} {la_ways : (Nat → Int32)} {la_ys : (Nat → Int32)} {la_symbolOf : (Nat → Int32)} {di_count : Int32} {di_heights : (Nat → Int32)} {la_xs : (Nat → Int32)} {di_widths : (Nat → Int32)} {la_sequence : (Nat → Int32)} {tb_count : Int32} {tb_bytes : (Nat → Int32)} {na_row : (Nat → Int32)} {la_differs : (Nat → Int64)} (q_1 : ((0 : Int32) ≤ la_count ∧ la_count ≤ (40 : Int32))) (q_2 : R la_ways (0 : Int32) (7 : Int32)) (q_3 : R la_ys (-8 : Int32) (31 : Int32)) (q_4 : R la_symbolOf (0 : Int32) (15 : Int32)) (q_5 : ((0 : Int32) ≤ di_count ∧ di_count ≤ (16 : Int32))) (q_6 : R di_heights (0 : Int32) (8 : Int32)) (q_7 : R la_xs (-8 : Int32) (31 : Int32)) (q_8 : R di_widths (0 : Int32) (8 : Int32)) (q_9 : R la_sequence (0 : Int32) (39 : Int32)) (q_10 : ((0 : Int32) ≤ tb_count ∧ tb_count ≤ (2000 : Int32))) (q_11 : R na_row (0 : Int32) (15 : Int32)) : ok (f_Top_write_F la_count la_ways la_ys la_symbolOf di_count di_heights la_xs di_widths la_sequence tb_count tb_bytes na_row la_differs) (fun o => R o.2.1 (0 : Int32) (39 : Int32) ∧ ((0 : Int32) ≤ o.2.2.1 ∧ o.2.2.1 ≤ (1 : Int32)) ∧ ((0 : Int32) ≤ o.2.2.2.1 ∧ o.2.2.2.1 ≤ (1000000 : Int32)) ∧ ((0 : Int32) ≤ o.2.2.2.2.1 ∧ o.2.2.2.2.1 ≤ (2000 : Int32)) ∧ R o.2.2.2.2.2.2 (0 : Int32) (15 : Int32)) := by
  refine ok_Q (fun Q9 hQ9 => ?_)
  unfold f_Top_write_F
  refine ok_bd (s_Teller_prepare_F (by clear hQ9; first | with_reducible assumption | (simp only [xl, xt, xe, xa, xb, xm, xg, ne_eq, Int32.reduceToInt] at * <;> omega) | grind) (by assumption) (by assumption) (by assumption) (by assumption) (by assumption) (by assumption) (by assumption)) (fun o9 h9 => ?_)
  obtain ⟨la_sequence_1, rfl⟩ : ∃ z9, z9 = o9 := ⟨_, rfl⟩
  have q_12 := h9
  clear h9
  refine ok_bd (s_Teller_tellAll_F (by clear hQ9; first | with_reducible assumption | (simp only [xl, xt, xe, xa, xb, xm, xg, ne_eq, Int32.reduceToInt] at * <;> omega) | grind) (by clear hQ9; first | with_reducible assumption | (simp only [xl, xt, xe, xa, xb, xm, xg, ne_eq, Int32.reduceToInt] at * <;> omega) | grind) (by assumption) (by assumption) (by assumption) (by assumption) (by assumption) (by clear hQ9; first | with_reducible assumption | (simp only [xl, xt, xe, xa, xb, xm, xg, ne_eq, Int32.reduceToInt] at * <;> omega) | grind) (by assumption) (by assumption) (by assumption) (by clear hQ9; first | with_reducible assumption | (simp only [xl, xt, xe, xa, xb, xm, xg, ne_eq, Int32.reduceToInt] at * <;> omega) | grind)) (fun o9 h9 => ?_)
  obtain ⟨r_2, wr_keeping_3, wr_count_4, tb_count_5, tb_bytes_6, na_row_7⟩ := o9
  try dsimp only at h9
  try dsimp only
  obtain ⟨q_13, q_14, q_15, q_16⟩ := h9
  exact ok_some (hQ9 _ ⟨by assumption, by clear hQ9; first | with_reducible assumption | (simp only [xl, xt, xe, xa, xb, xm, xg, ne_eq, Int32.reduceToInt] at * <;> omega) | grind, by clear hQ9; first | with_reducible assumption | (simp only [xl, xt, xe, xa, xb, xm, xg, ne_eq, Int32.reduceToInt] at * <;> omega) | grind, by clear hQ9; first | with_reducible assumption | (simp only [xl, xt, xe, xa, xb, xm, xg, ne_eq, Int32.reduceToInt] at * <;> omega) | grind, by assumption⟩)

set_option maxHeartbeats 4000000 in
set_option maxRecDepth 20000 in
theorem s_Top_read_F {h_la : Nat} {h_sp : Nat} {sp_ways : (Nat → Int32)} {cb_count : Int32} {cb_bytes : (Nat → Int32)} {na_row : (Nat → Int32)} {di_count : Int32} {di_widths : (Nat → Int32)} {di_heights : (Nat → Int32)} {sp_symbolOf : (Nat → Int32)} {sp_xs : (Nat → Int32)} {sp_ys : (Nat → Int32)} {sp_differs : (Nat → Int64)} (q_1 : R sp_ways (0 : Int32) (7 : Int32)) (q_2 : ((0 : Int32) ≤ cb_count ∧ cb_count ≤ (2000 : Int32))) (q_3 : R na_row (0 : Int32) (15 : Int32)) (q_4 : ((0 : Int32) ≤ di_count ∧ di_count ≤ (16 : Int32))) (q_5 : R di_widths (0 : Int32) (8 : Int32)) (q_6 : R di_heights (0 : Int32) (8 : Int32)) (q_7 : R sp_symbolOf (0 : Int32) (15 : Int32)) (q_8 : R sp_xs (-8 : Int32) (31 : Int32)) (q_9 : R sp_ys (-8 : Int32) (31 : Int32)) : ok (f_Top_read_F h_la h_sp sp_ways cb_count cb_bytes na_row di_count di_widths di_heights sp_symbolOf sp_xs sp_ys sp_differs) (fun o => ((0 : Int32) ≤ o.2.2.2.2.1 ∧ o.2.2.2.2.1 ≤ (40 : Int32)) ∧ ((0 : Int32) ≤ o.2.2.2.2.2.1 ∧ o.2.2.2.2.2.1 ≤ (16000 : Int32)) ∧ ((0 : Int32) ≤ o.2.2.2.2.2.2.1 ∧ o.2.2.2.2.2.2.1 ≤ (9 : Int32)) ∧ R o.2.2.2.2.2.2.2.1 (0 : Int32) (7 : Int32) ∧ ((0 : Int32) ≤ o.2.2.2.2.2.2.2.2.1 ∧ o.2.2.2.2.2.2.2.2.1 ≤ (2000 : Int32)) ∧ R o.2.2.2.2.2.2.2.2.2.1 (0 : Int32) (15 : Int32) ∧ R o.2.2.2.2.2.2.2.2.2.2.1 (0 : Int32) (15 : Int32) ∧ R o.2.2.2.2.2.2.2.2.2.2.2.1 (-8 : Int32) (31 : Int32) ∧ R o.2.2.2.2.2.2.2.2.2.2.2.2.1 (-8 : Int32) (31 : Int32)) := by
  refine ok_Q (fun Q9 hQ9 => ?_)
  unfold f_Top_read_F
  refine ok_bd (s_Reader_readAll_F (by assumption) (by clear hQ9; first | with_reducible assumption | (simp only [xl, xt, xe, xa, xb, xm, xg, ne_eq, Int32.reduceToInt] at * <;> omega) | grind) (by assumption) (by clear hQ9; first | with_reducible assumption | (simp only [xl, xt, xe, xa, xb, xm, xg, ne_eq, Int32.reduceToInt] at * <;> omega) | grind) (by assumption) (by assumption) (by assumption) (by assumption) (by assumption)) (fun o9 h9 => ?_)
  obtain ⟨r_1, sp_count_2, rd_place_3, rd_refusal_4, sp_ways_5, na_row_6, sp_symbolOf_7, sp_xs_8, sp_ys_9, sp_differs_10⟩ := o9
  try dsimp only at h9
  try dsimp only
  obtain ⟨q_10, q_11, q_12, q_13, q_14, q_15, q_16, q_17, q_18⟩ := h9
  refine ok_jn (fun j9 => ∀ (s_11 : Int32), ok (j9 s_11) Q9) ?_ (fun j28 h_j28 => ?_)
  · intro s_11
    have q_19 : ((0 : Int32) ≤ (0 : Int32) ∧ (0 : Int32) ≤ (2000 : Int32)) := by clear hQ9; first | with_reducible assumption | (simp only [xl, xt, xe, xa, xb, xm, xg, ne_eq, Int32.reduceToInt] at * <;> omega) | grind
    refine ok_if (fun q_20 => ?_) (fun q_20 => ?_)
    · skip
      exact ok_some (hQ9 _ ⟨by clear hQ9; first | with_reducible assumption | (simp only [xl, xt, xe, xa, xb, xm, xg, ne_eq, Int32.reduceToInt] at * <;> omega) | grind, by clear hQ9; first | with_reducible assumption | (simp only [xl, xt, xe, xa, xb, xm, xg, ne_eq, Int32.reduceToInt] at * <;> omega) | grind, by clear hQ9; first | with_reducible assumption | (simp only [xl, xt, xe, xa, xb, xm, xg, ne_eq, Int32.reduceToInt] at * <;> omega) | grind, by assumption, by clear hQ9; first | with_reducible assumption | (simp only [xl, xt, xe, xa, xb, xm, xg, ne_eq, Int32.reduceToInt] at * <;> omega) | grind, by assumption, by assumption, by assumption, by assumption⟩)
    · skip
      exact ok_some (hQ9 _ ⟨by clear hQ9; first | with_reducible assumption | (simp only [xl, xt, xe, xa, xb, xm, xg, ne_eq, Int32.reduceToInt] at * <;> omega) | grind, by clear hQ9; first | with_reducible assumption | (simp only [xl, xt, xe, xa, xb, xm, xg, ne_eq, Int32.reduceToInt] at * <;> omega) | grind, by clear hQ9; first | with_reducible assumption | (simp only [xl, xt, xe, xa, xb, xm, xg, ne_eq, Int32.reduceToInt] at * <;> omega) | grind, by assumption, by clear hQ9; first | with_reducible assumption | (simp only [xl, xt, xe, xa, xb, xm, xg, ne_eq, Int32.reduceToInt] at * <;> omega) | grind, by assumption, by assumption, by assumption, by assumption⟩)
  refine ok_if (fun q_21 => ?_) (fun q_21 => ?_)
  · skip
    exact h_j28 _
  · skip
    refine ok_bd (s_Reader_bitsRead (by clear hQ9 h_j28; first | with_reducible assumption | (simp only [xl, xt, xe, xa, xb, xm, xg, ne_eq, Int32.reduceToInt] at * <;> omega) | grind)) (fun o9 h9 => ?_)
    obtain ⟨r_12, rfl⟩ : ∃ z9, z9 = o9 := ⟨_, rfl⟩
    exact h_j28 _

set_option maxHeartbeats 4000000 in
set_option maxRecDepth 20000 in
theorem s_Law_symbol {out : (Nat → Int64)} {di_count : Int32} {di_widths : (Nat → Int32)} {di_heights : (Nat → Int32)} {di_samples : (Nat → Int64)} {p1 : Int32} {p2 : Int32} (q_1 : ((0 : Int32) ≤ di_count ∧ di_count ≤ (16 : Int32))) (q_2 : R di_widths (0 : Int32) (8 : Int32)) (q_3 : R di_heights (0 : Int32) (8 : Int32)) : ok (f_Law_symbol out di_count di_widths di_heights di_samples p1 p2) (fun o => ((0 : Int32) ≤ o.2.2.1 ∧ o.2.2.1 ≤ (16 : Int32)) ∧ R o.2.2.2.1 (0 : Int32) (8 : Int32) ∧ R o.2.2.2.2.1 (0 : Int32) (8 : Int32)) := by
  refine ok_Q (fun Q9 hQ9 => ?_)
  unfold f_Law_symbol
  refine ok_bd (s_Top_symbol (by clear hQ9; first | with_reducible assumption | (simp only [xl, xt, xe, xa, xb, xm, xg, ne_eq, Int32.reduceToInt] at * <;> omega) | grind) (by assumption) (by assumption)) (fun o9 h9 => ?_)
  cases o9 with
  | inl ex_5 =>
    try dsimp only at h9
    try dsimp only
    rcases h9 with rfl | rfl
    · skip
      refine ok_if (fun _ => ?_) (fun c9 => absurd rfl c9)
      exact ok_some (hQ9 _ ⟨by clear hQ9; first | with_reducible assumption | (simp only [xl, xt, xe, xa, xb, xm, xg, ne_eq, Int32.reduceToInt] at * <;> omega) | grind, by assumption, by assumption⟩)
    · skip
      refine ok_if (fun c9 => absurd c9 (by decide)) (fun _ => ?_)
      refine ok_if (fun _ => ?_) (fun c9 => absurd rfl c9)
      exact ok_some (hQ9 _ ⟨by clear hQ9; first | with_reducible assumption | (simp only [xl, xt, xe, xa, xb, xm, xg, ne_eq, Int32.reduceToInt] at * <;> omega) | grind, by assumption, by assumption⟩)
  | inr v9 =>
    obtain ⟨r_1, di_count_2, di_widths_3, di_heights_4, di_samples_5⟩ := v9
    try dsimp only at h9
    try dsimp only
    obtain ⟨q_4, q_5, q_6⟩ := h9
    refine ok_nl (fun w_6 e_w_6 => ?_)
    refine ok_gq (1 : Int32) (by decide) (by clear hQ9; first | with_reducible assumption | (simp only [xl, xt, xe, xa, xb, xm, xg, ne_eq, Int32.reduceToInt] at * <;> omega) | grind) (by clear hQ9; first | with_reducible assumption | (simp only [xl, xt, xe, xa, xb, xm, xg, ne_eq, Int32.reduceToInt] at * <;> omega) | grind) ?_
    exact ok_some (hQ9 _ ⟨by clear hQ9; first | with_reducible assumption | (simp only [xl, xt, xe, xa, xb, xm, xg, ne_eq, Int32.reduceToInt] at * <;> omega) | grind, by assumption, by assumption⟩)

set_option maxHeartbeats 4000000 in
set_option maxRecDepth 20000 in
theorem s_Law_put {out : (Nat → Int64)} {di_count : Int32} {di_widths : (Nat → Int32)} {di_heights : (Nat → Int32)} {di_samples : (Nat → Int64)} {p1 : Int32} {p2 : Int32} {p3 : Int32} {p4 : Int32} (q_1 : ((0 : Int32) ≤ di_count ∧ di_count ≤ (16 : Int32))) (q_2 : R di_widths (0 : Int32) (8 : Int32)) (q_3 : R di_heights (0 : Int32) (8 : Int32)) : ok (f_Law_put out di_count di_widths di_heights di_samples p1 p2 p3 p4) (fun o => True) := by
  refine ok_Q (fun Q9 hQ9 => ?_)
  unfold f_Law_put
  refine ok_bd (s_Top_put (by clear hQ9; first | with_reducible assumption | (simp only [xl, xt, xe, xa, xb, xm, xg, ne_eq, Int32.reduceToInt] at * <;> omega) | grind) (by assumption) (by assumption)) (fun o9 h9 => ?_)
  cases o9 with
  | inl ex_9 =>
    try dsimp only at h9
    try dsimp only
    subst h9
    · skip
      refine ok_if (fun _ => ?_) (fun c9 => absurd rfl c9)
      exact ok_some (hQ9 _ trivial)
  | inr v9 =>
    obtain ⟨r_1, di_samples_2⟩ := v9
    try dsimp only at h9
    try dsimp only
    have q_4 := h9
    clear h9
    refine ok_jn (fun j9 => ∀ (s_3 : Int32) (s_4 : Int64), ((0 : Int32) ≤ s_3 ∧ s_3 ≤ (0 : Int32)) → ok (j9 s_3 s_4) Q9) ?_ (fun j20 h_j20 => ?_)
    · intro s_3 s_4 q_5
      refine ok_gq (1 : Int32) (by decide) (by clear hQ9; first | with_reducible assumption | (simp only [xl, xt, xe, xa, xb, xm, xg, ne_eq, Int32.reduceToInt] at * <;> omega) | grind) (by clear hQ9; first | with_reducible assumption | (simp only [xl, xt, xe, xa, xb, xm, xg, ne_eq, Int32.reduceToInt] at * <;> omega) | grind) ?_
      exact ok_some (hQ9 _ trivial)
    refine ok_if (fun q_6 => ?_) (fun q_6 => ?_)
    · skip
      exact h_j20 _ _ (by clear hQ9 h_j20; first | with_reducible assumption | (simp only [xl, xt, xe, xa, xb, xm, xg, ne_eq, Int32.reduceToInt] at * <;> omega) | grind)
    · skip
      exact h_j20 _ _ (by clear hQ9 h_j20; first | with_reducible assumption | (simp only [xl, xt, xe, xa, xb, xm, xg, ne_eq, Int32.reduceToInt] at * <;> omega) | grind)

set_option maxHeartbeats 4000000 in
set_option maxRecDepth 20000 in
theorem s_Law_instance {out : (Nat → Int64)} {di_count : Int32} {la_count : Int32} {la_symbolOf : (Nat → Int32)} {la_xs : (Nat → Int32)} {la_ys : (Nat → Int32)} {la_differs : (Nat → Int64)} {p1 : Int32} {p2 : Int32} {p3 : Int32} (q_1 : ((0 : Int32) ≤ di_count ∧ di_count ≤ (16 : Int32))) (q_2 : ((0 : Int32) ≤ la_count ∧ la_count ≤ (40 : Int32))) (q_3 : R la_symbolOf (0 : Int32) (15 : Int32)) (q_4 : R la_xs (-8 : Int32) (31 : Int32)) (q_5 : R la_ys (-8 : Int32) (31 : Int32)) : ok (f_Law_instance out di_count la_count la_symbolOf la_xs la_ys la_differs p1 p2 p3) (fun o => ((0 : Int32) ≤ o.2.2.1 ∧ o.2.2.1 ≤ (40 : Int32)) ∧ R o.2.2.2.1 (0 : Int32) (15 : Int32) ∧ R o.2.2.2.2.1 (-8 : Int32) (31 : Int32) ∧ R o.2.2.2.2.2.1 (-8 : Int32) (31 : Int32)) := by
  refine ok_Q (fun Q9 hQ9 => ?_)
  unfold f_Law_instance
  refine ok_bd (s_Top_instance (by clear hQ9; first | with_reducible assumption | (simp only [xl, xt, xe, xa, xb, xm, xg, ne_eq, Int32.reduceToInt] at * <;> omega) | grind) (by clear hQ9; first | with_reducible assumption | (simp only [xl, xt, xe, xa, xb, xm, xg, ne_eq, Int32.reduceToInt] at * <;> omega) | grind) (by assumption) (by assumption) (by assumption)) (fun o9 h9 => ?_)
  cases o9 with
  | inl ex_7 =>
    try dsimp only at h9
    try dsimp only
    rcases h9 with rfl | rfl | rfl
    · skip
      refine ok_if (fun _ => ?_) (fun c9 => absurd rfl c9)
      exact ok_some (hQ9 _ ⟨by clear hQ9; first | with_reducible assumption | (simp only [xl, xt, xe, xa, xb, xm, xg, ne_eq, Int32.reduceToInt] at * <;> omega) | grind, by assumption, by assumption, by assumption⟩)
    · skip
      refine ok_if (fun c9 => absurd c9 (by decide)) (fun _ => ?_)
      refine ok_if (fun _ => ?_) (fun c9 => absurd rfl c9)
      exact ok_some (hQ9 _ ⟨by clear hQ9; first | with_reducible assumption | (simp only [xl, xt, xe, xa, xb, xm, xg, ne_eq, Int32.reduceToInt] at * <;> omega) | grind, by assumption, by assumption, by assumption⟩)
    · skip
      refine ok_if (fun c9 => absurd c9 (by decide)) (fun _ => ?_)
      refine ok_if (fun c9 => absurd c9 (by decide)) (fun _ => ?_)
      refine ok_if (fun _ => ?_) (fun c9 => absurd rfl c9)
      exact ok_some (hQ9 _ ⟨by clear hQ9; first | with_reducible assumption | (simp only [xl, xt, xe, xa, xb, xm, xg, ne_eq, Int32.reduceToInt] at * <;> omega) | grind, by assumption, by assumption, by assumption⟩)
  | inr v9 =>
    obtain ⟨r_1, la_count_2, la_symbolOf_3, la_xs_4, la_ys_5, la_differs_6⟩ := v9
    try dsimp only at h9
    try dsimp only
    obtain ⟨q_6, q_7, q_8, q_9⟩ := h9
    refine ok_nl (fun w_7 e_w_7 => ?_)
    refine ok_gq (1 : Int32) (by decide) (by clear hQ9; first | with_reducible assumption | (simp only [xl, xt, xe, xa, xb, xm, xg, ne_eq, Int32.reduceToInt] at * <;> omega) | grind) (by clear hQ9; first | with_reducible assumption | (simp only [xl, xt, xe, xa, xb, xm, xg, ne_eq, Int32.reduceToInt] at * <;> omega) | grind) ?_
    exact ok_some (hQ9 _ ⟨by clear hQ9; first | with_reducible assumption | (simp only [xl, xt, xe, xa, xb, xm, xg, ne_eq, Int32.reduceToInt] at * <;> omega) | grind, by assumption, by assumption, by assumption⟩)

set_option maxHeartbeats 4000000 in
set_option maxRecDepth 20000 in
theorem s_Law_refine {out : (Nat → Int64)} {la_count : Int32} {la_symbolOf : (Nat → Int32)} {di_widths : (Nat → Int32)} {di_heights : (Nat → Int32)} {la_differs : (Nat → Int64)} {p1 : Int32} {p2 : Int32} {p3 : Int32} {p4 : Int32} (q_1 : ((0 : Int32) ≤ la_count ∧ la_count ≤ (40 : Int32))) (q_2 : R la_symbolOf (0 : Int32) (15 : Int32)) (q_3 : R di_widths (0 : Int32) (8 : Int32)) (q_4 : R di_heights (0 : Int32) (8 : Int32)) : ok (f_Law_refine out la_count la_symbolOf di_widths di_heights la_differs p1 p2 p3 p4) (fun o => True) := by
  refine ok_Q (fun Q9 hQ9 => ?_)
  unfold f_Law_refine
  refine ok_bd (s_Top_refine (by clear hQ9; first | with_reducible assumption | (simp only [xl, xt, xe, xa, xb, xm, xg, ne_eq, Int32.reduceToInt] at * <;> omega) | grind) (by assumption) (by assumption) (by assumption)) (fun o9 h9 => ?_)
  cases o9 with
  | inl ex_9 =>
    try dsimp only at h9
    try dsimp only
    subst h9
    · skip
      refine ok_if (fun _ => ?_) (fun c9 => absurd rfl c9)
      exact ok_some (hQ9 _ trivial)
  | inr v9 =>
    obtain ⟨r_1, la_differs_2⟩ := v9
    try dsimp only at h9
    try dsimp only
    have q_5 := h9
    clear h9
    refine ok_jn (fun j9 => ∀ (s_3 : Int32) (s_4 : Int64), ((0 : Int32) ≤ s_3 ∧ s_3 ≤ (0 : Int32)) → ok (j9 s_3 s_4) Q9) ?_ (fun j20 h_j20 => ?_)
    · intro s_3 s_4 q_6
      refine ok_gq (1 : Int32) (by decide) (by clear hQ9; first | with_reducible assumption | (simp only [xl, xt, xe, xa, xb, xm, xg, ne_eq, Int32.reduceToInt] at * <;> omega) | grind) (by clear hQ9; first | with_reducible assumption | (simp only [xl, xt, xe, xa, xb, xm, xg, ne_eq, Int32.reduceToInt] at * <;> omega) | grind) ?_
      exact ok_some (hQ9 _ trivial)
    refine ok_if (fun q_7 => ?_) (fun q_7 => ?_)
    · skip
      exact h_j20 _ _ (by clear hQ9 h_j20; first | with_reducible assumption | (simp only [xl, xt, xe, xa, xb, xm, xg, ne_eq, Int32.reduceToInt] at * <;> omega) | grind)
    · skip
      exact h_j20 _ _ (by clear hQ9 h_j20; first | with_reducible assumption | (simp only [xl, xt, xe, xa, xb, xm, xg, ne_eq, Int32.reduceToInt] at * <;> omega) | grind)

set_option maxHeartbeats 4000000 in
set_option maxRecDepth 20000 in
theorem s_Law_way {out : (Nat → Int64)} {la_ways : (Nat → Int32)} {p1 : Int32} {p2 : Int32} (q_1 : R la_ways (0 : Int32) (7 : Int32)) : ok (f_Law_way out la_ways p1 p2) (fun o => R o.2.2 (0 : Int32) (7 : Int32)) := by
  refine ok_Q (fun Q9 hQ9 => ?_)
  unfold f_Law_way
  refine ok_bd (s_Top_way (by assumption)) (fun o9 h9 => ?_)
  cases o9 with
  | inl ex_5 =>
    try dsimp only at h9
    try dsimp only
    subst h9
    · skip
      refine ok_if (fun _ => ?_) (fun c9 => absurd rfl c9)
      exact ok_some (hQ9 _ (by assumption))
  | inr v9 =>
    obtain ⟨r_1, la_ways_2⟩ := v9
    try dsimp only at h9
    try dsimp only
    have q_2 := h9
    clear h9
    refine ok_nl (fun w_3 e_w_3 => ?_)
    refine ok_gq (1 : Int32) (by decide) (by clear hQ9; first | with_reducible assumption | (simp only [xl, xt, xe, xa, xb, xm, xg, ne_eq, Int32.reduceToInt] at * <;> omega) | grind) (by clear hQ9; first | with_reducible assumption | (simp only [xl, xt, xe, xa, xb, xm, xg, ne_eq, Int32.reduceToInt] at * <;> omega) | grind) ?_
    exact ok_some (hQ9 _ (by assumption))

set_option maxHeartbeats 4000000 in
set_option maxRecDepth 20000 in
theorem s_Law_at {out : (Nat → Int64)} {pg_width : Int32} {pg_height : Int32} {n_pg_dark : Nat} {pg_dark : (Nat → Int32)} {p1 : Int32} {p2 : Int32} {N9 : Int32} (hn9 : (n_pg_dark : Int) = N9.toInt) (hN9 : 0 ≤ N9 ∧ N9 ≤ 576) (hwh : N9 = pg_width * pg_height) (q_1 : ((1 : Int32) ≤ pg_width ∧ pg_width ≤ (24 : Int32))) (q_2 : ((1 : Int32) ≤ pg_height ∧ pg_height ≤ (24 : Int32))) (q_3 : R pg_dark (0 : Int32) (1 : Int32)) : ok (f_Law_at out pg_width pg_height n_pg_dark pg_dark p1 p2) (fun o => True) := by
  refine ok_Q (fun Q9 hQ9 => ?_)
  unfold f_Law_at
  refine ok_bd (s_Top_at hn9 hN9 hwh (by clear hQ9; first | with_reducible assumption | (simp only [xl, xt, xe, xa, xb, xm, xg, ne_eq, Int32.reduceToInt] at * <;> omega) | grind) (by clear hQ9; first | with_reducible assumption | (simp only [xl, xt, xe, xa, xb, xm, xg, ne_eq, Int32.reduceToInt] at * <;> omega) | grind) (by assumption)) (fun o9 h9 => ?_)
  cases o9 with
  | inl ex_5 =>
    try dsimp only at h9
    try dsimp only
    subst h9
    · skip
      refine ok_if (fun _ => ?_) (fun c9 => absurd rfl c9)
      exact ok_some (hQ9 _ trivial)
  | inr v9 =>
    obtain ⟨r_1, rfl⟩ : ∃ z9, z9 = v9 := ⟨_, rfl⟩
    try dsimp only at h9
    try dsimp only
    have q_4 := h9
    clear h9
    refine ok_jn (fun j9 => ∀ (s_2 : Int32) (s_3 : Int64), ((0 : Int32) ≤ s_2 ∧ s_2 ≤ (0 : Int32)) → ok (j9 s_2 s_3) Q9) ?_ (fun j16 h_j16 => ?_)
    · intro s_2 s_3 q_5
      refine ok_gq (1 : Int32) (by decide) (by clear hQ9; first | with_reducible assumption | (simp only [xl, xt, xe, xa, xb, xm, xg, ne_eq, Int32.reduceToInt] at * <;> omega) | grind) (by clear hQ9; first | with_reducible assumption | (simp only [xl, xt, xe, xa, xb, xm, xg, ne_eq, Int32.reduceToInt] at * <;> omega) | grind) ?_
      exact ok_some (hQ9 _ trivial)
    refine ok_if (fun q_6 => ?_) (fun q_6 => ?_)
    · skip
      exact h_j16 _ _ (by clear hQ9 h_j16; first | with_reducible assumption | (simp only [xl, xt, xe, xa, xb, xm, xg, ne_eq, Int32.reduceToInt] at * <;> omega) | grind)
    · skip
      exact h_j16 _ _ (by clear hQ9 h_j16; first | with_reducible assumption | (simp only [xl, xt, xe, xa, xb, xm, xg, ne_eq, Int32.reduceToInt] at * <;> omega) | grind)

set_option maxHeartbeats 4000000 in
set_option maxRecDepth 20000 in
theorem s_Law_byteAt {out : (Nat → Int64)} {tb_count : Int32} {tb_bytes : (Nat → Int32)} {p1 : Int32} (q_1 : ((0 : Int32) ≤ tb_count ∧ tb_count ≤ (2000 : Int32))) : ok (f_Law_byteAt out tb_count tb_bytes p1) (fun o => True) := by
  refine ok_Q (fun Q9 hQ9 => ?_)
  unfold f_Law_byteAt
  refine ok_bd (s_Top_byteAt (by clear hQ9; first | with_reducible assumption | (simp only [xl, xt, xe, xa, xb, xm, xg, ne_eq, Int32.reduceToInt] at * <;> omega) | grind)) (fun o9 h9 => ?_)
  cases o9 with
  | inl ex_4 =>
    try dsimp only at h9
    try dsimp only
    subst h9
    · skip
      refine ok_if (fun _ => ?_) (fun c9 => absurd rfl c9)
      exact ok_some (hQ9 _ trivial)
  | inr v9 =>
    obtain ⟨r_1, rfl⟩ : ∃ z9, z9 = v9 := ⟨_, rfl⟩
    try dsimp only at h9
    try dsimp only
    refine ok_nl (fun w_2 e_w_2 => ?_)
    refine ok_gq (1 : Int32) (by decide) (by clear hQ9; first | with_reducible assumption | (simp only [xl, xt, xe, xa, xb, xm, xg, ne_eq, Int32.reduceToInt] at * <;> omega) | grind) (by clear hQ9; first | with_reducible assumption | (simp only [xl, xt, xe, xa, xb, xm, xg, ne_eq, Int32.reduceToInt] at * <;> omega) | grind) ?_
    exact ok_some (hQ9 _ trivial)

set_option maxHeartbeats 4000000 in
set_option maxRecDepth 20000 in
theorem s_Law_feed {out : (Nat → Int64)} {cb_count : Int32} {cb_bytes : (Nat → Int32)} {p1 : Int32} (q_1 : ((0 : Int32) ≤ cb_count ∧ cb_count ≤ (2000 : Int32))) : ok (f_Law_feed out cb_count cb_bytes p1) (fun o => ((0 : Int32) ≤ o.2.2.1 ∧ o.2.2.1 ≤ (2000 : Int32))) := by
  refine ok_Q (fun Q9 hQ9 => ?_)
  unfold f_Law_feed
  refine ok_bd (s_Top_feed (by clear hQ9; first | with_reducible assumption | (simp only [xl, xt, xe, xa, xb, xm, xg, ne_eq, Int32.reduceToInt] at * <;> omega) | grind)) (fun o9 h9 => ?_)
  cases o9 with
  | inl ex_4 =>
    try dsimp only at h9
    try dsimp only
    rcases h9 with rfl | rfl
    · skip
      refine ok_if (fun _ => ?_) (fun c9 => absurd rfl c9)
      exact ok_some (hQ9 _ (by clear hQ9; first | with_reducible assumption | (simp only [xl, xt, xe, xa, xb, xm, xg, ne_eq, Int32.reduceToInt] at * <;> omega) | grind))
    · skip
      refine ok_if (fun c9 => absurd c9 (by decide)) (fun _ => ?_)
      refine ok_if (fun _ => ?_) (fun c9 => absurd rfl c9)
      exact ok_some (hQ9 _ (by clear hQ9; first | with_reducible assumption | (simp only [xl, xt, xe, xa, xb, xm, xg, ne_eq, Int32.reduceToInt] at * <;> omega) | grind))
  | inr v9 =>
    obtain ⟨r_1, cb_count_2, cb_bytes_3⟩ := v9
    try dsimp only at h9
    try dsimp only
    have q_2 := h9
    clear h9
    refine ok_nl (fun w_4 e_w_4 => ?_)
    refine ok_gq (1 : Int32) (by decide) (by clear hQ9; first | with_reducible assumption | (simp only [xl, xt, xe, xa, xb, xm, xg, ne_eq, Int32.reduceToInt] at * <;> omega) | grind) (by clear hQ9; first | with_reducible assumption | (simp only [xl, xt, xe, xa, xb, xm, xg, ne_eq, Int32.reduceToInt] at * <;> omega) | grind) ?_
    exact ok_some (hQ9 _ (by clear hQ9; first | with_reducible assumption | (simp only [xl, xt, xe, xa, xb, xm, xg, ne_eq, Int32.reduceToInt] at * <;> omega) | grind))

set_option maxHeartbeats 4000000 in
set_option maxRecDepth 20000 in
theorem s_Law_pass {out : (Nat → Int64)} {tb_count : Int32} {cb_count : Int32} {tb_bytes : (Nat → Int32)} {cb_bytes : (Nat → Int32)} (q_1 : ((0 : Int32) ≤ tb_count ∧ tb_count ≤ (2000 : Int32))) (q_2 : ((0 : Int32) ≤ cb_count ∧ cb_count ≤ (2000 : Int32))) : ok (f_Law_pass out tb_count cb_count tb_bytes cb_bytes) (fun o => ((0 : Int32) ≤ o.2.2.1 ∧ o.2.2.1 ≤ (2000 : Int32))) := by
  refine ok_Q (fun Q9 hQ9 => ?_)
  unfold f_Law_pass
  refine ok_bd (s_Top_pass (by clear hQ9; first | with_reducible assumption | (simp only [xl, xt, xe, xa, xb, xm, xg, ne_eq, Int32.reduceToInt] at * <;> omega) | grind) (by clear hQ9; first | with_reducible assumption | (simp only [xl, xt, xe, xa, xb, xm, xg, ne_eq, Int32.reduceToInt] at * <;> omega) | grind)) (fun o9 h9 => ?_)
  cases o9 with
  | inl ex_3 =>
    try dsimp only at h9
    try dsimp only
    subst h9
    · skip
      refine ok_if (fun _ => ?_) (fun c9 => absurd rfl c9)
      exact ok_some (hQ9 _ (by clear hQ9; first | with_reducible assumption | (simp only [xl, xt, xe, xa, xb, xm, xg, ne_eq, Int32.reduceToInt] at * <;> omega) | grind))
  | inr v9 =>
    obtain ⟨r_1, cb_count_2, cb_bytes_3⟩ := v9
    try dsimp only at h9
    try dsimp only
    have q_3 := h9
    clear h9
    refine ok_nl (fun w_4 e_w_4 => ?_)
    refine ok_gq (1 : Int32) (by decide) (by clear hQ9; first | with_reducible assumption | (simp only [xl, xt, xe, xa, xb, xm, xg, ne_eq, Int32.reduceToInt] at * <;> omega) | grind) (by clear hQ9; first | with_reducible assumption | (simp only [xl, xt, xe, xa, xb, xm, xg, ne_eq, Int32.reduceToInt] at * <;> omega) | grind) ?_
    exact ok_some (hQ9 _ (by clear hQ9; first | with_reducible assumption | (simp only [xl, xt, xe, xa, xb, xm, xg, ne_eq, Int32.reduceToInt] at * <;> omega) | grind))

set_option maxHeartbeats 4000000 in
set_option maxRecDepth 20000 in
theorem s_Law_place {out : (Nat → Int64)} {la_count : Int32} {la_symbolOf : (Nat → Int32)} {la_xs : (Nat → Int32)} {la_ys : (Nat → Int32)} {la_ways : (Nat → Int32)} {di_widths : (Nat → Int32)} {di_heights : (Nat → Int32)} {la_differs : (Nat → Int64)} {p1 : Int32} {p2 : Int32} (q_1 : ((0 : Int32) ≤ la_count ∧ la_count ≤ (40 : Int32))) (q_2 : R la_symbolOf (0 : Int32) (15 : Int32)) (q_3 : R la_xs (-8 : Int32) (31 : Int32)) (q_4 : R la_ys (-8 : Int32) (31 : Int32)) (q_5 : R la_ways (0 : Int32) (7 : Int32)) (q_6 : R di_widths (0 : Int32) (8 : Int32)) (q_7 : R di_heights (0 : Int32) (8 : Int32)) : ok (f_Law_place out la_count la_symbolOf la_xs la_ys la_ways di_widths di_heights la_differs p1 p2) (fun o => True) := by
  refine ok_Q (fun Q9 hQ9 => ?_)
  unfold f_Law_place
  refine ok_bd (s_Top_place (by clear hQ9; first | with_reducible assumption | (simp only [xl, xt, xe, xa, xb, xm, xg, ne_eq, Int32.reduceToInt] at * <;> omega) | grind) (by assumption) (by assumption) (by assumption) (by assumption) (by assumption) (by assumption)) (fun o9 h9 => ?_)
  cases o9 with
  | inl ex_5 =>
    try dsimp only at h9
    try dsimp only
    subst h9
    · skip
      refine ok_if (fun _ => ?_) (fun c9 => absurd rfl c9)
      exact ok_some (hQ9 _ trivial)
  | inr v9 =>
    obtain ⟨r_1, rfl⟩ : ∃ z9, z9 = v9 := ⟨_, rfl⟩
    try dsimp only at h9
    try dsimp only
    refine ok_nl (fun w_2 e_w_2 => ?_)
    refine ok_gq (1 : Int32) (by decide) (by clear hQ9; first | with_reducible assumption | (simp only [xl, xt, xe, xa, xb, xm, xg, ne_eq, Int32.reduceToInt] at * <;> omega) | grind) (by clear hQ9; first | with_reducible assumption | (simp only [xl, xt, xe, xa, xb, xm, xg, ne_eq, Int32.reduceToInt] at * <;> omega) | grind) ?_
    exact ok_some (hQ9 _ trivial)

set_option maxHeartbeats 4000000 in
set_option maxRecDepth 20000 in
theorem s_Law_order_C {out : (Nat → Int64)} {la_count : Int32} {la_ways : (Nat → Int32)} {la_ys : (Nat → Int32)} {la_symbolOf : (Nat → Int32)} {di_count : Int32} {di_heights : (Nat → Int32)} {la_xs : (Nat → Int32)} {di_widths : (Nat → Int32)} {la_sequence : (Nat → Int32)} {na_weights : (Nat → Int32)} {na_joinedTo : (Nat → Int32)} {na_lengths : (Nat → Int32)} {na_codes : (Nat → Int32)} {wr_keeping : Int32} {wr_count : Int32} {tb_count : Int32} {tb_bytes : (Nat → Int32)} {la_differs : (Nat → Int64)} {p1 : Int32} (q_1 : ((0 : Int32) ≤ la_count ∧ la_count ≤ (40 : Int32))) (q_2 : R la_ways (0 : Int32) (7 : Int32)) (q_3 : R la_ys (-8 : Int32) (31 : Int32)) (q_4 : R la_symbolOf (0 : Int32) (15 : Int32)) (q_5 : ((0 : Int32) ≤ di_count ∧ di_count ≤ (16 : Int32))) (q_6 : R di_heights (0 : Int32) (8 : Int32)) (q_7 : R la_xs (-8 : Int32) (31 : Int32)) (q_8 : R di_widths (0 : Int32) (8 : Int32)) (q_9 : R la_sequence (0 : Int32) (39 : Int32)) (q_10 : R na_joinedTo (-1 : Int32) (31 : Int32)) (q_11 : R na_lengths (0 : Int32) (15 : Int32)) (q_12 : ((0 : Int32) ≤ wr_keeping ∧ wr_keeping ≤ (1 : Int32))) (q_13 : ((0 : Int32) ≤ wr_count ∧ wr_count ≤ (1000000 : Int32))) (q_14 : ((0 : Int32) ≤ tb_count ∧ tb_count ≤ (2000 : Int32))) : ok (f_Law_order_C out la_count la_ways la_ys la_symbolOf di_count di_heights la_xs di_widths la_sequence na_weights na_joinedTo na_lengths na_codes wr_keeping wr_count tb_count tb_bytes la_differs p1) (fun o => R o.2.2.1 (-8 : Int32) (31 : Int32) ∧ R o.2.2.2.1 (0 : Int32) (15 : Int32) ∧ R o.2.2.2.2.1 (-8 : Int32) (31 : Int32) ∧ R o.2.2.2.2.2.1 (0 : Int32) (39 : Int32) ∧ R o.2.2.2.2.2.2.2.1 (-1 : Int32) (31 : Int32) ∧ R o.2.2.2.2.2.2.2.2.1 (0 : Int32) (15 : Int32) ∧ ((0 : Int32) ≤ o.2.2.2.2.2.2.2.2.2.2.1 ∧ o.2.2.2.2.2.2.2.2.2.2.1 ≤ (1 : Int32)) ∧ ((0 : Int32) ≤ o.2.2.2.2.2.2.2.2.2.2.2.1 ∧ o.2.2.2.2.2.2.2.2.2.2.2.1 ≤ (1000000 : Int32)) ∧ ((0 : Int32) ≤ o.2.2.2.2.2.2.2.2.2.2.2.2.1 ∧ o.2.2.2.2.2.2.2.2.2.2.2.2.1 ≤ (2000 : Int32))) := by
  refine ok_Q (fun Q9 hQ9 => ?_)
  unfold f_Law_order_C
  refine ok_bd (s_Top_order_C (by clear hQ9; first | with_reducible assumption | (simp only [xl, xt, xe, xa, xb, xm, xg, ne_eq, Int32.reduceToInt] at * <;> omega) | grind) (by assumption) (by assumption) (by assumption) (by clear hQ9; first | with_reducible assumption | (simp only [xl, xt, xe, xa, xb, xm, xg, ne_eq, Int32.reduceToInt] at * <;> omega) | grind) (by assumption) (by assumption) (by assumption) (by assumption) (by assumption) (by assumption) (by clear hQ9; first | with_reducible assumption | (simp only [xl, xt, xe, xa, xb, xm, xg, ne_eq, Int32.reduceToInt] at * <;> omega) | grind) (by clear hQ9; first | with_reducible assumption | (simp only [xl, xt, xe, xa, xb, xm, xg, ne_eq, Int32.reduceToInt] at * <;> omega) | grind) (by clear hQ9; first | with_reducible assumption | (simp only [xl, xt, xe, xa, xb, xm, xg, ne_eq, Int32.reduceToInt] at * <;> omega) | grind)) (fun o9 h9 => ?_)
  cases o9 with
  | inl ex_4 =>
    try dsimp only at h9
    try dsimp only
    subst h9
    · skip
      refine ok_if (fun _ => ?_) (fun c9 => absurd rfl c9)
      exact ok_some (hQ9 _ ⟨by assumption, by assumption, by assumption, by assumption, by assumption, by assumption, by clear hQ9; first | with_reducible assumption | (simp only [xl, xt, xe, xa, xb, xm, xg, ne_eq, Int32.reduceToInt] at * <;> omega) | grind, by clear hQ9; first | with_reducible assumption | (simp only [xl, xt, xe, xa, xb, xm, xg, ne_eq, Int32.reduceToInt] at * <;> omega) | grind, by clear hQ9; first | with_reducible assumption | (simp only [xl, xt, xe, xa, xb, xm, xg, ne_eq, Int32.reduceToInt] at * <;> omega) | grind⟩)
  | inr v9 =>
    obtain ⟨r_1, la_ys_2, la_symbolOf_3, la_xs_4, la_sequence_5, na_weights_6, na_joinedTo_7, na_lengths_8, na_codes_9, wr_keeping_10, wr_count_11, tb_count_12, tb_bytes_13, la_differs_14⟩ := v9
    try dsimp only at h9
    try dsimp only
    obtain ⟨q_15, q_16, q_17, q_18, q_19, q_20, q_21, q_22, q_23⟩ := h9
    refine ok_nl (fun w_15 e_w_15 => ?_)
    refine ok_gq (1 : Int32) (by decide) (by clear hQ9; first | with_reducible assumption | (simp only [xl, xt, xe, xa, xb, xm, xg, ne_eq, Int32.reduceToInt] at * <;> omega) | grind) (by clear hQ9; first | with_reducible assumption | (simp only [xl, xt, xe, xa, xb, xm, xg, ne_eq, Int32.reduceToInt] at * <;> omega) | grind) ?_
    exact ok_some (hQ9 _ ⟨by assumption, by assumption, by assumption, by assumption, by assumption, by assumption, by clear hQ9; first | with_reducible assumption | (simp only [xl, xt, xe, xa, xb, xm, xg, ne_eq, Int32.reduceToInt] at * <;> omega) | grind, by clear hQ9; first | with_reducible assumption | (simp only [xl, xt, xe, xa, xb, xm, xg, ne_eq, Int32.reduceToInt] at * <;> omega) | grind, by clear hQ9; first | with_reducible assumption | (simp only [xl, xt, xe, xa, xb, xm, xg, ne_eq, Int32.reduceToInt] at * <;> omega) | grind⟩)

set_option maxHeartbeats 4000000 in
set_option maxRecDepth 20000 in
theorem s_Law_order_F {out : (Nat → Int64)} {la_count : Int32} {la_ways : (Nat → Int32)} {la_ys : (Nat → Int32)} {la_symbolOf : (Nat → Int32)} {di_count : Int32} {di_heights : (Nat → Int32)} {la_xs : (Nat → Int32)} {di_widths : (Nat → Int32)} {la_sequence : (Nat → Int32)} {wr_keeping : Int32} {wr_count : Int32} {tb_count : Int32} {tb_bytes : (Nat → Int32)} {na_row : (Nat → Int32)} {la_differs : (Nat → Int64)} {p1 : Int32} (q_1 : ((0 : Int32) ≤ la_count ∧ la_count ≤ (40 : Int32))) (q_2 : R la_ways (0 : Int32) (7 : Int32)) (q_3 : R la_ys (-8 : Int32) (31 : Int32)) (q_4 : R la_symbolOf (0 : Int32) (15 : Int32)) (q_5 : ((0 : Int32) ≤ di_count ∧ di_count ≤ (16 : Int32))) (q_6 : R di_heights (0 : Int32) (8 : Int32)) (q_7 : R la_xs (-8 : Int32) (31 : Int32)) (q_8 : R di_widths (0 : Int32) (8 : Int32)) (q_9 : R la_sequence (0 : Int32) (39 : Int32)) (q_10 : ((0 : Int32) ≤ wr_keeping ∧ wr_keeping ≤ (1 : Int32))) (q_11 : ((0 : Int32) ≤ wr_count ∧ wr_count ≤ (1000000 : Int32))) (q_12 : ((0 : Int32) ≤ tb_count ∧ tb_count ≤ (2000 : Int32))) (q_13 : R na_row (0 : Int32) (15 : Int32)) : ok (f_Law_order_F out la_count la_ways la_ys la_symbolOf di_count di_heights la_xs di_widths la_sequence wr_keeping wr_count tb_count tb_bytes na_row la_differs p1) (fun o => R o.2.2.1 (-8 : Int32) (31 : Int32) ∧ R o.2.2.2.1 (0 : Int32) (15 : Int32) ∧ R o.2.2.2.2.1 (-8 : Int32) (31 : Int32) ∧ R o.2.2.2.2.2.1 (0 : Int32) (39 : Int32) ∧ ((0 : Int32) ≤ o.2.2.2.2.2.2.1 ∧ o.2.2.2.2.2.2.1 ≤ (1 : Int32)) ∧ ((0 : Int32) ≤ o.2.2.2.2.2.2.2.1 ∧ o.2.2.2.2.2.2.2.1 ≤ (1000000 : Int32)) ∧ ((0 : Int32) ≤ o.2.2.2.2.2.2.2.2.1 ∧ o.2.2.2.2.2.2.2.2.1 ≤ (2000 : Int32)) ∧ R o.2.2.2.2.2.2.2.2.2.2.1 (0 : Int32) (15 : Int32)) := by
  refine ok_Q (fun Q9 hQ9 => ?_)
  unfold f_Law_order_F
  refine ok_bd (s_Top_order_F (by clear hQ9; first | with_reducible assumption | (simp only [xl, xt, xe, xa, xb, xm, xg, ne_eq, Int32.reduceToInt] at * <;> omega) | grind) (by assumption) (by assumption) (by assumption) (by clear hQ9; first | with_reducible assumption | (simp only [xl, xt, xe, xa, xb, xm, xg, ne_eq, Int32.reduceToInt] at * <;> omega) | grind) (by assumption) (by assumption) (by assumption) (by assumption) (by clear hQ9; first | with_reducible assumption | (simp only [xl, xt, xe, xa, xb, xm, xg, ne_eq, Int32.reduceToInt] at * <;> omega) | grind) (by clear hQ9; first | with_reducible assumption | (simp only [xl, xt, xe, xa, xb, xm, xg, ne_eq, Int32.reduceToInt] at * <;> omega) | grind) (by clear hQ9; first | with_reducible assumption | (simp only [xl, xt, xe, xa, xb, xm, xg, ne_eq, Int32.reduceToInt] at * <;> omega) | grind) (by assumption)) (fun o9 h9 => ?_)
  cases o9 with
  | inl ex_4 =>
    try dsimp only at h9
    try dsimp only
    subst h9
    · skip
      refine ok_if (fun _ => ?_) (fun c9 => absurd rfl c9)
      exact ok_some (hQ9 _ ⟨by assumption, by assumption, by assumption, by assumption, by clear hQ9; first | with_reducible assumption | (simp only [xl, xt, xe, xa, xb, xm, xg, ne_eq, Int32.reduceToInt] at * <;> omega) | grind, by clear hQ9; first | with_reducible assumption | (simp only [xl, xt, xe, xa, xb, xm, xg, ne_eq, Int32.reduceToInt] at * <;> omega) | grind, by clear hQ9; first | with_reducible assumption | (simp only [xl, xt, xe, xa, xb, xm, xg, ne_eq, Int32.reduceToInt] at * <;> omega) | grind, by assumption⟩)
  | inr v9 =>
    obtain ⟨r_1, la_ys_2, la_symbolOf_3, la_xs_4, la_sequence_5, wr_keeping_6, wr_count_7, tb_count_8, tb_bytes_9, na_row_10, la_differs_11⟩ := v9
    try dsimp only at h9
    try dsimp only
    obtain ⟨q_14, q_15, q_16, q_17, q_18, q_19, q_20, q_21⟩ := h9
    refine ok_nl (fun w_12 e_w_12 => ?_)
    refine ok_gq (1 : Int32) (by decide) (by clear hQ9; first | with_reducible assumption | (simp only [xl, xt, xe, xa, xb, xm, xg, ne_eq, Int32.reduceToInt] at * <;> omega) | grind) (by clear hQ9; first | with_reducible assumption | (simp only [xl, xt, xe, xa, xb, xm, xg, ne_eq, Int32.reduceToInt] at * <;> omega) | grind) ?_
    exact ok_some (hQ9 _ ⟨by assumption, by assumption, by assumption, by assumption, by clear hQ9; first | with_reducible assumption | (simp only [xl, xt, xe, xa, xb, xm, xg, ne_eq, Int32.reduceToInt] at * <;> omega) | grind, by clear hQ9; first | with_reducible assumption | (simp only [xl, xt, xe, xa, xb, xm, xg, ne_eq, Int32.reduceToInt] at * <;> omega) | grind, by clear hQ9; first | with_reducible assumption | (simp only [xl, xt, xe, xa, xb, xm, xg, ne_eq, Int32.reduceToInt] at * <;> omega) | grind, by assumption⟩)

