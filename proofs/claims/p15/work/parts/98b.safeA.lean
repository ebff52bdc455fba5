set_option maxHeartbeats 4000000 in
set_option maxRecDepth 20000 in
theorem s_Top_isWithin {p0 : Int32} {p1 : Int32} {p2 : Int32} : ok (f_Top_isWithin p0 p1 p2) (fun o => ((0 : Int32) ≤ o ∧ o ≤ (1 : Int32)) ∧ (o = 1 → p1 ≤ p0 ∧ p0 ≤ p2)) := by
  refine ok_Q (fun Q9 hQ9 => ?_)
  unfold f_Top_isWithin
  refine ok_if (fun q_1 => ?_) (fun q_1 => ?_)
  · skip
    exact ok_some (hQ9 _ ⟨by clear hQ9; first | with_reducible assumption | (simp only [xl, xt, xe, xa, xb, xm, xg, ne_eq, Int32.reduceToInt] at * <;> omega) | grind, by clear hQ9; first | with_reducible assumption | (simp only [xl, xt, xe, xa, xb, xm, xg, ne_eq, Int32.reduceToInt] at * <;> omega) | grind⟩)
  · skip
    refine ok_if (fun q_2 => ?_) (fun q_2 => ?_)
    · skip
      exact ok_some (hQ9 _ ⟨by clear hQ9; first | with_reducible assumption | (simp only [xl, xt, xe, xa, xb, xm, xg, ne_eq, Int32.reduceToInt] at * <;> omega) | grind, by clear hQ9; first | with_reducible assumption | (simp only [xl, xt, xe, xa, xb, xm, xg, ne_eq, Int32.reduceToInt] at * <;> omega) | grind⟩)
    · skip
      exact ok_some (hQ9 _ ⟨by clear hQ9; first | with_reducible assumption | (simp only [xl, xt, xe, xa, xb, xm, xg, ne_eq, Int32.reduceToInt] at * <;> omega) | grind, by clear hQ9; first | with_reducible assumption | (simp only [xl, xt, xe, xa, xb, xm, xg, ne_eq, Int32.reduceToInt] at * <;> omega) | grind⟩)

set_option maxHeartbeats 4000000 in
set_option maxRecDepth 20000 in
theorem s_Top_isPlace {p0 : Int32} : ok (f_Top_isPlace p0) (fun o => ((0 : Int32) ≤ o ∧ o ≤ (1 : Int32)) ∧ (o = 1 → (-8 : Int32) ≤ p0 ∧ p0 ≤ (31 : Int32))) := by
  refine ok_Q (fun Q9 hQ9 => ?_)
  unfold f_Top_isPlace
  refine ok_bd (s_Top_isWithin) (fun o9 h9 => ?_)
  obtain ⟨r_1, rfl⟩ : ∃ z9, z9 = o9 := ⟨_, rfl⟩
  obtain ⟨q_1, q_2⟩ := h9
  refine ok_bz (by clear hQ9; first | with_reducible assumption | (simp only [xl, xt, xe, xa, xb, xm, xg, ne_eq, Int32.reduceToInt] at * <;> omega) | grind) ?_
  exact ok_some (hQ9 _ ⟨by clear hQ9; first | with_reducible assumption | (simp only [xl, xt, xe, xa, xb, xm, xg, ne_eq, Int32.reduceToInt] at * <;> omega) | grind, by clear hQ9; first | with_reducible assumption | (simp only [xl, xt, xe, xa, xb, xm, xg, ne_eq, Int32.reduceToInt] at * <;> omega) | grind⟩)

set_option maxHeartbeats 4000000 in
set_option maxRecDepth 20000 in
theorem s_Top_nearest {p0 : Int32} {p1 : Int32} {p2 : Int32} : ok (f_Top_nearest p0 p1 p2) (fun o => True) := by
  refine ok_Q (fun Q9 hQ9 => ?_)
  unfold f_Top_nearest
  exact ok_some (hQ9 _ trivial)

set_option maxHeartbeats 4000000 in
set_option maxRecDepth 20000 in
theorem s_Top_withBit {p0 : Int64} {p1 : Int32} {p2 : Int32} : ok (f_Top_withBit p0 p1 p2) (fun o => True) := by
  refine ok_Q (fun Q9 hQ9 => ?_)
  unfold f_Top_withBit
  refine ok_if (fun q_1 => ?_) (fun q_1 => ?_)
  · skip
    exact ok_some (hQ9 _ trivial)
  · skip
    exact ok_some (hQ9 _ trivial)

set_option maxHeartbeats 4000000 in
set_option maxRecDepth 20000 in
theorem s_Top_hasBit {p0 : Int64} {p1 : Int32} : ok (f_Top_hasBit p0 p1) (fun o => ((0 : Int32) ≤ o ∧ o ≤ (1 : Int32))) := by
  refine ok_Q (fun Q9 hQ9 => ?_)
  unfold f_Top_hasBit
  refine ok_if (fun q_1 => ?_) (fun q_1 => ?_)
  · skip
    exact ok_some (hQ9 _ (by clear hQ9; first | with_reducible assumption | (simp only [xl, xt, xe, xa, xb, xm, xg, ne_eq, Int32.reduceToInt] at * <;> omega) | grind))
  · skip
    exact ok_some (hQ9 _ (by clear hQ9; first | with_reducible assumption | (simp only [xl, xt, xe, xa, xb, xm, xg, ne_eq, Int32.reduceToInt] at * <;> omega) | grind))

set_option maxHeartbeats 4000000 in
set_option maxRecDepth 20000 in
theorem s_Dictionary_add {di_count : Int32} {di_widths : (Nat → Int32)} {di_heights : (Nat → Int32)} {di_samples : (Nat → Int64)} {p0 : Int32} {p1 : Int32} (q_1 : ((0 : Int32) ≤ di_count ∧ di_count ≤ (16 : Int32))) (q_2 : R di_widths (0 : Int32) (8 : Int32)) (q_3 : R di_heights (0 : Int32) (8 : Int32)) (q_4 : ((1 : Int32) ≤ p0 ∧ p0 ≤ (8 : Int32))) (q_5 : ((1 : Int32) ≤ p1 ∧ p1 ≤ (8 : Int32))) (q_6 : di_count < (16 : Int32)) : ok (f_Dictionary_add di_count di_widths di_heights di_samples p0 p1) (fun o => ((0 : Int32) ≤ o.2.1 ∧ o.2.1 ≤ (16 : Int32)) ∧ R o.2.2.1 (0 : Int32) (8 : Int32) ∧ R o.2.2.2.1 (0 : Int32) (8 : Int32) ∧ (o.2.1 = di_count + 1)) := by
  refine ok_Q (fun Q9 hQ9 => ?_)
  unfold f_Dictionary_add
  refine ok_gq (16 : Int32) (by decide) (by clear hQ9; first | with_reducible assumption | (simp only [xl, xt, xe, xa, xb, xm, xg, ne_eq, Int32.reduceToInt] at * <;> omega) | grind) (by clear hQ9; first | with_reducible assumption | (simp only [xl, xt, xe, xa, xb, xm, xg, ne_eq, Int32.reduceToInt] at * <;> omega) | grind) ?_
  have q_7 : R (upd di_widths (di_count).toNatClampNeg p0) (0 : Int32) (8 : Int32) := R_upd (by assumption) _ (by clear hQ9; first | with_reducible assumption | (simp only [xl, xt, xe, xa, xb, xm, xg, ne_eq, Int32.reduceToInt] at * <;> omega) | grind)
  refine ok_gq (16 : Int32) (by decide) (by clear hQ9; first | with_reducible assumption | (simp only [xl, xt, xe, xa, xb, xm, xg, ne_eq, Int32.reduceToInt] at * <;> omega) | grind) (by clear hQ9; first | with_reducible assumption | (simp only [xl, xt, xe, xa, xb, xm, xg, ne_eq, Int32.reduceToInt] at * <;> omega) | grind) ?_
  have q_8 : R (upd di_heights (di_count).toNatClampNeg p1) (0 : Int32) (8 : Int32) := R_upd (by assumption) _ (by clear hQ9; first | with_reducible assumption | (simp only [xl, xt, xe, xa, xb, xm, xg, ne_eq, Int32.reduceToInt] at * <;> omega) | grind)
  refine ok_gq (16 : Int32) (by decide) (by clear hQ9; first | with_reducible assumption | (simp only [xl, xt, xe, xa, xb, xm, xg, ne_eq, Int32.reduceToInt] at * <;> omega) | grind) (by clear hQ9; first | with_reducible assumption | (simp only [xl, xt, xe, xa, xb, xm, xg, ne_eq, Int32.reduceToInt] at * <;> omega) | grind) ?_
  refine ok_nl (fun count_1 e_count_1 => ?_)
  have q_9 : ((0 : Int32) ≤ count_1 ∧ count_1 ≤ (16 : Int32)) := by clear hQ9; first | with_reducible assumption | (simp only [xl, xt, xe, xa, xb, xm, xg, ne_eq, Int32.reduceToInt] at * <;> omega) | grind
  exact ok_some (hQ9 _ ⟨by clear hQ9; first | with_reducible assumption | (simp only [xl, xt, xe, xa, xb, xm, xg, ne_eq, Int32.reduceToInt] at * <;> omega) | grind, by assumption, by assumption, by clear hQ9; first | with_reducible assumption | (simp only [xl, xt, xe, xa, xb, xm, xg, ne_eq, Int32.reduceToInt] at * <;> omega) | grind⟩)

set_option maxHeartbeats 4000000 in
set_option maxRecDepth 20000 in
theorem s_Dictionary_has {di_count : Int32} {p0 : Int32} (q_1 : ((0 : Int32) ≤ di_count ∧ di_count ≤ (16 : Int32))) : ok (f_Dictionary_has di_count p0) (fun o => ((0 : Int32) ≤ o ∧ o ≤ (1 : Int32)) ∧ (o = 1 → (0 : Int32) ≤ p0 ∧ p0 < di_count)) := by
  refine ok_Q (fun Q9 hQ9 => ?_)
  unfold f_Dictionary_has
  refine ok_bd (s_Top_isWithin) (fun o9 h9 => ?_)
  obtain ⟨r_1, rfl⟩ : ∃ z9, z9 = o9 := ⟨_, rfl⟩
  obtain ⟨q_2, q_3⟩ := h9
  refine ok_bz (by clear hQ9; first | with_reducible assumption | (simp only [xl, xt, xe, xa, xb, xm, xg, ne_eq, Int32.reduceToInt] at * <;> omega) | grind) ?_
  exact ok_some (hQ9 _ ⟨by clear hQ9; first | with_reducible assumption | (simp only [xl, xt, xe, xa, xb, xm, xg, ne_eq, Int32.reduceToInt] at * <;> omega) | grind, by clear hQ9; first | with_reducible assumption | (simp only [xl, xt, xe, xa, xb, xm, xg, ne_eq, Int32.reduceToInt] at * <;> omega) | grind⟩)

set_option maxHeartbeats 4000000 in
set_option maxRecDepth 20000 in
theorem s_Dictionary_hasSample {di_widths : (Nat → Int32)} {di_heights : (Nat → Int32)} {p0 : Int32} {p1 : Int32} {p2 : Int32} (q_1 : R di_widths (0 : Int32) (8 : Int32)) (q_2 : R di_heights (0 : Int32) (8 : Int32)) (q_3 : ((0 : Int32) ≤ p0 ∧ p0 ≤ (15 : Int32))) : ok (f_Dictionary_hasSample di_widths di_heights p0 p1 p2) (fun o => ((0 : Int32) ≤ o ∧ o ≤ (1 : Int32))) := by
  refine ok_Q (fun Q9 hQ9 => ?_)
  unfold f_Dictionary_hasSample
  refine ok_gq (16 : Int32) (by decide) (by clear hQ9; first | with_reducible assumption | (simp only [xl, xt, xe, xa, xb, xm, xg, ne_eq, Int32.reduceToInt] at * <;> omega) | grind) (by clear hQ9; first | with_reducible assumption | (simp only [xl, xt, xe, xa, xb, xm, xg, ne_eq, Int32.reduceToInt] at * <;> omega) | grind) ?_
  have q_4 := (by assumption : R di_widths (0 : Int32) (8 : Int32)) (p0).toNatClampNeg
  refine ok_bd (s_Top_isWithin) (fun o9 h9 => ?_)
  obtain ⟨r_1, rfl⟩ : ∃ z9, z9 = o9 := ⟨_, rfl⟩
  obtain ⟨q_5, q_6⟩ := h9
  refine ok_if (fun q_7 => ?_) (fun q_7 => ?_)
  · skip
    exact ok_some (hQ9 _ (by clear hQ9; first | with_reducible assumption | (simp only [xl, xt, xe, xa, xb, xm, xg, ne_eq, Int32.reduceToInt] at * <;> omega) | grind))
  · skip
    refine ok_gq (16 : Int32) (by decide) (by clear hQ9; first | with_reducible assumption | (simp only [xl, xt, xe, xa, xb, xm, xg, ne_eq, Int32.reduceToInt] at * <;> omega) | grind) (by clear hQ9; first | with_reducible assumption | (simp only [xl, xt, xe, xa, xb, xm, xg, ne_eq, Int32.reduceToInt] at * <;> omega) | grind) ?_
    have q_8 := (by assumption : R di_heights (0 : Int32) (8 : Int32)) (p0).toNatClampNeg
    refine ok_bd (s_Top_isWithin) (fun o9 h9 => ?_)
    obtain ⟨r_2, rfl⟩ : ∃ z9, z9 = o9 := ⟨_, rfl⟩
    obtain ⟨q_9, q_10⟩ := h9
    refine ok_if (fun q_11 => ?_) (fun q_11 => ?_)
    · skip
      exact ok_some (hQ9 _ (by clear hQ9; first | with_reducible assumption | (simp only [xl, xt, xe, xa, xb, xm, xg, ne_eq, Int32.reduceToInt] at * <;> omega) | grind))
    · skip
      exact ok_some (hQ9 _ (by clear hQ9; first | with_reducible assumption | (simp only [xl, xt, xe, xa, xb, xm, xg, ne_eq, Int32.reduceToInt] at * <;> omega) | grind))

set_option maxHeartbeats 4000000 in
set_option maxRecDepth 20000 in
theorem s_Dictionary_sampleNumber {di_widths : (Nat → Int32)} {p0 : Int32} {p1 : Int32} {p2 : Int32} (q_1 : R di_widths (0 : Int32) (8 : Int32)) (q_2 : ((0 : Int32) ≤ p0 ∧ p0 ≤ (15 : Int32))) : ok (f_Dictionary_sampleNumber di_widths p0 p1 p2) (fun o => True) := by
  refine ok_Q (fun Q9 hQ9 => ?_)
  unfold f_Dictionary_sampleNumber
  refine ok_gq (16 : Int32) (by decide) (by clear hQ9; first | with_reducible assumption | (simp only [xl, xt, xe, xa, xb, xm, xg, ne_eq, Int32.reduceToInt] at * <;> omega) | grind) (by clear hQ9; first | with_reducible assumption | (simp only [xl, xt, xe, xa, xb, xm, xg, ne_eq, Int32.reduceToInt] at * <;> omega) | grind) ?_
  have q_3 := (by assumption : R di_widths (0 : Int32) (8 : Int32)) (p0).toNatClampNeg
  exact ok_some (hQ9 _ trivial)

set_option maxHeartbeats 4000000 in
set_option maxRecDepth 20000 in
theorem s_Dictionary_sampleCount {di_widths : (Nat → Int32)} {di_heights : (Nat → Int32)} {p0 : Int32} (q_1 : R di_widths (0 : Int32) (8 : Int32)) (q_2 : R di_heights (0 : Int32) (8 : Int32)) (q_3 : ((0 : Int32) ≤ p0 ∧ p0 ≤ (15 : Int32))) : ok (f_Dictionary_sampleCount di_widths di_heights p0) (fun o => ((0 : Int32) ≤ o ∧ o ≤ (64 : Int32))) := by
  refine ok_Q (fun Q9 hQ9 => ?_)
  unfold f_Dictionary_sampleCount
  have q_w := (by assumption : R di_widths 0 8) p0.toNatClampNeg
  have q_h := (by assumption : R di_heights 0 8) p0.toNatClampNeg
  have q_m := mul88 q_w q_h
  refine ok_gq (16 : Int32) (by decide) (by clear hQ9; first | with_reducible assumption | (simp only [xl, xt, xe, xa, xb, xm, xg, ne_eq, Int32.reduceToInt] at * <;> omega) | grind) (by clear hQ9; first | with_reducible assumption | (simp only [xl, xt, xe, xa, xb, xm, xg, ne_eq, Int32.reduceToInt] at * <;> omega) | grind) ?_
  have q_4 := (by assumption : R di_widths (0 : Int32) (8 : Int32)) (p0).toNatClampNeg
  refine ok_gq (16 : Int32) (by decide) (by clear hQ9; first | with_reducible assumption | (simp only [xl, xt, xe, xa, xb, xm, xg, ne_eq, Int32.reduceToInt] at * <;> omega) | grind) (by clear hQ9; first | with_reducible assumption | (simp only [xl, xt, xe, xa, xb, xm, xg, ne_eq, Int32.reduceToInt] at * <;> omega) | grind) ?_
  have q_5 := (by assumption : R di_heights (0 : Int32) (8 : Int32)) (p0).toNatClampNeg
  exact ok_some (hQ9 _ (by clear hQ9; first | with_reducible assumption | (simp only [xl, xt, xe, xa, xb, xm, xg, ne_eq, Int32.reduceToInt] at * <;> omega) | grind))

set_option maxHeartbeats 4000000 in
set_option maxRecDepth 20000 in
theorem s_Layout_empty {la_ways : (Nat → Int32)} (q_1 : R la_ways (0 : Int32) (7 : Int32)) : ok (f_Layout_empty la_ways) (fun o => ((0 : Int32) ≤ o.1 ∧ o.1 ≤ (40 : Int32)) ∧ R o.2 (0 : Int32) (7 : Int32)) := by
  refine ok_Q (fun Q9 hQ9 => ?_)
  unfold f_Layout_empty
  have q_2 : ((0 : Int32) ≤ (0 : Int32) ∧ (0 : Int32) ≤ (40 : Int32)) := by clear hQ9; first | with_reducible assumption | (simp only [xl, xt, xe, xa, xb, xm, xg, ne_eq, Int32.reduceToInt] at * <;> omega) | grind
  refine ok_lp (fun s9 => ((0 : Int32) ≤ s9.1 ∧ s9.1 ≤ (4 : Int32)) ∧ R s9.2 (0 : Int32) (7 : Int32)) (fun s9 => 4 - s9.1) ⟨by clear hQ9; first | with_reducible assumption | (simp only [xl, xt, xe, xa, xb, xm, xg, ne_eq, Int32.reduceToInt] at * <;> omega) | grind, by assumption⟩ ?_ ?_
  · intro s9 hs9; obtain ⟨v1_1, la_ways_2⟩ := s9; try dsimp only at hs9; obtain ⟨q_3, q_4⟩ := hs9; exact ⟨by clear hQ9; (try dsimp only); first | with_reducible assumption | (simp only [xl, xt, xe, xa, xb, xm, xg, ne_eq, Int32.reduceToInt] at * <;> omega) | grind, by clear hQ9; (try dsimp only); first | with_reducible assumption | (simp only [xl, xt, xe, xa, xb, xm, xg, ne_eq, Int32.reduceToInt] at * <;> omega) | grind⟩
  intro self7 s9 hs9 ih_self7
  obtain ⟨v1_1, la_ways_2⟩ := s9; try dsimp only at hs9; obtain ⟨q_3, q_4⟩ := hs9
  unfold f_Layout_empty_L7
  try dsimp only
  try dsimp only at ih_self7
  refine ok_if (fun q_5 => ?_) (fun q_5 => ?_)
  · skip
    exact ok_some (hQ9 _ ⟨by clear hQ9 ih_self7; first | with_reducible assumption | (simp only [xl, xt, xe, xa, xb, xm, xg, ne_eq, Int32.reduceToInt] at * <;> omega) | grind, by assumption⟩)
  · skip
    refine ok_gq (4 : Int32) (by decide) (by clear hQ9 ih_self7; first | with_reducible assumption | (simp only [xl, xt, xe, xa, xb, xm, xg, ne_eq, Int32.reduceToInt] at * <;> omega) | grind) (by clear hQ9 ih_self7; first | with_reducible assumption | (simp only [xl, xt, xe, xa, xb, xm, xg, ne_eq, Int32.reduceToInt] at * <;> omega) | grind) ?_
    have q_6 : R (upd la_ways_2 (v1_1).toNatClampNeg (0 : Int32)) (0 : Int32) (7 : Int32) := R_upd (by assumption) _ (by clear hQ9 ih_self7; first | with_reducible assumption | (simp only [xl, xt, xe, xa, xb, xm, xg, ne_eq, Int32.reduceToInt] at * <;> omega) | grind)
    refine ok_nl (fun v1_3 e_v1_3 => ?_)
    exact ih_self7 (v1_3, (upd la_ways_2 (v1_1).toNatClampNeg (0 : Int32))) ⟨by clear hQ9 ih_self7; first | with_reducible assumption | (simp only [xl, xt, xe, xa, xb, xm, xg, ne_eq, Int32.reduceToInt] at * <;> omega) | grind, by assumption⟩ (by clear hQ9 ih_self7; (try dsimp only); first | with_reducible assumption | (simp only [xl, xt, xe, xa, xb, xm, xg, ne_eq, Int32.reduceToInt] at * <;> omega) | grind)

set_option maxHeartbeats 4000000 in
set_option maxRecDepth 20000 in
theorem s_Layout_has {la_count : Int32} {p0 : Int32} (q_1 : ((0 : Int32) ≤ la_count ∧ la_count ≤ (40 : Int32))) : ok (f_Layout_has la_count p0) (fun o => ((0 : Int32) ≤ o ∧ o ≤ (1 : Int32)) ∧ (o = 1 → (0 : Int32) ≤ p0 ∧ p0 < la_count)) := by
  refine ok_Q (fun Q9 hQ9 => ?_)
  unfold f_Layout_has
  refine ok_bd (s_Top_isWithin) (fun o9 h9 => ?_)
  obtain ⟨r_1, rfl⟩ : ∃ z9, z9 = o9 := ⟨_, rfl⟩
  obtain ⟨q_2, q_3⟩ := h9
  refine ok_bz (by clear hQ9; first | with_reducible assumption | (simp only [xl, xt, xe, xa, xb, xm, xg, ne_eq, Int32.reduceToInt] at * <;> omega) | grind) ?_
  exact ok_some (hQ9 _ ⟨by clear hQ9; first | with_reducible assumption | (simp only [xl, xt, xe, xa, xb, xm, xg, ne_eq, Int32.reduceToInt] at * <;> omega) | grind, by clear hQ9; first | with_reducible assumption | (simp only [xl, xt, xe, xa, xb, xm, xg, ne_eq, Int32.reduceToInt] at * <;> omega) | grind⟩)

set_option maxHeartbeats 4000000 in
set_option maxRecDepth 20000 in
theorem s_Layout_add {la_count : Int32} {la_symbolOf : (Nat → Int32)} {la_xs : (Nat → Int32)} {la_ys : (Nat → Int32)} {la_differs : (Nat → Int64)} {p0 : Int32} {p1 : Int32} {p2 : Int32} (q_1 : ((0 : Int32) ≤ la_count ∧ la_count ≤ (40 : Int32))) (q_2 : R la_symbolOf (0 : Int32) (15 : Int32)) (q_3 : R la_xs (-8 : Int32) (31 : Int32)) (q_4 : R la_ys (-8 : Int32) (31 : Int32)) (q_5 : ((0 : Int32) ≤ p0 ∧ p0 ≤ (15 : Int32))) (q_6 : ((-8 : Int32) ≤ p1 ∧ p1 ≤ (31 : Int32))) (q_7 : ((-8 : Int32) ≤ p2 ∧ p2 ≤ (31 : Int32))) (q_8 : la_count < (40 : Int32)) : ok (f_Layout_add la_count la_symbolOf la_xs la_ys la_differs p0 p1 p2) (fun o => ((0 : Int32) ≤ o.2.1 ∧ o.2.1 ≤ (40 : Int32)) ∧ R o.2.2.1 (0 : Int32) (15 : Int32) ∧ R o.2.2.2.1 (-8 : Int32) (31 : Int32) ∧ R o.2.2.2.2.1 (-8 : Int32) (31 : Int32) ∧ (o.2.1 = la_count + 1)) := by
  refine ok_Q (fun Q9 hQ9 => ?_)
  unfold f_Layout_add
  refine ok_gq (40 : Int32) (by decide) (by clear hQ9; first | with_reducible assumption | (simp only [xl, xt, xe, xa, xb, xm, xg, ne_eq, Int32.reduceToInt] at * <;> omega) | grind) (by clear hQ9; first | with_reducible assumption | (simp only [xl, xt, xe, xa, xb, xm, xg, ne_eq, Int32.reduceToInt] at * <;> omega) | grind) ?_
  have q_9 : R (upd la_symbolOf (la_count).toNatClampNeg p0) (0 : Int32) (15 : Int32) := R_upd (by assumption) _ (by clear hQ9; first | with_reducible assumption | (simp only [xl, xt, xe, xa, xb, xm, xg, ne_eq, Int32.reduceToInt] at * <;> omega) | grind)
  refine ok_gq (40 : Int32) (by decide) (by clear hQ9; first | with_reducible assumption | (simp only [xl, xt, xe, xa, xb, xm, xg, ne_eq, Int32.reduceToInt] at * <;> omega) | grind) (by clear hQ9; first | with_reducible assumption | (simp only [xl, xt, xe, xa, xb, xm, xg, ne_eq, Int32.reduceToInt] at * <;> omega) | grind) ?_
  have q_10 : R (upd la_xs (la_count).toNatClampNeg p1) (-8 : Int32) (31 : Int32) := R_upd (by assumption) _ (by clear hQ9; first | with_reducible assumption | (simp only [xl, xt, xe, xa, xb, xm, xg, ne_eq, Int32.reduceToInt] at * <;> omega) | grind)
  refine ok_gq (40 : Int32) (by decide) (by clear hQ9; first | with_reducible assumption | (simp only [xl, xt, xe, xa, xb, xm, xg, ne_eq, Int32.reduceToInt] at * <;> omega) | grind) (by clear hQ9; first | with_reducible assumption | (simp only [xl, xt, xe, xa, xb, xm, xg, ne_eq, Int32.reduceToInt] at * <;> omega) | grind) ?_
  have q_11 : R (upd la_ys (la_count).toNatClampNeg p2) (-8 : Int32) (31 : Int32) := R_upd (by assumption) _ (by clear hQ9; first | with_reducible assumption | (simp only [xl, xt, xe, xa, xb, xm, xg, ne_eq, Int32.reduceToInt] at * <;> omega) | grind)
  refine ok_gq (40 : Int32) (by decide) (by clear hQ9; first | with_reducible assumption | (simp only [xl, xt, xe, xa, xb, xm, xg, ne_eq, Int32.reduceToInt] at * <;> omega) | grind) (by clear hQ9; first | with_reducible assumption | (simp only [xl, xt, xe, xa, xb, xm, xg, ne_eq, Int32.reduceToInt] at * <;> omega) | grind) ?_
  refine ok_nl (fun count_1 e_count_1 => ?_)
  have q_12 : ((0 : Int32) ≤ count_1 ∧ count_1 ≤ (40 : Int32)) := by clear hQ9; first | with_reducible assumption | (simp only [xl, xt, xe, xa, xb, xm, xg, ne_eq, Int32.reduceToInt] at * <;> omega) | grind
  exact ok_some (hQ9 _ ⟨by clear hQ9; first | with_reducible assumption | (simp only [xl, xt, xe, xa, xb, xm, xg, ne_eq, Int32.reduceToInt] at * <;> omega) | grind, by assumption, by assumption, by assumption, by clear hQ9; first | with_reducible assumption | (simp only [xl, xt, xe, xa, xb, xm, xg, ne_eq, Int32.reduceToInt] at * <;> omega) | grind⟩)

set_option maxHeartbeats 4000000 in
set_option maxRecDepth 20000 in
theorem s_Layout_isTurned {la_ways : (Nat → Int32)} (q_1 : R la_ways (0 : Int32) (7 : Int32)) : ok (f_Layout_isTurned la_ways) (fun o => ((0 : Int32) ≤ o ∧ o ≤ (1 : Int32))) := by
  refine ok_Q (fun Q9 hQ9 => ?_)
  unfold f_Layout_isTurned
  refine ok_gq (4 : Int32) (by decide) (by clear hQ9; first | with_reducible assumption | (simp only [xl, xt, xe, xa, xb, xm, xg, ne_eq, Int32.reduceToInt] at * <;> omega) | grind) (by clear hQ9; first | with_reducible assumption | (simp only [xl, xt, xe, xa, xb, xm, xg, ne_eq, Int32.reduceToInt] at * <;> omega) | grind) ?_
  have q_2 := (by assumption : R la_ways (0 : Int32) (7 : Int32)) ((1 : Int32)).toNatClampNeg
  refine ok_if (fun q_3 => ?_) (fun q_3 => ?_)
  · skip
    exact ok_some (hQ9 _ (by clear hQ9; first | with_reducible assumption | (simp only [xl, xt, xe, xa, xb, xm, xg, ne_eq, Int32.reduceToInt] at * <;> omega) | grind))
  · skip
    exact ok_some (hQ9 _ (by clear hQ9; first | with_reducible assumption | (simp only [xl, xt, xe, xa, xb, xm, xg, ne_eq, Int32.reduceToInt] at * <;> omega) | grind))

set_option maxHeartbeats 4000000 in
set_option maxRecDepth 20000 in
theorem s_Layout_cornerColumn {la_ways : (Nat → Int32)} {di_widths : (Nat → Int32)} {p0 : Int32} (q_1 : R la_ways (0 : Int32) (7 : Int32)) (q_2 : R di_widths (0 : Int32) (8 : Int32)) (q_3 : ((0 : Int32) ≤ p0 ∧ p0 ≤ (15 : Int32))) : ok (f_Layout_cornerColumn la_ways di_widths p0) (fun o => ((-1 : Int32) ≤ o ∧ o ≤ (7 : Int32))) := by
  refine ok_Q (fun Q9 hQ9 => ?_)
  unfold f_Layout_cornerColumn
  refine ok_gq (4 : Int32) (by decide) (by clear hQ9; first | with_reducible assumption | (simp only [xl, xt, xe, xa, xb, xm, xg, ne_eq, Int32.reduceToInt] at * <;> omega) | grind) (by clear hQ9; first | with_reducible assumption | (simp only [xl, xt, xe, xa, xb, xm, xg, ne_eq, Int32.reduceToInt] at * <;> omega) | grind) ?_
  have q_4 := (by assumption : R la_ways (0 : Int32) (7 : Int32)) ((0 : Int32)).toNatClampNeg
  refine ok_if (fun q_5 => ?_) (fun q_5 => ?_)
  · skip
    exact ok_some (hQ9 _ (by clear hQ9; first | with_reducible assumption | (simp only [xl, xt, xe, xa, xb, xm, xg, ne_eq, Int32.reduceToInt] at * <;> omega) | grind))
  · skip
    refine ok_gq (16 : Int32) (by decide) (by clear hQ9; first | with_reducible assumption | (simp only [xl, xt, xe, xa, xb, xm, xg, ne_eq, Int32.reduceToInt] at * <;> omega) | grind) (by clear hQ9; first | with_reducible assumption | (simp only [xl, xt, xe, xa, xb, xm, xg, ne_eq, Int32.reduceToInt] at * <;> omega) | grind) ?_
    have q_6 := (by assumption : R di_widths (0 : Int32) (8 : Int32)) (p0).toNatClampNeg
    exact ok_some (hQ9 _ (by clear hQ9; first | with_reducible assumption | (simp only [xl, xt, xe, xa, xb, xm, xg, ne_eq, Int32.reduceToInt] at * <;> omega) | grind))

set_option maxHeartbeats 4000000 in
set_option maxRecDepth 20000 in
theorem s_Layout_cornerRow {la_ways : (Nat → Int32)} {di_heights : (Nat → Int32)} {p0 : Int32} (q_1 : R la_ways (0 : Int32) (7 : Int32)) (q_2 : R di_heights (0 : Int32) (8 : Int32)) (q_3 : ((0 : Int32) ≤ p0 ∧ p0 ≤ (15 : Int32))) : ok (f_Layout_cornerRow la_ways di_heights p0) (fun o => ((-1 : Int32) ≤ o ∧ o ≤ (7 : Int32))) := by
  refine ok_Q (fun Q9 hQ9 => ?_)
  unfold f_Layout_cornerRow
  refine ok_gq (4 : Int32) (by decide) (by clear hQ9; first | with_reducible assumption | (simp only [xl, xt, xe, xa, xb, xm, xg, ne_eq, Int32.reduceToInt] at * <;> omega) | grind) (by clear hQ9; first | with_reducible assumption | (simp only [xl, xt, xe, xa, xb, xm, xg, ne_eq, Int32.reduceToInt] at * <;> omega) | grind) ?_
  have q_4 := (by assumption : R la_ways (0 : Int32) (7 : Int32)) ((0 : Int32)).toNatClampNeg
  refine ok_if (fun q_5 => ?_) (fun q_5 => ?_)
  · skip
    refine ok_gq (16 : Int32) (by decide) (by clear hQ9; first | with_reducible assumption | (simp only [xl, xt, xe, xa, xb, xm, xg, ne_eq, Int32.reduceToInt] at * <;> omega) | grind) (by clear hQ9; first | with_reducible assumption | (simp only [xl, xt, xe, xa, xb, xm, xg, ne_eq, Int32.reduceToInt] at * <;> omega) | grind) ?_
    have q_6 := (by assumption : R di_heights (0 : Int32) (8 : Int32)) (p0).toNatClampNeg
    exact ok_some (hQ9 _ (by clear hQ9; first | with_reducible assumption | (simp only [xl, xt, xe, xa, xb, xm, xg, ne_eq, Int32.reduceToInt] at * <;> omega) | grind))
  · skip
    exact ok_some (hQ9 _ (by clear hQ9; first | with_reducible assumption | (simp only [xl, xt, xe, xa, xb, xm, xg, ne_eq, Int32.reduceToInt] at * <;> omega) | grind))

set_option maxHeartbeats 4000000 in
set_option maxRecDepth 20000 in
theorem s_Layout_addByCorner {la_count : Int32} {la_ways : (Nat → Int32)} {di_widths : (Nat → Int32)} {di_heights : (Nat → Int32)} {la_symbolOf : (Nat → Int32)} {la_xs : (Nat → Int32)} {la_ys : (Nat → Int32)} {la_differs : (Nat → Int64)} {p0 : Int32} {p1 : Int32} {p2 : Int32} (q_1 : ((0 : Int32) ≤ la_count ∧ la_count ≤ (40 : Int32))) (q_2 : R la_ways (0 : Int32) (7 : Int32)) (q_3 : R di_widths (0 : Int32) (8 : Int32)) (q_4 : R di_heights (0 : Int32) (8 : Int32)) (q_5 : R la_symbolOf (0 : Int32) (15 : Int32)) (q_6 : R la_xs (-8 : Int32) (31 : Int32)) (q_7 : R la_ys (-8 : Int32) (31 : Int32)) (q_8 : ((0 : Int32) ≤ p0 ∧ p0 ≤ (15 : Int32))) : ok (f_Layout_addByCorner la_count la_ways di_widths di_heights la_symbolOf la_xs la_ys la_differs p0 p1 p2) (fun o => ((0 : Int32) ≤ o.1 ∧ o.1 ≤ (1 : Int32)) ∧ ((0 : Int32) ≤ o.2.1 ∧ o.2.1 ≤ (40 : Int32)) ∧ R o.2.2.1 (0 : Int32) (15 : Int32) ∧ R o.2.2.2.1 (-8 : Int32) (31 : Int32) ∧ R o.2.2.2.2.1 (-8 : Int32) (31 : Int32) ∧ (la_count ≤ o.2.1 ∧ o.2.1 ≤ la_count + 1)) := by
  refine ok_Q (fun Q9 hQ9 => ?_)
  unfold f_Layout_addByCorner
  refine ok_bd (s_Layout_isTurned (by assumption)) (fun o9 h9 => ?_)
  obtain ⟨r_1, rfl⟩ : ∃ z9, z9 = o9 := ⟨_, rfl⟩
  have q_9 := h9
  clear h9
  refine ok_jn (fun j9 => ∀ (s_2 : Int32), ok (j9 s_2) Q9) ?_ (fun j12 h_j12 => ?_)
  · intro s_2
    refine ok_bd (s_Layout_cornerColumn (by assumption) (by assumption) (by clear hQ9; first | with_reducible assumption | (simp only [xl, xt, xe, xa, xb, xm, xg, ne_eq, Int32.reduceToInt] at * <;> omega) | grind)) (fun o9 h9 => ?_)
    obtain ⟨r_3, rfl⟩ : ∃ z9, z9 = o9 := ⟨_, rfl⟩
    have q_10 := h9
    clear h9
    refine ok_nl (fun v4_4 e_v4_4 => ?_)
    refine ok_bd (s_Layout_isTurned (by assumption)) (fun o9 h9 => ?_)
    obtain ⟨r_5, rfl⟩ : ∃ z9, z9 = o9 := ⟨_, rfl⟩
    have q_11 := h9
    clear h9
    refine ok_jn (fun j9 => ∀ (s_6 : Int32), ok (j9 s_6) Q9) ?_ (fun j32 h_j32 => ?_)
    · intro s_6
      refine ok_bd (s_Layout_cornerRow (by assumption) (by assumption) (by clear hQ9; first | with_reducible assumption | (simp only [xl, xt, xe, xa, xb, xm, xg, ne_eq, Int32.reduceToInt] at * <;> omega) | grind)) (fun o9 h9 => ?_)
      obtain ⟨r_7, rfl⟩ : ∃ z9, z9 = o9 := ⟨_, rfl⟩
      have q_12 := h9
      clear h9
      refine ok_nl (fun v5_8 e_v5_8 => ?_)
      refine ok_if (fun q_13 => ?_) (fun q_13 => ?_)
      · skip
        exact ok_some (hQ9 _ ⟨by clear hQ9; first | with_reducible assumption | (simp only [xl, xt, xe, xa, xb, xm, xg, ne_eq, Int32.reduceToInt] at * <;> omega) | grind, by clear hQ9; first | with_reducible assumption | (simp only [xl, xt, xe, xa, xb, xm, xg, ne_eq, Int32.reduceToInt] at * <;> omega) | grind, by assumption, by assumption, by assumption, by clear hQ9; first | with_reducible assumption | (simp only [xl, xt, xe, xa, xb, xm, xg, ne_eq, Int32.reduceToInt] at * <;> omega) | grind⟩)
      · skip
        refine ok_bd (s_Top_isPlace) (fun o9 h9 => ?_)
        obtain ⟨r_9, rfl⟩ : ∃ z9, z9 = o9 := ⟨_, rfl⟩
        obtain ⟨q_14, q_15⟩ := h9
        refine ok_if (fun q_16 => ?_) (fun q_16 => ?_)
        · skip
          exact ok_some (hQ9 _ ⟨by clear hQ9; first | with_reducible assumption | (simp only [xl, xt, xe, xa, xb, xm, xg, ne_eq, Int32.reduceToInt] at * <;> omega) | grind, by clear hQ9; first | with_reducible assumption | (simp only [xl, xt, xe, xa, xb, xm, xg, ne_eq, Int32.reduceToInt] at * <;> omega) | grind, by assumption, by assumption, by assumption, by clear hQ9; first | with_reducible assumption | (simp only [xl, xt, xe, xa, xb, xm, xg, ne_eq, Int32.reduceToInt] at * <;> omega) | grind⟩)
        · skip
          refine ok_bd (s_Top_isPlace) (fun o9 h9 => ?_)
          obtain ⟨r_10, rfl⟩ : ∃ z9, z9 = o9 := ⟨_, rfl⟩
          obtain ⟨q_17, q_18⟩ := h9
          refine ok_if (fun q_19 => ?_) (fun q_19 => ?_)
          · skip
            exact ok_some (hQ9 _ ⟨by clear hQ9; first | with_reducible assumption | (simp only [xl, xt, xe, xa, xb, xm, xg, ne_eq, Int32.reduceToInt] at * <;> omega) | grind, by clear hQ9; first | with_reducible assumption | (simp only [xl, xt, xe, xa, xb, xm, xg, ne_eq, Int32.reduceToInt] at * <;> omega) | grind, by assumption, by assumption, by assumption, by clear hQ9; first | with_reducible assumption | (simp only [xl, xt, xe, xa, xb, xm, xg, ne_eq, Int32.reduceToInt] at * <;> omega) | grind⟩)
          · skip
            refine ok_bd (s_Layout_add (by clear hQ9; first | with_reducible assumption | (simp only [xl, xt, xe, xa, xb, xm, xg, ne_eq, Int32.reduceToInt] at * <;> omega) | grind) (by assumption) (by assumption) (by assumption) (by clear hQ9; first | with_reducible assumption | (simp only [xl, xt, xe, xa, xb, xm, xg, ne_eq, Int32.reduceToInt] at * <;> omega) | grind) (by clear hQ9; first | with_reducible assumption | (simp only [xl, xt, xe, xa, xb, xm, xg, ne_eq, Int32.reduceToInt] at * <;> omega) | grind) (by clear hQ9; first | with_reducible assumption | (simp only [xl, xt, xe, xa, xb, xm, xg, ne_eq, Int32.reduceToInt] at * <;> omega) | grind) (by clear hQ9; first | with_reducible assumption | (simp only [xl, xt, xe, xa, xb, xm, xg, ne_eq, Int32.reduceToInt] at * <;> omega) | grind)) (fun o9 h9 => ?_)
            obtain ⟨r_11, la_count_12, la_symbolOf_13, la_xs_14, la_ys_15, la_differs_16⟩ := o9
            try dsimp only at h9
            try dsimp only
            obtain ⟨q_20, q_21, q_22, q_23, q_24⟩ := h9
            exact ok_some (hQ9 _ ⟨by clear hQ9; first | with_reducible assumption | (simp only [xl, xt, xe, xa, xb, xm, xg, ne_eq, Int32.reduceToInt] at * <;> omega) | grind, by clear hQ9; first | with_reducible assumption | (simp only [xl, xt, xe, xa, xb, xm, xg, ne_eq, Int32.reduceToInt] at * <;> omega) | grind, by assumption, by assumption, by assumption, by clear hQ9; first | with_reducible assumption | (simp only [xl, xt, xe, xa, xb, xm, xg, ne_eq, Int32.reduceToInt] at * <;> omega) | grind⟩)
    refine ok_if (fun q_25 => ?_) (fun q_25 => ?_)
    · skip
      exact h_j32 _
    · skip
      exact h_j32 _
  refine ok_if (fun q_26 => ?_) (fun q_26 => ?_)
  · skip
    exact h_j12 _
  · skip
    exact h_j12 _

set_option maxHeartbeats 4000000 in
set_option maxRecDepth 20000 in
theorem s_Layout_swapWithNext {la_symbolOf : (Nat → Int32)} {la_xs : (Nat → Int32)} {la_ys : (Nat → Int32)} {la_differs : (Nat → Int64)} {p0 : Int32} (q_1 : R la_symbolOf (0 : Int32) (15 : Int32)) (q_2 : R la_xs (-8 : Int32) (31 : Int32)) (q_3 : R la_ys (-8 : Int32) (31 : Int32)) (q_4 : ((0 : Int32) ≤ p0 ∧ p0 ≤ (38 : Int32))) : ok (f_Layout_swapWithNext la_symbolOf la_xs la_ys la_differs p0) (fun o => R o.1 (0 : Int32) (15 : Int32) ∧ R o.2.1 (-8 : Int32) (31 : Int32) ∧ R o.2.2.1 (-8 : Int32) (31 : Int32)) := by
  refine ok_Q (fun Q9 hQ9 => ?_)
  unfold f_Layout_swapWithNext
  refine ok_gq (40 : Int32) (by decide) (by clear hQ9; first | with_reducible assumption | (simp only [xl, xt, xe, xa, xb, xm, xg, ne_eq, Int32.reduceToInt] at * <;> omega) | grind) (by clear hQ9; first | with_reducible assumption | (simp only [xl, xt, xe, xa, xb, xm, xg, ne_eq, Int32.reduceToInt] at * <;> omega) | grind) ?_
  have q_5 := (by assumption : R la_symbolOf (0 : Int32) (15 : Int32)) (p0).toNatClampNeg
  refine ok_nl (fun v2_1 e_v2_1 => ?_)
  refine ok_gq (40 : Int32) (by decide) (by clear hQ9; first | with_reducible assumption | (simp only [xl, xt, xe, xa, xb, xm, xg, ne_eq, Int32.reduceToInt] at * <;> omega) | grind) (by clear hQ9; first | with_reducible assumption | (simp only [xl, xt, xe, xa, xb, xm, xg, ne_eq, Int32.reduceToInt] at * <;> omega) | grind) ?_
  have q_6 := (by assumption : R la_xs (-8 : Int32) (31 : Int32)) (p0).toNatClampNeg
  refine ok_nl (fun v3_2 e_v3_2 => ?_)
  refine ok_gq (40 : Int32) (by decide) (by clear hQ9; first | with_reducible assumption | (simp only [xl, xt, xe, xa, xb, xm, xg, ne_eq, Int32.reduceToInt] at * <;> omega) | grind) (by clear hQ9; first | with_reducible assumption | (simp only [xl, xt, xe, xa, xb, xm, xg, ne_eq, Int32.reduceToInt] at * <;> omega) | grind) ?_
  have q_7 := (by assumption : R la_ys (-8 : Int32) (31 : Int32)) (p0).toNatClampNeg
  refine ok_nl (fun v4_3 e_v4_3 => ?_)
  refine ok_gq (40 : Int32) (by decide) (by clear hQ9; first | with_reducible assumption | (simp only [xl, xt, xe, xa, xb, xm, xg, ne_eq, Int32.reduceToInt] at * <;> omega) | grind) (by clear hQ9; first | with_reducible assumption | (simp only [xl, xt, xe, xa, xb, xm, xg, ne_eq, Int32.reduceToInt] at * <;> omega) | grind) ?_
  refine ok_nl (fun v5_4 e_v5_4 => ?_)
  refine ok_gq (40 : Int32) (by decide) (by clear hQ9; first | with_reducible assumption | (simp only [xl, xt, xe, xa, xb, xm, xg, ne_eq, Int32.reduceToInt] at * <;> omega) | grind) (by clear hQ9; first | with_reducible assumption | (simp only [xl, xt, xe, xa, xb, xm, xg, ne_eq, Int32.reduceToInt] at * <;> omega) | grind) ?_
  have q_8 := (by assumption : R la_symbolOf (0 : Int32) (15 : Int32)) ((p0 + (1 : Int32))).toNatClampNeg
  refine ok_nl (fun w_5 e_w_5 => ?_)
  refine ok_gq (40 : Int32) (by decide) (by clear hQ9; first | with_reducible assumption | (simp only [xl, xt, xe, xa, xb, xm, xg, ne_eq, Int32.reduceToInt] at * <;> omega) | grind) (by clear hQ9; first | with_reducible assumption | (simp only [xl, xt, xe, xa, xb, xm, xg, ne_eq, Int32.reduceToInt] at * <;> omega) | grind) ?_
  have q_9 : R (upd la_symbolOf (p0).toNatClampNeg w_5) (0 : Int32) (15 : Int32) := R_upd (by assumption) _ (by clear hQ9; first | with_reducible assumption | (simp only [xl, xt, xe, xa, xb, xm, xg, ne_eq, Int32.reduceToInt] at * <;> omega) | grind)
  refine ok_gq (40 : Int32) (by decide) (by clear hQ9; first | with_reducible assumption | (simp only [xl, xt, xe, xa, xb, xm, xg, ne_eq, Int32.reduceToInt] at * <;> omega) | grind) (by clear hQ9; first | with_reducible assumption | (simp only [xl, xt, xe, xa, xb, xm, xg, ne_eq, Int32.reduceToInt] at * <;> omega) | grind) ?_
  have q_10 := (by assumption : R la_xs (-8 : Int32) (31 : Int32)) ((p0 + (1 : Int32))).toNatClampNeg
  refine ok_nl (fun w_6 e_w_6 => ?_)
  refine ok_gq (40 : Int32) (by decide) (by clear hQ9; first | with_reducible assumption | (simp only [xl, xt, xe, xa, xb, xm, xg, ne_eq, Int32.reduceToInt] at * <;> omega) | grind) (by clear hQ9; first | with_reducible assumption | (simp only [xl, xt, xe, xa, xb, xm, xg, ne_eq, Int32.reduceToInt] at * <;> omega) | grind) ?_
  have q_11 : R (upd la_xs (p0).toNatClampNeg w_6) (-8 : Int32) (31 : Int32) := R_upd (by assumption) _ (by clear hQ9; first | with_reducible assumption | (simp only [xl, xt, xe, xa, xb, xm, xg, ne_eq, Int32.reduceToInt] at * <;> omega) | grind)
  refine ok_gq (40 : Int32) (by decide) (by clear hQ9; first | with_reducible assumption | (simp only [xl, xt, xe, xa, xb, xm, xg, ne_eq, Int32.reduceToInt] at * <;> omega) | grind) (by clear hQ9; first | with_reducible assumption | (simp only [xl, xt, xe, xa, xb, xm, xg, ne_eq, Int32.reduceToInt] at * <;> omega) | grind) ?_
  have q_12 := (by assumption : R la_ys (-8 : Int32) (31 : Int32)) ((p0 + (1 : Int32))).toNatClampNeg
  refine ok_nl (fun w_7 e_w_7 => ?_)
  refine ok_gq (40 : Int32) (by decide) (by clear hQ9; first | with_reducible assumption | (simp only [xl, xt, xe, xa, xb, xm, xg, ne_eq, Int32.reduceToInt] at * <;> omega) | grind) (by clear hQ9; first | with_reducible assumption | (simp only [xl, xt, xe, xa, xb, xm, xg, ne_eq, Int32.reduceToInt] at * <;> omega) | grind) ?_
  have q_13 : R (upd la_ys (p0).toNatClampNeg w_7) (-8 : Int32) (31 : Int32) := R_upd (by assumption) _ (by clear hQ9; first | with_reducible assumption | (simp only [xl, xt, xe, xa, xb, xm, xg, ne_eq, Int32.reduceToInt] at * <;> omega) | grind)
  refine ok_gq (40 : Int32) (by decide) (by clear hQ9; first | with_reducible assumption | (simp only [xl, xt, xe, xa, xb, xm, xg, ne_eq, Int32.reduceToInt] at * <;> omega) | grind) (by clear hQ9; first | with_reducible assumption | (simp only [xl, xt, xe, xa, xb, xm, xg, ne_eq, Int32.reduceToInt] at * <;> omega) | grind) ?_
  refine ok_nl (fun w_8 e_w_8 => ?_)
  refine ok_gq (40 : Int32) (by decide) (by clear hQ9; first | with_reducible assumption | (simp only [xl, xt, xe, xa, xb, xm, xg, ne_eq, Int32.reduceToInt] at * <;> omega) | grind) (by clear hQ9; first | with_reducible assumption | (simp only [xl, xt, xe, xa, xb, xm, xg, ne_eq, Int32.reduceToInt] at * <;> omega) | grind) ?_
  refine ok_gq (40 : Int32) (by decide) (by clear hQ9; first | with_reducible assumption | (simp only [xl, xt, xe, xa, xb, xm, xg, ne_eq, Int32.reduceToInt] at * <;> omega) | grind) (by clear hQ9; first | with_reducible assumption | (simp only [xl, xt, xe, xa, xb, xm, xg, ne_eq, Int32.reduceToInt] at * <;> omega) | grind) ?_
  have q_14 : R (upd (upd la_symbolOf (p0).toNatClampNeg w_5) ((p0 + (1 : Int32))).toNatClampNeg v2_1) (0 : Int32) (15 : Int32) := R_upd (by assumption) _ (by clear hQ9; first | with_reducible assumption | (simp only [xl, xt, xe, xa, xb, xm, xg, ne_eq, Int32.reduceToInt] at * <;> omega) | grind)
  refine ok_gq (40 : Int32) (by decide) (by clear hQ9; first | with_reducible assumption | (simp only [xl, xt, xe, xa, xb, xm, xg, ne_eq, Int32.reduceToInt] at * <;> omega) | grind) (by clear hQ9; first | with_reducible assumption | (simp only [xl, xt, xe, xa, xb, xm, xg, ne_eq, Int32.reduceToInt] at * <;> omega) | grind) ?_
  have q_15 : R (upd (upd la_xs (p0).toNatClampNeg w_6) ((p0 + (1 : Int32))).toNatClampNeg v3_2) (-8 : Int32) (31 : Int32) := R_upd (by assumption) _ (by clear hQ9; first | with_reducible assumption | (simp only [xl, xt, xe, xa, xb, xm, xg, ne_eq, Int32.reduceToInt] at * <;> omega) | grind)
  refine ok_gq (40 : Int32) (by decide) (by clear hQ9; first | with_reducible assumption | (simp only [xl, xt, xe, xa, xb, xm, xg, ne_eq, Int32.reduceToInt] at * <;> omega) | grind) (by clear hQ9; first | with_reducible assumption | (simp only [xl, xt, xe, xa, xb, xm, xg, ne_eq, Int32.reduceToInt] at * <;> omega) | grind) ?_
  have q_16 : R (upd (upd la_ys (p0).toNatClampNeg w_7) ((p0 + (1 : Int32))).toNatClampNeg v4_3) (-8 : Int32) (31 : Int32) := R_upd (by assumption) _ (by clear hQ9; first | with_reducible assumption | (simp only [xl, xt, xe, xa, xb, xm, xg, ne_eq, Int32.reduceToInt] at * <;> omega) | grind)
  refine ok_gq (40 : Int32) (by decide) (by clear hQ9; first | with_reducible assumption | (simp only [xl, xt, xe, xa, xb, xm, xg, ne_eq, Int32.reduceToInt] at * <;> omega) | grind) (by clear hQ9; first | with_reducible assumption | (simp only [xl, xt, xe, xa, xb, xm, xg, ne_eq, Int32.reduceToInt] at * <;> omega) | grind) ?_
  exact ok_some (hQ9 _ ⟨by assumption, by assumption, by assumption⟩)

set_option maxHeartbeats 4000000 in
set_option maxRecDepth 20000 in
theorem s_Layout_cornerS {la_ways : (Nat → Int32)} {la_xs : (Nat → Int32)} {la_symbolOf : (Nat → Int32)} {di_widths : (Nat → Int32)} {la_ys : (Nat → Int32)} {di_heights : (Nat → Int32)} {p0 : Int32} (q_1 : R la_ways (0 : Int32) (7 : Int32)) (q_2 : R la_xs (-8 : Int32) (31 : Int32)) (q_3 : R la_symbolOf (0 : Int32) (15 : Int32)) (q_4 : R di_widths (0 : Int32) (8 : Int32)) (q_5 : R la_ys (-8 : Int32) (31 : Int32)) (q_6 : R di_heights (0 : Int32) (8 : Int32)) (q_7 : ((0 : Int32) ≤ p0 ∧ p0 ≤ (39 : Int32))) : ok (f_Layout_cornerS la_ways la_xs la_symbolOf di_widths la_ys di_heights p0) (fun o => ((-9 : Int32) ≤ o ∧ o ≤ (38 : Int32))) := by
  refine ok_Q (fun Q9 hQ9 => ?_)
  unfold f_Layout_cornerS
  refine ok_bd (s_Layout_isTurned (by assumption)) (fun o9 h9 => ?_)
  obtain ⟨r_1, rfl⟩ : ∃ z9, z9 = o9 := ⟨_, rfl⟩
  have q_8 := h9
  clear h9
  refine ok_if (fun q_9 => ?_) (fun q_9 => ?_)
  · skip
    refine ok_gq (40 : Int32) (by decide) (by clear hQ9; first | with_reducible assumption | (simp only [xl, xt, xe, xa, xb, xm, xg, ne_eq, Int32.reduceToInt] at * <;> omega) | grind) (by clear hQ9; first | with_reducible assumption | (simp only [xl, xt, xe, xa, xb, xm, xg, ne_eq, Int32.reduceToInt] at * <;> omega) | grind) ?_
    have q_10 := (by assumption : R la_xs (-8 : Int32) (31 : Int32)) (p0).toNatClampNeg
    refine ok_gq (40 : Int32) (by decide) (by clear hQ9; first | with_reducible assumption | (simp only [xl, xt, xe, xa, xb, xm, xg, ne_eq, Int32.reduceToInt] at * <;> omega) | grind) (by clear hQ9; first | with_reducible assumption | (simp only [xl, xt, xe, xa, xb, xm, xg, ne_eq, Int32.reduceToInt] at * <;> omega) | grind) ?_
    have q_11 := (by assumption : R la_symbolOf (0 : Int32) (15 : Int32)) (p0).toNatClampNeg
    refine ok_bd (s_Layout_cornerColumn (by assumption) (by assumption) (by clear hQ9; first | with_reducible assumption | (simp only [xl, xt, xe, xa, xb, xm, xg, ne_eq, Int32.reduceToInt] at * <;> omega) | grind)) (fun o9 h9 => ?_)
    obtain ⟨r_2, rfl⟩ : ∃ z9, z9 = o9 := ⟨_, rfl⟩
    have q_12 := h9
    clear h9
    exact ok_some (hQ9 _ (by clear hQ9; first | with_reducible assumption | (simp only [xl, xt, xe, xa, xb, xm, xg, ne_eq, Int32.reduceToInt] at * <;> omega) | grind))
  · skip
    refine ok_gq (40 : Int32) (by decide) (by clear hQ9; first | with_reducible assumption | (simp only [xl, xt, xe, xa, xb, xm, xg, ne_eq, Int32.reduceToInt] at * <;> omega) | grind) (by clear hQ9; first | with_reducible assumption | (simp only [xl, xt, xe, xa, xb, xm, xg, ne_eq, Int32.reduceToInt] at * <;> omega) | grind) ?_
    have q_13 := (by assumption : R la_ys (-8 : Int32) (31 : Int32)) (p0).toNatClampNeg
    refine ok_gq (40 : Int32) (by decide) (by clear hQ9; first | with_reducible assumption | (simp only [xl, xt, xe, xa, xb, xm, xg, ne_eq, Int32.reduceToInt] at * <;> omega) | grind) (by clear hQ9; first | with_reducible assumption | (simp only [xl, xt, xe, xa, xb, xm, xg, ne_eq, Int32.reduceToInt] at * <;> omega) | grind) ?_
    have q_14 := (by assumption : R la_symbolOf (0 : Int32) (15 : Int32)) (p0).toNatClampNeg
    refine ok_bd (s_Layout_cornerRow (by assumption) (by assumption) (by clear hQ9; first | with_reducible assumption | (simp only [xl, xt, xe, xa, xb, xm, xg, ne_eq, Int32.reduceToInt] at * <;> omega) | grind)) (fun o9 h9 => ?_)
    obtain ⟨r_3, rfl⟩ : ∃ z9, z9 = o9 := ⟨_, rfl⟩
    have q_15 := h9
    clear h9
    exact ok_some (hQ9 _ (by clear hQ9; first | with_reducible assumption | (simp only [xl, xt, xe, xa, xb, xm, xg, ne_eq, Int32.reduceToInt] at * <;> omega) | grind))

set_option maxHeartbeats 4000000 in
set_option maxRecDepth 20000 in
theorem s_Layout_cornerT {la_ways : (Nat → Int32)} {la_ys : (Nat → Int32)} {la_symbolOf : (Nat → Int32)} {di_heights : (Nat → Int32)} {la_xs : (Nat → Int32)} {di_widths : (Nat → Int32)} {p0 : Int32} (q_1 : R la_ways (0 : Int32) (7 : Int32)) (q_2 : R la_ys (-8 : Int32) (31 : Int32)) (q_3 : R la_symbolOf (0 : Int32) (15 : Int32)) (q_4 : R di_heights (0 : Int32) (8 : Int32)) (q_5 : R la_xs (-8 : Int32) (31 : Int32)) (q_6 : R di_widths (0 : Int32) (8 : Int32)) (q_7 : ((0 : Int32) ≤ p0 ∧ p0 ≤ (39 : Int32))) : ok (f_Layout_cornerT la_ways la_ys la_symbolOf di_heights la_xs di_widths p0) (fun o => ((-9 : Int32) ≤ o ∧ o ≤ (38 : Int32))) := by
  refine ok_Q (fun Q9 hQ9 => ?_)
  unfold f_Layout_cornerT
  refine ok_bd (s_Layout_isTurned (by assumption)) (fun o9 h9 => ?_)
  obtain ⟨r_1, rfl⟩ : ∃ z9, z9 = o9 := ⟨_, rfl⟩
  have q_8 := h9
  clear h9
  refine ok_if (fun q_9 => ?_) (fun q_9 => ?_)
  · skip
    refine ok_gq (40 : Int32) (by decide) (by clear hQ9; first | with_reducible assumption | (simp only [xl, xt, xe, xa, xb, xm, xg, ne_eq, Int32.reduceToInt] at * <;> omega) | grind) (by clear hQ9; first | with_reducible assumption | (simp only [xl, xt, xe, xa, xb, xm, xg, ne_eq, Int32.reduceToInt] at * <;> omega) | grind) ?_
    have q_10 := (by assumption : R la_ys (-8 : Int32) (31 : Int32)) (p0).toNatClampNeg
    refine ok_gq (40 : Int32) (by decide) (by clear hQ9; first | with_reducible assumption | (simp only [xl, xt, xe, xa, xb, xm, xg, ne_eq, Int32.reduceToInt] at * <;> omega) | grind) (by clear hQ9; first | with_reducible assumption | (simp only [xl, xt, xe, xa, xb, xm, xg, ne_eq, Int32.reduceToInt] at * <;> omega) | grind) ?_
    have q_11 := (by assumption : R la_symbolOf (0 : Int32) (15 : Int32)) (p0).toNatClampNeg
    refine ok_bd (s_Layout_cornerRow (by assumption) (by assumption) (by clear hQ9; first | with_reducible assumption | (simp only [xl, xt, xe, xa, xb, xm, xg, ne_eq, Int32.reduceToInt] at * <;> omega) | grind)) (fun o9 h9 => ?_)
    obtain ⟨r_2, rfl⟩ : ∃ z9, z9 = o9 := ⟨_, rfl⟩
    have q_12 := h9
    clear h9
    exact ok_some (hQ9 _ (by clear hQ9; first | with_reducible assumption | (simp only [xl, xt, xe, xa, xb, xm, xg, ne_eq, Int32.reduceToInt] at * <;> omega) | grind))
  · skip
    refine ok_gq (40 : Int32) (by decide) (by clear hQ9; first | with_reducible assumption | (simp only [xl, xt, xe, xa, xb, xm, xg, ne_eq, Int32.reduceToInt] at * <;> omega) | grind) (by clear hQ9; first | with_reducible assumption | (simp only [xl, xt, xe, xa, xb, xm, xg, ne_eq, Int32.reduceToInt] at * <;> omega) | grind) ?_
    have q_13 := (by assumption : R la_xs (-8 : Int32) (31 : Int32)) (p0).toNatClampNeg
    refine ok_gq (40 : Int32) (by decide) (by clear hQ9; first | with_reducible assumption | (simp only [xl, xt, xe, xa, xb, xm, xg, ne_eq, Int32.reduceToInt] at * <;> omega) | grind) (by clear hQ9; first | with_reducible assumption | (simp only [xl, xt, xe, xa, xb, xm, xg, ne_eq, Int32.reduceToInt] at * <;> omega) | grind) ?_
    have q_14 := (by assumption : R la_symbolOf (0 : Int32) (15 : Int32)) (p0).toNatClampNeg
    refine ok_bd (s_Layout_cornerColumn (by assumption) (by assumption) (by clear hQ9; first | with_reducible assumption | (simp only [xl, xt, xe, xa, xb, xm, xg, ne_eq, Int32.reduceToInt] at * <;> omega) | grind)) (fun o9 h9 => ?_)
    obtain ⟨r_3, rfl⟩ : ∃ z9, z9 = o9 := ⟨_, rfl⟩
    have q_15 := h9
    clear h9
    exact ok_some (hQ9 _ (by clear hQ9; first | with_reducible assumption | (simp only [xl, xt, xe, xa, xb, xm, xg, ne_eq, Int32.reduceToInt] at * <;> omega) | grind))

set_option maxHeartbeats 4000000 in
set_option maxRecDepth 20000 in
theorem s_Layout_strip {la_ways : (Nat → Int32)} {la_ys : (Nat → Int32)} {la_symbolOf : (Nat → Int32)} {di_heights : (Nat → Int32)} {la_xs : (Nat → Int32)} {di_widths : (Nat → Int32)} {p0 : Int32} (q_1 : R la_ways (0 : Int32) (7 : Int32)) (q_2 : R la_ys (-8 : Int32) (31 : Int32)) (q_3 : R la_symbolOf (0 : Int32) (15 : Int32)) (q_4 : R di_heights (0 : Int32) (8 : Int32)) (q_5 : R la_xs (-8 : Int32) (31 : Int32)) (q_6 : R di_widths (0 : Int32) (8 : Int32)) (q_7 : ((0 : Int32) ≤ p0 ∧ p0 ≤ (39 : Int32))) : ok (f_Layout_strip la_ways la_ys la_symbolOf di_heights la_xs di_widths p0) (fun o => ((-9 : Int32) ≤ o ∧ o ≤ (38 : Int32))) := by
  refine ok_Q (fun Q9 hQ9 => ?_)
  unfold f_Layout_strip
  refine ok_bd (s_Layout_cornerT (by assumption) (by assumption) (by assumption) (by assumption) (by assumption) (by assumption) (by clear hQ9; first | with_reducible assumption | (simp only [xl, xt, xe, xa, xb, xm, xg, ne_eq, Int32.reduceToInt] at * <;> omega) | grind)) (fun o9 h9 => ?_)
  obtain ⟨r_1, rfl⟩ : ∃ z9, z9 = o9 := ⟨_, rfl⟩
  have q_8 := h9
  clear h9
  refine ok_gq (4 : Int32) (by decide) (by clear hQ9; first | with_reducible assumption | (simp only [xl, xt, xe, xa, xb, xm, xg, ne_eq, Int32.reduceToInt] at * <;> omega) | grind) (by clear hQ9; first | with_reducible assumption | (simp only [xl, xt, xe, xa, xb, xm, xg, ne_eq, Int32.reduceToInt] at * <;> omega) | grind) ?_
  have q_9 := (by assumption : R la_ways (0 : Int32) (7 : Int32)) ((2 : Int32)).toNatClampNeg
  have q_10 := sar r_1 (la_ways ((2 : Int32)).toNatClampNeg)
  exact ok_some (hQ9 _ (by clear hQ9; first | with_reducible assumption | (simp only [xl, xt, xe, xa, xb, xm, xg, ne_eq, Int32.reduceToInt] at * <;> omega) | grind))

set_option maxHeartbeats 4000000 in
set_option maxRecDepth 20000 in
theorem s_Layout_nextS {la_symbolOf : (Nat → Int32)} {la_ways : (Nat → Int32)} {la_xs : (Nat → Int32)} {di_widths : (Nat → Int32)} {la_ys : (Nat → Int32)} {di_heights : (Nat → Int32)} {p0 : Int32} (q_1 : R la_symbolOf (0 : Int32) (15 : Int32)) (q_2 : R la_ways (0 : Int32) (7 : Int32)) (q_3 : R la_xs (-8 : Int32) (31 : Int32)) (q_4 : R di_widths (0 : Int32) (8 : Int32)) (q_5 : R la_ys (-8 : Int32) (31 : Int32)) (q_6 : R di_heights (0 : Int32) (8 : Int32)) (q_7 : ((0 : Int32) ≤ p0 ∧ p0 ≤ (39 : Int32))) : ok (f_Layout_nextS la_symbolOf la_ways la_xs di_widths la_ys di_heights p0) (fun o => ((-9 : Int32) ≤ o ∧ o ≤ (46 : Int32))) := by
  refine ok_Q (fun Q9 hQ9 => ?_)
  unfold f_Layout_nextS
  refine ok_gq (40 : Int32) (by decide) (by clear hQ9; first | with_reducible assumption | (simp only [xl, xt, xe, xa, xb, xm, xg, ne_eq, Int32.reduceToInt] at * <;> omega) | grind) (by clear hQ9; first | with_reducible assumption | (simp only [xl, xt, xe, xa, xb, xm, xg, ne_eq, Int32.reduceToInt] at * <;> omega) | grind) ?_
  have q_8 := (by assumption : R la_symbolOf (0 : Int32) (15 : Int32)) (p0).toNatClampNeg
  refine ok_nl (fun v2_1 e_v2_1 => ?_)
  refine ok_bd (s_Layout_cornerS (by assumption) (by assumption) (by assumption) (by assumption) (by assumption) (by assumption) (by clear hQ9; first | with_reducible assumption | (simp only [xl, xt, xe, xa, xb, xm, xg, ne_eq, Int32.reduceToInt] at * <;> omega) | grind)) (fun o9 h9 => ?_)
  obtain ⟨r_2, rfl⟩ : ∃ z9, z9 = o9 := ⟨_, rfl⟩
  have q_9 := h9
  clear h9
  refine ok_bd (s_Layout_isTurned (by assumption)) (fun o9 h9 => ?_)
  obtain ⟨r_3, rfl⟩ : ∃ z9, z9 = o9 := ⟨_, rfl⟩
  have q_10 := h9
  clear h9
  refine ok_if (fun q_11 => ?_) (fun q_11 => ?_)
  · skip
    refine ok_gq (16 : Int32) (by decide) (by clear hQ9; first | with_reducible assumption | (simp only [xl, xt, xe, xa, xb, xm, xg, ne_eq, Int32.reduceToInt] at * <;> omega) | grind) (by clear hQ9; first | with_reducible assumption | (simp only [xl, xt, xe, xa, xb, xm, xg, ne_eq, Int32.reduceToInt] at * <;> omega) | grind) ?_
    have q_12 := (by assumption : R di_widths (0 : Int32) (8 : Int32)) (v2_1).toNatClampNeg
    exact ok_some (hQ9 _ (by clear hQ9; first | with_reducible assumption | (simp only [xl, xt, xe, xa, xb, xm, xg, ne_eq, Int32.reduceToInt] at * <;> omega) | grind))
  · skip
    refine ok_gq (16 : Int32) (by decide) (by clear hQ9; first | with_reducible assumption | (simp only [xl, xt, xe, xa, xb, xm, xg, ne_eq, Int32.reduceToInt] at * <;> omega) | grind) (by clear hQ9; first | with_reducible assumption | (simp only [xl, xt, xe, xa, xb, xm, xg, ne_eq, Int32.reduceToInt] at * <;> omega) | grind) ?_
    have q_13 := (by assumption : R di_heights (0 : Int32) (8 : Int32)) (v2_1).toNatClampNeg
    exact ok_some (hQ9 _ (by clear hQ9; first | with_reducible assumption | (simp only [xl, xt, xe, xa, xb, xm, xg, ne_eq, Int32.reduceToInt] at * <;> omega) | grind))

set_option maxHeartbeats 4000000 in
set_option maxRecDepth 20000 in
theorem s_Layout_arrange {la_count : Int32} {la_ways : (Nat → Int32)} {la_ys : (Nat → Int32)} {la_symbolOf : (Nat → Int32)} {di_heights : (Nat → Int32)} {la_xs : (Nat → Int32)} {di_widths : (Nat → Int32)} {la_sequence : (Nat → Int32)} (q_1 : ((0 : Int32) ≤ la_count ∧ la_count ≤ (40 : Int32))) (q_2 : R la_ways (0 : Int32) (7 : Int32)) (q_3 : R la_ys (-8 : Int32) (31 : Int32)) (q_4 : R la_symbolOf (0 : Int32) (15 : Int32)) (q_5 : R di_heights (0 : Int32) (8 : Int32)) (q_6 : R la_xs (-8 : Int32) (31 : Int32)) (q_7 : R di_widths (0 : Int32) (8 : Int32)) (q_8 : R la_sequence (0 : Int32) (39 : Int32)) : ok (f_Layout_arrange la_count la_ways la_ys la_symbolOf di_heights la_xs di_widths la_sequence) (fun o => R o (0 : Int32) (39 : Int32)) := by
  refine ok_Q (fun Q9 hQ9 => ?_)
  unfold f_Layout_arrange
  refine ok_lp (fun s9 => ((0 : Int32) ≤ s9.1 ∧ s9.1 ≤ (40 : Int32)) ∧ R s9.2 (0 : Int32) (39 : Int32)) (fun s9 => 40 - s9.1) ⟨by clear hQ9; first | with_reducible assumption | (simp only [xl, xt, xe, xa, xb, xm, xg, ne_eq, Int32.reduceToInt] at * <;> omega) | grind, by assumption⟩ ?_ ?_
  · intro s9 hs9; obtain ⟨v1_1, la_sequence_2⟩ := s9; try dsimp only at hs9; obtain ⟨q_9, q_10⟩ := hs9; exact ⟨by clear hQ9; (try dsimp only); first | with_reducible assumption | (simp only [xl, xt, xe, xa, xb, xm, xg, ne_eq, Int32.reduceToInt] at * <;> omega) | grind, by clear hQ9; (try dsimp only); first | with_reducible assumption | (simp only [xl, xt, xe, xa, xb, xm, xg, ne_eq, Int32.reduceToInt] at * <;> omega) | grind⟩
  intro self2 s9 hs9 ih_self2
  obtain ⟨v1_1, la_sequence_2⟩ := s9; try dsimp only at hs9; obtain ⟨q_9, q_10⟩ := hs9
  unfold f_Layout_arrange_L2
  try dsimp only
  try dsimp only at ih_self2
  refine ok_if (fun q_11 => ?_) (fun q_11 => ?_)
  · skip
    exact ok_some (hQ9 _ (by assumption))
  · skip
    refine ok_bd (s_Layout_strip (by assumption) (by assumption) (by assumption) (by assumption) (by assumption) (by assumption) (by clear hQ9 ih_self2; first | with_reducible assumption | (simp only [xl, xt, xe, xa, xb, xm, xg, ne_eq, Int32.reduceToInt] at * <;> omega) | grind)) (fun o9 h9 => ?_)
    obtain ⟨r_3, rfl⟩ : ∃ z9, z9 = o9 := ⟨_, rfl⟩
    have q_12 := h9
    clear h9
    refine ok_ex (fun k9 => lp (f_Layout_arrange_L18 la_ways la_ys la_symbolOf di_heights la_xs di_widths r_3 k9) FU (v1_1, la_sequence_2)) (fun j9 => ∀ (v3_6 : Int32) (la_sequence_7 : (Nat → Int32)), ((0 : Int32) ≤ v3_6 ∧ v3_6 ≤ (39 : Int32)) → R la_sequence_7 (0 : Int32) (39 : Int32) → ok (j9 v3_6 la_sequence_7) Q9) ?_ (fun k58 h_k58 => ?_)
    · intro v3_6 la_sequence_7 q_13 q_14
      refine ok_gq (40 : Int32) (by decide) (by clear hQ9 ih_self2; first | with_reducible assumption | (simp only [xl, xt, xe, xa, xb, xm, xg, ne_eq, Int32.reduceToInt] at * <;> omega) | grind) (by clear hQ9 ih_self2; first | with_reducible assumption | (simp only [xl, xt, xe, xa, xb, xm, xg, ne_eq, Int32.reduceToInt] at * <;> omega) | grind) ?_
      have q_15 : R (upd la_sequence_7 (v3_6).toNatClampNeg v1_1) (0 : Int32) (39 : Int32) := R_upd (by assumption) _ (by clear hQ9 ih_self2; first | with_reducible assumption | (simp only [xl, xt, xe, xa, xb, xm, xg, ne_eq, Int32.reduceToInt] at * <;> omega) | grind)
      refine ok_nl (fun v1_11 e_v1_11 => ?_)
      exact ih_self2 (v1_11, (upd la_sequence_7 (v3_6).toNatClampNeg v1_1)) ⟨by clear hQ9 ih_self2; first | with_reducible assumption | (simp only [xl, xt, xe, xa, xb, xm, xg, ne_eq, Int32.reduceToInt] at * <;> omega) | grind, by assumption⟩ (by clear hQ9 ih_self2; (try dsimp only); first | with_reducible assumption | (simp only [xl, xt, xe, xa, xb, xm, xg, ne_eq, Int32.reduceToInt] at * <;> omega) | grind)
    refine ok_lp (fun s9 => ((0 : Int32) ≤ s9.1 ∧ s9.1 ≤ (39 : Int32)) ∧ R s9.2 (0 : Int32) (39 : Int32)) (fun s9 => s9.1) ⟨by clear hQ9 ih_self2 h_k58; first | with_reducible assumption | (simp only [xl, xt, xe, xa, xb, xm, xg, ne_eq, Int32.reduceToInt] at * <;> omega) | grind, by assumption⟩ ?_ ?_
    · intro s9 hs9; obtain ⟨v3_4, la_sequence_5⟩ := s9; try dsimp only at hs9; obtain ⟨q_16, q_17⟩ := hs9; exact ⟨by clear hQ9 ih_self2 h_k58; (try dsimp only); first | with_reducible assumption | (simp only [xl, xt, xe, xa, xb, xm, xg, ne_eq, Int32.reduceToInt] at * <;> omega) | grind, by clear hQ9 ih_self2 h_k58; (try dsimp only); first | with_reducible assumption | (simp only [xl, xt, xe, xa, xb, xm, xg, ne_eq, Int32.reduceToInt] at * <;> omega) | grind⟩
    intro self18 s9 hs9 ih_self18
    obtain ⟨v3_4, la_sequence_5⟩ := s9; try dsimp only at hs9; obtain ⟨q_16, q_17⟩ := hs9
    unfold f_Layout_arrange_L18
    try dsimp only
    try dsimp only at ih_self18
    refine ok_if (fun q_18 => ?_) (fun q_18 => ?_)
    · skip
      exact h_k58 _ _ (by clear hQ9 ih_self2 h_k58 ih_self18; first | with_reducible assumption | (simp only [xl, xt, xe, xa, xb, xm, xg, ne_eq, Int32.reduceToInt] at * <;> omega) | grind) (by assumption)
    · skip
      refine ok_gq (40 : Int32) (by decide) (by clear hQ9 ih_self2 h_k58 ih_self18; first | with_reducible assumption | (simp only [xl, xt, xe, xa, xb, xm, xg, ne_eq, Int32.reduceToInt] at * <;> omega) | grind) (by clear hQ9 ih_self2 h_k58 ih_self18; first | with_reducible assumption | (simp only [xl, xt, xe, xa, xb, xm, xg, ne_eq, Int32.reduceToInt] at * <;> omega) | grind) ?_
      have q_19 := (by assumption : R la_sequence_5 (0 : Int32) (39 : Int32)) ((v3_4 - (1 : Int32))).toNatClampNeg
      refine ok_bd (s_Layout_strip (by assumption) (by assumption) (by assumption) (by assumption) (by assumption) (by assumption) (by clear hQ9 ih_self2 h_k58 ih_self18; first | with_reducible assumption | (simp only [xl, xt, xe, xa, xb, xm, xg, ne_eq, Int32.reduceToInt] at * <;> omega) | grind)) (fun o9 h9 => ?_)
      obtain ⟨r_8, rfl⟩ : ∃ z9, z9 = o9 := ⟨_, rfl⟩
      have q_20 := h9
      clear h9
      refine ok_if (fun q_21 => ?_) (fun q_21 => ?_)
      · skip
        exact h_k58 _ _ (by clear hQ9 ih_self2 h_k58 ih_self18; first | with_reducible assumption | (simp only [xl, xt, xe, xa, xb, xm, xg, ne_eq, Int32.reduceToInt] at * <;> omega) | grind) (by assumption)
      · skip
        refine ok_gq (40 : Int32) (by decide) (by clear hQ9 ih_self2 h_k58 ih_self18; first | with_reducible assumption | (simp only [xl, xt, xe, xa, xb, xm, xg, ne_eq, Int32.reduceToInt] at * <;> omega) | grind) (by clear hQ9 ih_self2 h_k58 ih_self18; first | with_reducible assumption | (simp only [xl, xt, xe, xa, xb, xm, xg, ne_eq, Int32.reduceToInt] at * <;> omega) | grind) ?_
        have q_22 := (by assumption : R la_sequence_5 (0 : Int32) (39 : Int32)) ((v3_4 - (1 : Int32))).toNatClampNeg
        refine ok_nl (fun w_9 e_w_9 => ?_)
        refine ok_gq (40 : Int32) (by decide) (by clear hQ9 ih_self2 h_k58 ih_self18; first | with_reducible assumption | (simp only [xl, xt, xe, xa, xb, xm, xg, ne_eq, Int32.reduceToInt] at * <;> omega) | grind) (by clear hQ9 ih_self2 h_k58 ih_self18; first | with_reducible assumption | (simp only [xl, xt, xe, xa, xb, xm, xg, ne_eq, Int32.reduceToInt] at * <;> omega) | grind) ?_
        have q_23 : R (upd la_sequence_5 (v3_4).toNatClampNeg w_9) (0 : Int32) (39 : Int32) := R_upd (by assumption) _ (by clear hQ9 ih_self2 h_k58 ih_self18; first | with_reducible assumption | (simp only [xl, xt, xe, xa, xb, xm, xg, ne_eq, Int32.reduceToInt] at * <;> omega) | grind)
        refine ok_nl (fun v3_10 e_v3_10 => ?_)
        exact ih_self18 (v3_10, (upd la_sequence_5 (v3_4).toNatClampNeg w_9)) ⟨by clear hQ9 ih_self2 h_k58 ih_self18; first | with_reducible assumption | (simp only [xl, xt, xe, xa, xb, xm, xg, ne_eq, Int32.reduceToInt] at * <;> omega) | grind, by assumption⟩ (by clear hQ9 ih_self2 h_k58 ih_self18; (try dsimp only); first | with_reducible assumption | (simp only [xl, xt, xe, xa, xb, xm, xg, ne_eq, Int32.reduceToInt] at * <;> omega) | grind)

