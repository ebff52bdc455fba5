set_option maxHeartbeats 4000000 in
set_option maxRecDepth 20000 in
theorem s_Page_has {pg_width : Int32} {pg_height : Int32} {p0 : Int32} {p1 : Int32} (q_1 : ((1 : Int32) ≤ pg_width ∧ pg_width ≤ (24 : Int32))) (q_2 : ((1 : Int32) ≤ pg_height ∧ pg_height ≤ (24 : Int32))) : ok (f_Page_has pg_width pg_height p0 p1) (fun o => ((0 : Int32) ≤ o ∧ o ≤ (1 : Int32)) ∧ (o = 1 → (0 : Int32) ≤ p0 ∧ p0 < pg_width ∧ (0 : Int32) ≤ p1 ∧ p1 < pg_height)) := by
  refine ok_Q (fun Q9 hQ9 => ?_)
  unfold f_Page_has
  refine ok_bd (s_Top_isWithin) (fun o9 h9 => ?_)
  obtain ⟨r_1, rfl⟩ : ∃ z9, z9 = o9 := ⟨_, rfl⟩
  obtain ⟨q_3, q_4⟩ := h9
  refine ok_if (fun q_5 => ?_) (fun q_5 => ?_)
  · skip
    exact ok_some (hQ9 _ ⟨by clear hQ9; first | with_reducible assumption | (simp only [xl, xt, xe, xa, xb, xm, xg, ne_eq, Int32.reduceToInt] at * <;> omega) | grind, by clear hQ9; first | with_reducible assumption | (simp only [xl, xt, xe, xa, xb, xm, xg, ne_eq, Int32.reduceToInt] at * <;> omega) | grind⟩)
  · skip
    refine ok_bd (s_Top_isWithin) (fun o9 h9 => ?_)
    obtain ⟨r_2, rfl⟩ : ∃ z9, z9 = o9 := ⟨_, rfl⟩
    obtain ⟨q_6, q_7⟩ := h9
    refine ok_if (fun q_8 => ?_) (fun q_8 => ?_)
    · skip
      exact ok_some (hQ9 _ ⟨by clear hQ9; first | with_reducible assumption | (simp only [xl, xt, xe, xa, xb, xm, xg, ne_eq, Int32.reduceToInt] at * <;> omega) | grind, by clear hQ9; first | with_reducible assumption | (simp only [xl, xt, xe, xa, xb, xm, xg, ne_eq, Int32.reduceToInt] at * <;> omega) | grind⟩)
    · skip
      exact ok_some (hQ9 _ ⟨by clear hQ9; first | with_reducible assumption | (simp only [xl, xt, xe, xa, xb, xm, xg, ne_eq, Int32.reduceToInt] at * <;> omega) | grind, by clear hQ9; first | with_reducible assumption | (simp only [xl, xt, xe, xa, xb, xm, xg, ne_eq, Int32.reduceToInt] at * <;> omega) | grind⟩)

set_option maxHeartbeats 4000000 in
set_option maxRecDepth 20000 in
theorem s_Page_lighten {n_pg_dark : Nat} {pg_dark : (Nat → Int32)} {N9 : Int32} (hn9 : (n_pg_dark : Int) = N9.toInt) (hN9 : 0 ≤ N9 ∧ N9 ≤ 576) (q_1 : R pg_dark (0 : Int32) (1 : Int32)) : ok (f_Page_lighten n_pg_dark pg_dark) (fun o => R o (0 : Int32) (1 : Int32)) := by
  refine ok_Q (fun Q9 hQ9 => ?_)
  unfold f_Page_lighten
  refine ok_lp (fun s9 => ((0 : Int32) ≤ s9.1 ∧ s9.1 ≤ (576 : Int32)) ∧ R s9.2 (0 : Int32) (1 : Int32)) (fun s9 => 576 - s9.1) ⟨by clear hQ9; first | with_reducible assumption | (simp only [xl, xt, xe, xa, xb, xm, xg, ne_eq, Int32.reduceToInt] at * <;> omega) | grind, by assumption⟩ ?_ ?_
  · intro s9 hs9; obtain ⟨v1_1, pg_dark_2⟩ := s9; try dsimp only at hs9; obtain ⟨q_2, q_3⟩ := hs9; exact ⟨by clear hQ9; (try dsimp only); first | with_reducible assumption | (simp only [xl, xt, xe, xa, xb, xm, xg, ne_eq, Int32.reduceToInt] at * <;> omega) | grind, by clear hQ9; (try dsimp only); first | with_reducible assumption | (simp only [xl, xt, xe, xa, xb, xm, xg, ne_eq, Int32.reduceToInt] at * <;> omega) | grind⟩
  intro self2 s9 hs9 ih_self2
  obtain ⟨v1_1, pg_dark_2⟩ := s9; try dsimp only at hs9; obtain ⟨q_2, q_3⟩ := hs9
  unfold f_Page_lighten_L2
  try dsimp only
  try rw [ofn hn9]
  try dsimp only at ih_self2
  refine ok_if (fun q_4 => ?_) (fun q_4 => ?_)
  · skip
    exact ok_some (hQ9 _ (by assumption))
  · skip
    refine ok_gq N9 hn9 (by clear hQ9 ih_self2; first | with_reducible assumption | (simp only [xl, xt, xe, xa, xb, xm, xg, ne_eq, Int32.reduceToInt] at * <;> omega) | grind) (by clear hQ9 ih_self2; first | with_reducible assumption | (simp only [xl, xt, xe, xa, xb, xm, xg, ne_eq, Int32.reduceToInt] at * <;> omega) | grind) ?_
    have q_5 : R (upd pg_dark_2 (v1_1).toNatClampNeg (vp_nar .boolean (0 : Int32))) (0 : Int32) (1 : Int32) := R_updB (by assumption) _ _
    refine ok_nl (fun v1_3 e_v1_3 => ?_)
    exact ih_self2 (v1_3, (upd pg_dark_2 (v1_1).toNatClampNeg (vp_nar .boolean (0 : Int32)))) ⟨by clear hQ9 ih_self2; first | with_reducible assumption | (simp only [xl, xt, xe, xa, xb, xm, xg, ne_eq, Int32.reduceToInt] at * <;> omega) | grind, by assumption⟩ (by clear hQ9 ih_self2; (try dsimp only); first | with_reducible assumption | (simp only [xl, xt, xe, xa, xb, xm, xg, ne_eq, Int32.reduceToInt] at * <;> omega) | grind)

set_option maxHeartbeats 4000000 in
set_option maxRecDepth 20000 in
theorem s_Page_countDark {n_pg_dark : Nat} {pg_dark : (Nat → Int32)} {N9 : Int32} (hn9 : (n_pg_dark : Int) = N9.toInt) (hN9 : 0 ≤ N9 ∧ N9 ≤ 576) (q_1 : R pg_dark (0 : Int32) (1 : Int32)) : ok (f_Page_countDark n_pg_dark pg_dark) (fun o => True) := by
  refine ok_Q (fun Q9 hQ9 => ?_)
  unfold f_Page_countDark
  refine ok_lp (fun s9 => ((0 : Int32) ≤ s9.1 ∧ s9.1 ≤ (576 : Int32))) (fun s9 => 576 - s9.1) (by clear hQ9; first | with_reducible assumption | (simp only [xl, xt, xe, xa, xb, xm, xg, ne_eq, Int32.reduceToInt] at * <;> omega) | grind) ?_ ?_
  · intro s9 hs9; obtain ⟨v2_1, v1_2⟩ := s9; try dsimp only at hs9; have q_2 := hs9; exact ⟨by clear hQ9; (try dsimp only); first | with_reducible assumption | (simp only [xl, xt, xe, xa, xb, xm, xg, ne_eq, Int32.reduceToInt] at * <;> omega) | grind, by clear hQ9; (try dsimp only); first | with_reducible assumption | (simp only [xl, xt, xe, xa, xb, xm, xg, ne_eq, Int32.reduceToInt] at * <;> omega) | grind⟩
  intro self4 s9 hs9 ih_self4
  obtain ⟨v2_1, v1_2⟩ := s9; try dsimp only at hs9; have q_2 := hs9
  unfold f_Page_countDark_L4
  try dsimp only
  try rw [ofn hn9]
  try dsimp only at ih_self4
  refine ok_if (fun q_3 => ?_) (fun q_3 => ?_)
  · skip
    exact ok_some (hQ9 _ trivial)
  · skip
    refine ok_gq N9 hn9 (by clear hQ9 ih_self4; first | with_reducible assumption | (simp only [xl, xt, xe, xa, xb, xm, xg, ne_eq, Int32.reduceToInt] at * <;> omega) | grind) (by clear hQ9 ih_self4; first | with_reducible assumption | (simp only [xl, xt, xe, xa, xb, xm, xg, ne_eq, Int32.reduceToInt] at * <;> omega) | grind) ?_
    have q_4 := (by assumption : R pg_dark (0 : Int32) (1 : Int32)) (v2_1).toNatClampNeg
    refine ok_jn (fun j9 => ∀ (s_3 : Int32) (s_4 : Int32), ok (j9 s_3 s_4) Q9) ?_ (fun j28 h_j28 => ?_)
    · intro s_3 s_4
      refine ok_nl (fun v1_5 e_v1_5 => ?_)
      refine ok_nl (fun v2_6 e_v2_6 => ?_)
      exact ih_self4 (v2_6, v1_5) (by clear hQ9 ih_self4; first | with_reducible assumption | (simp only [xl, xt, xe, xa, xb, xm, xg, ne_eq, Int32.reduceToInt] at * <;> omega) | grind) (by clear hQ9 ih_self4; (try dsimp only); first | with_reducible assumption | (simp only [xl, xt, xe, xa, xb, xm, xg, ne_eq, Int32.reduceToInt] at * <;> omega) | grind)
    refine ok_if (fun q_5 => ?_) (fun q_5 => ?_)
    · skip
      exact h_j28 _ _
    · skip
      exact h_j28 _ _

set_option maxHeartbeats 4000000 in
set_option maxRecDepth 20000 in
theorem s_Page_composed {p0 : Int32} {p1 : Int32} {p2 : Int32} (q_1 : ((0 : Int32) ≤ p0 ∧ p0 ≤ (1 : Int32))) (q_2 : ((0 : Int32) ≤ p1 ∧ p1 ≤ (1 : Int32))) : ok (f_Page_composed p0 p1 p2) (fun o => ((0 : Int32) ≤ o ∧ o ≤ (1 : Int32))) := by
  refine ok_Q (fun Q9 hQ9 => ?_)
  unfold f_Page_composed
  refine ok_if (fun q_3 => ?_) (fun q_3 => ?_)
  · skip
    refine ok_jn (fun j9 => ∀ (_ : Unit), ok (j9 ()) Q9) ?_ (fun j40 h_j40 => ?_)
    · intro _
      exact ok_some (hQ9 _ (by clear hQ9; first | with_reducible assumption | (simp only [xl, xt, xe, xa, xb, xm, xg, ne_eq, Int32.reduceToInt] at * <;> omega) | grind))
    refine ok_if (fun q_4 => ?_) (fun q_4 => ?_)
    · skip
      refine ok_if (fun q_5 => ?_) (fun q_5 => ?_)
      · skip
        exact ok_some (hQ9 _ (by clear hQ9 h_j40; first | with_reducible assumption | (simp only [xl, xt, xe, xa, xb, xm, xg, ne_eq, Int32.reduceToInt] at * <;> omega) | grind))
      · skip
        exact h_j40 ()
    · skip
      exact h_j40 ()
  refine ok_if (fun q_6 => ?_) (fun q_6 => ?_)
  · skip
    refine ok_if (fun q_7 => ?_) (fun q_7 => ?_)
    · skip
      exact ok_some (hQ9 _ (by clear hQ9; first | with_reducible assumption | (simp only [xl, xt, xe, xa, xb, xm, xg, ne_eq, Int32.reduceToInt] at * <;> omega) | grind))
    · skip
      refine ok_if (fun q_8 => ?_) (fun q_8 => ?_)
      · skip
        exact ok_some (hQ9 _ (by clear hQ9; first | with_reducible assumption | (simp only [xl, xt, xe, xa, xb, xm, xg, ne_eq, Int32.reduceToInt] at * <;> omega) | grind))
      · skip
        exact ok_some (hQ9 _ (by clear hQ9; first | with_reducible assumption | (simp only [xl, xt, xe, xa, xb, xm, xg, ne_eq, Int32.reduceToInt] at * <;> omega) | grind))
  refine ok_if (fun q_9 => ?_) (fun q_9 => ?_)
  · skip
    refine ok_if (fun q_10 => ?_) (fun q_10 => ?_)
    · skip
      exact ok_some (hQ9 _ (by clear hQ9; first | with_reducible assumption | (simp only [xl, xt, xe, xa, xb, xm, xg, ne_eq, Int32.reduceToInt] at * <;> omega) | grind))
    · skip
      exact ok_some (hQ9 _ (by clear hQ9; first | with_reducible assumption | (simp only [xl, xt, xe, xa, xb, xm, xg, ne_eq, Int32.reduceToInt] at * <;> omega) | grind))
  refine ok_if (fun q_11 => ?_) (fun q_11 => ?_)
  · skip
    refine ok_if (fun q_12 => ?_) (fun q_12 => ?_)
    · skip
      exact ok_some (hQ9 _ (by clear hQ9; first | with_reducible assumption | (simp only [xl, xt, xe, xa, xb, xm, xg, ne_eq, Int32.reduceToInt] at * <;> omega) | grind))
    · skip
      exact ok_some (hQ9 _ (by clear hQ9; first | with_reducible assumption | (simp only [xl, xt, xe, xa, xb, xm, xg, ne_eq, Int32.reduceToInt] at * <;> omega) | grind))
  refine ok_bz (by clear hQ9; first | with_reducible assumption | (simp only [xl, xt, xe, xa, xb, xm, xg, ne_eq, Int32.reduceToInt] at * <;> omega) | grind) ?_
  exact ok_some (hQ9 _ (by clear hQ9; first | with_reducible assumption | (simp only [xl, xt, xe, xa, xb, xm, xg, ne_eq, Int32.reduceToInt] at * <;> omega) | grind))

set_option maxHeartbeats 4000000 in
set_option maxRecDepth 20000 in
theorem s_Page_laySample {pg_width : Int32} {pg_height : Int32} {n_pg_dark : Nat} {pg_dark : (Nat → Int32)} {p0 : Int32} {p1 : Int32} {p2 : Int32} {p3 : Int32} {N9 : Int32} (hn9 : (n_pg_dark : Int) = N9.toInt) (hN9 : 0 ≤ N9 ∧ N9 ≤ 576) (hwh : N9 = pg_width * pg_height) (q_1 : ((1 : Int32) ≤ pg_width ∧ pg_width ≤ (24 : Int32))) (q_2 : ((1 : Int32) ≤ pg_height ∧ pg_height ≤ (24 : Int32))) (q_3 : R pg_dark (0 : Int32) (1 : Int32)) (q_4 : ((0 : Int32) ≤ p2 ∧ p2 ≤ (1 : Int32))) : ok (f_Page_laySample pg_width pg_height n_pg_dark pg_dark p0 p1 p2 p3) (fun o => R o (0 : Int32) (1 : Int32)) := by
  refine ok_Q (fun Q9 hQ9 => ?_)
  unfold f_Page_laySample
  refine ok_bd (s_Page_has (by clear hQ9; first | with_reducible assumption | (simp only [xl, xt, xe, xa, xb, xm, xg, ne_eq, Int32.reduceToInt] at * <;> omega) | grind) (by clear hQ9; first | with_reducible assumption | (simp only [xl, xt, xe, xa, xb, xm, xg, ne_eq, Int32.reduceToInt] at * <;> omega) | grind)) (fun o9 h9 => ?_)
  obtain ⟨r_1, rfl⟩ : ∃ z9, z9 = o9 := ⟨_, rfl⟩
  obtain ⟨q_5, q_6⟩ := h9
  refine ok_if (fun q_7 => ?_) (fun q_7 => ?_)
  · skip
    exact ok_some (hQ9 _ (by assumption))
  · skip
    have q_8 := pgi (x := p0) (y := p1) (w := pg_width) (h := pg_height) (e := ((p1 * pg_width) + p0)) (by clear hQ9; first | with_reducible assumption | (simp only [xl, xt, xe, xa, xb, xm, xg, ne_eq, Int32.reduceToInt] at * <;> omega) | grind) (by clear hQ9; first | with_reducible assumption | (simp only [xl, xt, xe, xa, xb, xm, xg, ne_eq, Int32.reduceToInt] at * <;> omega) | grind) (by clear hQ9; first | with_reducible assumption | (simp only [xl, xt, xe, xa, xb, xm, xg, ne_eq, Int32.reduceToInt] at * <;> omega) | grind) (by clear hQ9; first | with_reducible assumption | (simp only [xl, xt, xe, xa, xb, xm, xg, ne_eq, Int32.reduceToInt] at * <;> omega) | grind) (by clear hQ9; first | with_reducible assumption | (simp only [xl, xt, xe, xa, xb, xm, xg, ne_eq, Int32.reduceToInt] at * <;> omega) | grind) (by clear hQ9; first | with_reducible assumption | (simp only [xl, xt, xe, xa, xb, xm, xg, ne_eq, Int32.reduceToInt] at * <;> omega) | grind) rfl
    refine ok_gq N9 hn9 (by clear hQ9; first | with_reducible assumption | (simp only [xl, xt, xe, xa, xb, xm, xg, ne_eq, Int32.reduceToInt] at * <;> omega) | grind) (by clear hQ9; first | with_reducible assumption | (simp only [xl, xt, xe, xa, xb, xm, xg, ne_eq, Int32.reduceToInt] at * <;> omega) | grind) ?_
    have q_9 := (by assumption : R pg_dark (0 : Int32) (1 : Int32)) (((p1 * pg_width) + p0)).toNatClampNeg
    refine ok_bd (s_Page_composed (by clear hQ9; first | with_reducible assumption | (simp only [xl, xt, xe, xa, xb, xm, xg, ne_eq, Int32.reduceToInt] at * <;> omega) | grind) (by clear hQ9; first | with_reducible assumption | (simp only [xl, xt, xe, xa, xb, xm, xg, ne_eq, Int32.reduceToInt] at * <;> omega) | grind)) (fun o9 h9 => ?_)
    obtain ⟨r_2, rfl⟩ : ∃ z9, z9 = o9 := ⟨_, rfl⟩
    have q_10 := h9
    clear h9
    have q_11 := pgi (x := p0) (y := p1) (w := pg_width) (h := pg_height) (e := ((p1 * pg_width) + p0)) (by clear hQ9; first | with_reducible assumption | (simp only [xl, xt, xe, xa, xb, xm, xg, ne_eq, Int32.reduceToInt] at * <;> omega) | grind) (by clear hQ9; first | with_reducible assumption | (simp only [xl, xt, xe, xa, xb, xm, xg, ne_eq, Int32.reduceToInt] at * <;> omega) | grind) (by clear hQ9; first | with_reducible assumption | (simp only [xl, xt, xe, xa, xb, xm, xg, ne_eq, Int32.reduceToInt] at * <;> omega) | grind) (by clear hQ9; first | with_reducible assumption | (simp only [xl, xt, xe, xa, xb, xm, xg, ne_eq, Int32.reduceToInt] at * <;> omega) | grind) (by clear hQ9; first | with_reducible assumption | (simp only [xl, xt, xe, xa, xb, xm, xg, ne_eq, Int32.reduceToInt] at * <;> omega) | grind) (by clear hQ9; first | with_reducible assumption | (simp only [xl, xt, xe, xa, xb, xm, xg, ne_eq, Int32.reduceToInt] at * <;> omega) | grind) rfl
    refine ok_gq N9 hn9 (by clear hQ9; first | with_reducible assumption | (simp only [xl, xt, xe, xa, xb, xm, xg, ne_eq, Int32.reduceToInt] at * <;> omega) | grind) (by clear hQ9; first | with_reducible assumption | (simp only [xl, xt, xe, xa, xb, xm, xg, ne_eq, Int32.reduceToInt] at * <;> omega) | grind) ?_
    have q_12 : R (upd pg_dark (((p1 * pg_width) + p0)).toNatClampNeg (vp_nar .boolean r_2)) (0 : Int32) (1 : Int32) := R_updB (by assumption) _ _
    exact ok_some (hQ9 _ (by assumption))

set_option maxHeartbeats 4000000 in
set_option maxRecDepth 20000 in
theorem s_Page_lay {pg_width : Int32} {pg_height : Int32} {la_symbolOf : (Nat → Int32)} {di_samples : (Nat → Int64)} {la_differs : (Nat → Int64)} {di_heights : (Nat → Int32)} {di_widths : (Nat → Int32)} {la_xs : (Nat → Int32)} {la_ys : (Nat → Int32)} {la_ways : (Nat → Int32)} {n_pg_dark : Nat} {pg_dark : (Nat → Int32)} {p1 : Int32} {N9 : Int32} (hn9 : (n_pg_dark : Int) = N9.toInt) (hN9 : 0 ≤ N9 ∧ N9 ≤ 576) (hwh : N9 = pg_width * pg_height) (q_1 : ((1 : Int32) ≤ pg_width ∧ pg_width ≤ (24 : Int32))) (q_2 : ((1 : Int32) ≤ pg_height ∧ pg_height ≤ (24 : Int32))) (q_3 : R la_symbolOf (0 : Int32) (15 : Int32)) (q_4 : R di_heights (0 : Int32) (8 : Int32)) (q_5 : R di_widths (0 : Int32) (8 : Int32)) (q_6 : R la_xs (-8 : Int32) (31 : Int32)) (q_7 : R la_ys (-8 : Int32) (31 : Int32)) (q_8 : R la_ways (0 : Int32) (7 : Int32)) (q_9 : R pg_dark (0 : Int32) (1 : Int32)) (q_10 : ((0 : Int32) ≤ p1 ∧ p1 ≤ (39 : Int32))) : ok (f_Page_lay pg_width pg_height la_symbolOf di_samples la_differs di_heights di_widths la_xs la_ys la_ways n_pg_dark pg_dark p1) (fun o => R o (0 : Int32) (1 : Int32)) := by
  refine ok_Q (fun Q9 hQ9 => ?_)
  unfold f_Page_lay
  refine ok_gq (40 : Int32) (by decide) (by clear hQ9; first | with_reducible assumption | (simp only [xl, xt, xe, xa, xb, xm, xg, ne_eq, Int32.reduceToInt] at * <;> omega) | grind) (by clear hQ9; first | with_reducible assumption | (simp only [xl, xt, xe, xa, xb, xm, xg, ne_eq, Int32.reduceToInt] at * <;> omega) | grind) ?_
  have q_11 := (by assumption : R la_symbolOf (0 : Int32) (15 : Int32)) (p1).toNatClampNeg
  refine ok_nl (fun v4_1 e_v4_1 => ?_)
  refine ok_gq (16 : Int32) (by decide) (by clear hQ9; first | with_reducible assumption | (simp only [xl, xt, xe, xa, xb, xm, xg, ne_eq, Int32.reduceToInt] at * <;> omega) | grind) (by clear hQ9; first | with_reducible assumption | (simp only [xl, xt, xe, xa, xb, xm, xg, ne_eq, Int32.reduceToInt] at * <;> omega) | grind) ?_
  refine ok_gq (40 : Int32) (by decide) (by clear hQ9; first | with_reducible assumption | (simp only [xl, xt, xe, xa, xb, xm, xg, ne_eq, Int32.reduceToInt] at * <;> omega) | grind) (by clear hQ9; first | with_reducible assumption | (simp only [xl, xt, xe, xa, xb, xm, xg, ne_eq, Int32.reduceToInt] at * <;> omega) | grind) ?_
  refine ok_nl (fun v5_2 e_v5_2 => ?_)
  refine ok_lp (fun s9 => ((0 : Int32) ≤ s9.1 ∧ s9.1 ≤ (8 : Int32)) ∧ R s9.2 (0 : Int32) (1 : Int32)) (fun s9 => 8 - s9.1) ⟨by clear hQ9; first | with_reducible assumption | (simp only [xl, xt, xe, xa, xb, xm, xg, ne_eq, Int32.reduceToInt] at * <;> omega) | grind, by assumption⟩ ?_ ?_
  · intro s9 hs9; obtain ⟨v7_3, pg_dark_4⟩ := s9; try dsimp only at hs9; obtain ⟨q_12, q_13⟩ := hs9; exact ⟨by clear hQ9; (try dsimp only); first | with_reducible assumption | (simp only [xl, xt, xe, xa, xb, xm, xg, ne_eq, Int32.reduceToInt] at * <;> omega) | grind, by clear hQ9; (try dsimp only); first | with_reducible assumption | (simp only [xl, xt, xe, xa, xb, xm, xg, ne_eq, Int32.reduceToInt] at * <;> omega) | grind⟩
  intro self32 s9 hs9 ih_self32
  obtain ⟨v7_3, pg_dark_4⟩ := s9; try dsimp only at hs9; obtain ⟨q_12, q_13⟩ := hs9
  unfold f_Page_lay_L32
  try dsimp only
  try rw [ofn hn9]
  try dsimp only at ih_self32
  refine ok_gq (16 : Int32) (by decide) (by clear hQ9 ih_self32; first | with_reducible assumption | (simp only [xl, xt, xe, xa, xb, xm, xg, ne_eq, Int32.reduceToInt] at * <;> omega) | grind) (by clear hQ9 ih_self32; first | with_reducible assumption | (simp only [xl, xt, xe, xa, xb, xm, xg, ne_eq, Int32.reduceToInt] at * <;> omega) | grind) ?_
  have q_14 := (by assumption : R di_heights (0 : Int32) (8 : Int32)) (v4_1).toNatClampNeg
  refine ok_if (fun q_15 => ?_) (fun q_15 => ?_)
  · skip
    exact ok_some (hQ9 _ (by assumption))
  · skip
    refine ok_ex (fun k9 => lp (f_Page_lay_L47 v4_1 di_widths v7_3 v5_2 p1 pg_width pg_height n_pg_dark la_xs la_ys la_ways k9) FU ((0 : Int32), pg_dark_4)) (fun j9 => ∀ (pg_dark_7 : (Nat → Int32)), R pg_dark_7 (0 : Int32) (1 : Int32) → ok (j9 pg_dark_7) Q9) ?_ (fun k112 h_k112 => ?_)
    · intro pg_dark_7 q_16
      refine ok_nl (fun v7_12 e_v7_12 => ?_)
      exact ih_self32 (v7_12, pg_dark_7) ⟨by clear hQ9 ih_self32; first | with_reducible assumption | (simp only [xl, xt, xe, xa, xb, xm, xg, ne_eq, Int32.reduceToInt] at * <;> omega) | grind, by assumption⟩ (by clear hQ9 ih_self32; (try dsimp only); first | with_reducible assumption | (simp only [xl, xt, xe, xa, xb, xm, xg, ne_eq, Int32.reduceToInt] at * <;> omega) | grind)
    refine ok_lp (fun s9 => ((0 : Int32) ≤ s9.1 ∧ s9.1 ≤ (8 : Int32)) ∧ R s9.2 (0 : Int32) (1 : Int32)) (fun s9 => 8 - s9.1) ⟨by clear hQ9 ih_self32 h_k112; first | with_reducible assumption | (simp only [xl, xt, xe, xa, xb, xm, xg, ne_eq, Int32.reduceToInt] at * <;> omega) | grind, by assumption⟩ ?_ ?_
    · intro s9 hs9; obtain ⟨v8_5, pg_dark_6⟩ := s9; try dsimp only at hs9; obtain ⟨q_17, q_18⟩ := hs9; exact ⟨by clear hQ9 ih_self32 h_k112; (try dsimp only); first | with_reducible assumption | (simp only [xl, xt, xe, xa, xb, xm, xg, ne_eq, Int32.reduceToInt] at * <;> omega) | grind, by clear hQ9 ih_self32 h_k112; (try dsimp only); first | with_reducible assumption | (simp only [xl, xt, xe, xa, xb, xm, xg, ne_eq, Int32.reduceToInt] at * <;> omega) | grind⟩
    intro self47 s9 hs9 ih_self47
    obtain ⟨v8_5, pg_dark_6⟩ := s9; try dsimp only at hs9; obtain ⟨q_17, q_18⟩ := hs9
    unfold f_Page_lay_L47
    try dsimp only
    try rw [ofn hn9]
    try dsimp only at ih_self47
    refine ok_gq (16 : Int32) (by decide) (by clear hQ9 ih_self32 h_k112 ih_self47; first | with_reducible assumption | (simp only [xl, xt, xe, xa, xb, xm, xg, ne_eq, Int32.reduceToInt] at * <;> omega) | grind) (by clear hQ9 ih_self32 h_k112 ih_self47; first | with_reducible assumption | (simp only [xl, xt, xe, xa, xb, xm, xg, ne_eq, Int32.reduceToInt] at * <;> omega) | grind) ?_
    have q_19 := (by assumption : R di_widths (0 : Int32) (8 : Int32)) (v4_1).toNatClampNeg
    refine ok_if (fun q_20 => ?_) (fun q_20 => ?_)
    · skip
      exact h_k112 _ (by assumption)
    · skip
      refine ok_bd (s_Dictionary_sampleNumber (by assumption) (by clear hQ9 ih_self32 h_k112 ih_self47; first | with_reducible assumption | (simp only [xl, xt, xe, xa, xb, xm, xg, ne_eq, Int32.reduceToInt] at * <;> omega) | grind)) (fun o9 h9 => ?_)
      obtain ⟨r_8, rfl⟩ : ∃ z9, z9 = o9 := ⟨_, rfl⟩
      refine ok_bd (s_Top_hasBit) (fun o9 h9 => ?_)
      obtain ⟨r_9, rfl⟩ : ∃ z9, z9 = o9 := ⟨_, rfl⟩
      have q_21 := h9
      clear h9
      refine ok_gq (40 : Int32) (by decide) (by clear hQ9 ih_self32 h_k112 ih_self47; first | with_reducible assumption | (simp only [xl, xt, xe, xa, xb, xm, xg, ne_eq, Int32.reduceToInt] at * <;> omega) | grind) (by clear hQ9 ih_self32 h_k112 ih_self47; first | with_reducible assumption | (simp only [xl, xt, xe, xa, xb, xm, xg, ne_eq, Int32.reduceToInt] at * <;> omega) | grind) ?_
      have q_22 := (by assumption : R la_xs (-8 : Int32) (31 : Int32)) (p1).toNatClampNeg
      refine ok_gq (40 : Int32) (by decide) (by clear hQ9 ih_self32 h_k112 ih_self47; first | with_reducible assumption | (simp only [xl, xt, xe, xa, xb, xm, xg, ne_eq, Int32.reduceToInt] at * <;> omega) | grind) (by clear hQ9 ih_self32 h_k112 ih_self47; first | with_reducible assumption | (simp only [xl, xt, xe, xa, xb, xm, xg, ne_eq, Int32.reduceToInt] at * <;> omega) | grind) ?_
      have q_23 := (by assumption : R la_ys (-8 : Int32) (31 : Int32)) (p1).toNatClampNeg
      refine ok_gq (4 : Int32) (by decide) (by clear hQ9 ih_self32 h_k112 ih_self47; first | with_reducible assumption | (simp only [xl, xt, xe, xa, xb, xm, xg, ne_eq, Int32.reduceToInt] at * <;> omega) | grind) (by clear hQ9 ih_self32 h_k112 ih_self47; first | with_reducible assumption | (simp only [xl, xt, xe, xa, xb, xm, xg, ne_eq, Int32.reduceToInt] at * <;> omega) | grind) ?_
      have q_24 := (by assumption : R la_ways (0 : Int32) (7 : Int32)) ((3 : Int32)).toNatClampNeg
      refine ok_bd (s_Page_laySample hn9 hN9 hwh (by clear hQ9 ih_self32 h_k112 ih_self47; first | with_reducible assumption | (simp only [xl, xt, xe, xa, xb, xm, xg, ne_eq, Int32.reduceToInt] at * <;> omega) | grind) (by clear hQ9 ih_self32 h_k112 ih_self47; first | with_reducible assumption | (simp only [xl, xt, xe, xa, xb, xm, xg, ne_eq, Int32.reduceToInt] at * <;> omega) | grind) (by assumption) (by clear hQ9 ih_self32 h_k112 ih_self47; first | with_reducible assumption | (simp only [xl, xt, xe, xa, xb, xm, xg, ne_eq, Int32.reduceToInt] at * <;> omega) | grind)) (fun o9 h9 => ?_)
      obtain ⟨pg_dark_10, rfl⟩ : ∃ z9, z9 = o9 := ⟨_, rfl⟩
      have q_25 := h9
      clear h9
      refine ok_nl (fun v8_11 e_v8_11 => ?_)
      exact ih_self47 (v8_11, pg_dark_10) ⟨by clear hQ9 ih_self32 h_k112 ih_self47; first | with_reducible assumption | (simp only [xl, xt, xe, xa, xb, xm, xg, ne_eq, Int32.reduceToInt] at * <;> omega) | grind, by assumption⟩ (by clear hQ9 ih_self32 h_k112 ih_self47; (try dsimp only); first | with_reducible assumption | (simp only [xl, xt, xe, xa, xb, xm, xg, ne_eq, Int32.reduceToInt] at * <;> omega) | grind)

set_option maxHeartbeats 4000000 in
set_option maxRecDepth 20000 in
theorem s_ByteRow_append {br_count : Int32} {br_bytes : (Nat → Int32)} {p0 : Int32} (q_1 : ((0 : Int32) ≤ br_count ∧ br_count ≤ (2000 : Int32))) : ok (f_ByteRow_append br_count br_bytes p0) (fun o => ((0 : Int32) ≤ o.1 ∧ o.1 ≤ (2000 : Int32))) := by
  refine ok_Q (fun Q9 hQ9 => ?_)
  unfold f_ByteRow_append
  refine ok_if (fun q_2 => ?_) (fun q_2 => ?_)
  · skip
    exact ok_some (hQ9 _ (by clear hQ9; first | with_reducible assumption | (simp only [xl, xt, xe, xa, xb, xm, xg, ne_eq, Int32.reduceToInt] at * <;> omega) | grind))
  · skip
    refine ok_gq (2000 : Int32) (by decide) (by clear hQ9; first | with_reducible assumption | (simp only [xl, xt, xe, xa, xb, xm, xg, ne_eq, Int32.reduceToInt] at * <;> omega) | grind) (by clear hQ9; first | with_reducible assumption | (simp only [xl, xt, xe, xa, xb, xm, xg, ne_eq, Int32.reduceToInt] at * <;> omega) | grind) ?_
    refine ok_nl (fun count_1 e_count_1 => ?_)
    have q_3 : ((0 : Int32) ≤ count_1 ∧ count_1 ≤ (2000 : Int32)) := by clear hQ9; first | with_reducible assumption | (simp only [xl, xt, xe, xa, xb, xm, xg, ne_eq, Int32.reduceToInt] at * <;> omega) | grind
    exact ok_some (hQ9 _ (by clear hQ9; first | with_reducible assumption | (simp only [xl, xt, xe, xa, xb, xm, xg, ne_eq, Int32.reduceToInt] at * <;> omega) | grind))

set_option maxHeartbeats 4000000 in
set_option maxRecDepth 20000 in
theorem s_BitWriter_start {tb_count : Int32} {p0 : Int32} (q_1 : ((0 : Int32) ≤ tb_count ∧ tb_count ≤ (2000 : Int32))) (q_2 : ((0 : Int32) ≤ p0 ∧ p0 ≤ (1 : Int32))) : ok (f_BitWriter_start tb_count p0) (fun o => ((0 : Int32) ≤ o.1 ∧ o.1 ≤ (1 : Int32)) ∧ ((0 : Int32) ≤ o.2.1 ∧ o.2.1 ≤ (1000000 : Int32)) ∧ ((0 : Int32) ≤ o.2.2 ∧ o.2.2 ≤ (2000 : Int32)) ∧ o.2.1 = 0 ∧ o.1 = p0) := by
  refine ok_Q (fun Q9 hQ9 => ?_)
  unfold f_BitWriter_start
  refine ok_bz (by clear hQ9; first | with_reducible assumption | (simp only [xl, xt, xe, xa, xb, xm, xg, ne_eq, Int32.reduceToInt] at * <;> omega) | grind) ?_
  have q_3 : ((0 : Int32) ≤ p0 ∧ p0 ≤ (1 : Int32)) := by clear hQ9; first | with_reducible assumption | (simp only [xl, xt, xe, xa, xb, xm, xg, ne_eq, Int32.reduceToInt] at * <;> omega) | grind
  have q_4 : ((0 : Int32) ≤ (0 : Int32) ∧ (0 : Int32) ≤ (1000000 : Int32)) := by clear hQ9; first | with_reducible assumption | (simp only [xl, xt, xe, xa, xb, xm, xg, ne_eq, Int32.reduceToInt] at * <;> omega) | grind
  refine ok_if (fun q_5 => ?_) (fun q_5 => ?_)
  · skip
    exact ok_some (hQ9 _ ⟨by clear hQ9; first | with_reducible assumption | (simp only [xl, xt, xe, xa, xb, xm, xg, ne_eq, Int32.reduceToInt] at * <;> omega) | grind, by clear hQ9; first | with_reducible assumption | (simp only [xl, xt, xe, xa, xb, xm, xg, ne_eq, Int32.reduceToInt] at * <;> omega) | grind, by clear hQ9; first | with_reducible assumption | (simp only [xl, xt, xe, xa, xb, xm, xg, ne_eq, Int32.reduceToInt] at * <;> omega) | grind, by clear hQ9; first | with_reducible assumption | (simp only [xl, xt, xe, xa, xb, xm, xg, ne_eq, Int32.reduceToInt] at * <;> omega) | grind, by clear hQ9; first | with_reducible assumption | (simp only [xl, xt, xe, xa, xb, xm, xg, ne_eq, Int32.reduceToInt] at * <;> omega) | grind⟩)
  · skip
    have q_6 : ((0 : Int32) ≤ (0 : Int32) ∧ (0 : Int32) ≤ (2000 : Int32)) := by clear hQ9; first | with_reducible assumption | (simp only [xl, xt, xe, xa, xb, xm, xg, ne_eq, Int32.reduceToInt] at * <;> omega) | grind
    exact ok_some (hQ9 _ ⟨by clear hQ9; first | with_reducible assumption | (simp only [xl, xt, xe, xa, xb, xm, xg, ne_eq, Int32.reduceToInt] at * <;> omega) | grind, by clear hQ9; first | with_reducible assumption | (simp only [xl, xt, xe, xa, xb, xm, xg, ne_eq, Int32.reduceToInt] at * <;> omega) | grind, by clear hQ9; first | with_reducible assumption | (simp only [xl, xt, xe, xa, xb, xm, xg, ne_eq, Int32.reduceToInt] at * <;> omega) | grind, by clear hQ9; first | with_reducible assumption | (simp only [xl, xt, xe, xa, xb, xm, xg, ne_eq, Int32.reduceToInt] at * <;> omega) | grind, by clear hQ9; first | with_reducible assumption | (simp only [xl, xt, xe, xa, xb, xm, xg, ne_eq, Int32.reduceToInt] at * <;> omega) | grind⟩)

set_option maxHeartbeats 4000000 in
set_option maxRecDepth 20000 in
theorem s_BitWriter_tellBits {wr_keeping : Int32} {wr_count : Int32} {tb_count : Int32} {tb_bytes : (Nat → Int32)} {p0 : Int32} {p1 : Int32} (q_1 : ((0 : Int32) ≤ wr_keeping ∧ wr_keeping ≤ (1 : Int32))) (q_2 : ((0 : Int32) ≤ wr_count ∧ wr_count ≤ (1000000 : Int32))) (q_3 : ((0 : Int32) ≤ tb_count ∧ tb_count ≤ (2000 : Int32))) (q_4 : ((0 : Int32) ≤ p1 ∧ p1 ≤ (31 : Int32))) (q_5 : wr_count ≤ (900000 : Int32)) : ok (f_BitWriter_tellBits wr_keeping wr_count tb_count tb_bytes p0 p1) (fun o => ((0 : Int32) ≤ o.1 ∧ o.1 ≤ (1000000 : Int32)) ∧ ((0 : Int32) ≤ o.2.1 ∧ o.2.1 ≤ (2000 : Int32)) ∧ o.1 ≤ wr_count + p1) := by
  refine ok_Q (fun Q9 hQ9 => ?_)
  unfold f_BitWriter_tellBits
  refine ok_if (fun q_6 => ?_) (fun q_6 => ?_)
  · skip
    refine ok_nl (fun count_14 e_count_14 => ?_)
    have q_7 : ((0 : Int32) ≤ count_14 ∧ count_14 ≤ (1000000 : Int32)) := by clear hQ9; first | with_reducible assumption | (simp only [xl, xt, xe, xa, xb, xm, xg, ne_eq, Int32.reduceToInt] at * <;> omega) | grind
    exact ok_some (hQ9 _ ⟨by clear hQ9; first | with_reducible assumption | (simp only [xl, xt, xe, xa, xb, xm, xg, ne_eq, Int32.reduceToInt] at * <;> omega) | grind, by clear hQ9; first | with_reducible assumption | (simp only [xl, xt, xe, xa, xb, xm, xg, ne_eq, Int32.reduceToInt] at * <;> omega) | grind, by clear hQ9; first | with_reducible assumption | (simp only [xl, xt, xe, xa, xb, xm, xg, ne_eq, Int32.reduceToInt] at * <;> omega) | grind⟩)
  · skip
    refine ok_nl (fun v3_1 e_v3_1 => ?_)
    refine ok_lp (fun s9 => ((-1 : Int32) ≤ s9.1 ∧ s9.1 ≤ (30 : Int32)) ∧ ((0 : Int32) ≤ s9.2.1 ∧ s9.2.1 ≤ (1000000 : Int32)) ∧ ((0 : Int32) ≤ s9.2.2.1 ∧ s9.2.2.1 ≤ (2000 : Int32)) ∧ s9.2.1 + s9.1 + 1 ≤ wr_count + p1) (fun s9 => s9.1 + 1) ⟨by clear hQ9; first | with_reducible assumption | (simp only [xl, xt, xe, xa, xb, xm, xg, ne_eq, Int32.reduceToInt] at * <;> omega) | grind, by clear hQ9; first | with_reducible assumption | (simp only [xl, xt, xe, xa, xb, xm, xg, ne_eq, Int32.reduceToInt] at * <;> omega) | grind, by clear hQ9; first | with_reducible assumption | (simp only [xl, xt, xe, xa, xb, xm, xg, ne_eq, Int32.reduceToInt] at * <;> omega) | grind, by clear hQ9; first | with_reducible assumption | (simp only [xl, xt, xe, xa, xb, xm, xg, ne_eq, Int32.reduceToInt] at * <;> omega) | grind⟩ ?_ ?_
    · intro s9 hs9; obtain ⟨v3_2, wr_count_3, tb_count_4, tb_bytes_5⟩ := s9; try dsimp only at hs9; obtain ⟨q_8, q_9, q_10, q_11⟩ := hs9; exact ⟨by clear hQ9; (try dsimp only); first | with_reducible assumption | (simp only [xl, xt, xe, xa, xb, xm, xg, ne_eq, Int32.reduceToInt] at * <;> omega) | grind, by clear hQ9; (try dsimp only); first | with_reducible assumption | (simp only [xl, xt, xe, xa, xb, xm, xg, ne_eq, Int32.reduceToInt] at * <;> omega) | grind⟩
    intro self22 s9 hs9 ih_self22
    obtain ⟨v3_2, wr_count_3, tb_count_4, tb_bytes_5⟩ := s9; try dsimp only at hs9; obtain ⟨q_8, q_9, q_10, q_11⟩ := hs9
    unfold f_BitWriter_tellBits_L22
    try dsimp only
    try dsimp only at ih_self22
    refine ok_if (fun q_12 => ?_) (fun q_12 => ?_)
    · skip
      exact ok_some (hQ9 _ ⟨by clear hQ9 ih_self22; first | with_reducible assumption | (simp only [xl, xt, xe, xa, xb, xm, xg, ne_eq, Int32.reduceToInt] at * <;> omega) | grind, by clear hQ9 ih_self22; first | with_reducible assumption | (simp only [xl, xt, xe, xa, xb, xm, xg, ne_eq, Int32.reduceToInt] at * <;> omega) | grind, by clear hQ9 ih_self22; first | with_reducible assumption | (simp only [xl, xt, xe, xa, xb, xm, xg, ne_eq, Int32.reduceToInt] at * <;> omega) | grind⟩)
    · skip
      have q_13 := dv (a := wr_count_3) (8 : Int32) (by clear hQ9 ih_self22; first | with_reducible assumption | (simp only [xl, xt, xe, xa, xb, xm, xg, ne_eq, Int32.reduceToInt] at * <;> omega) | grind) (by decide)
      refine ok_jn (fun j9 => ∀ (tb_count_6 : Int32) (tb_bytes_7 : (Nat → Int32)), ((0 : Int32) ≤ tb_count_6 ∧ tb_count_6 ≤ (2000 : Int32)) → ok (j9 tb_count_6 tb_bytes_7) Q9) ?_ (fun j44 h_j44 => ?_)
      · intro tb_count_6 tb_bytes_7 q_14
        have q_15 := dv (a := wr_count_3) (8 : Int32) (by clear hQ9 ih_self22; first | with_reducible assumption | (simp only [xl, xt, xe, xa, xb, xm, xg, ne_eq, Int32.reduceToInt] at * <;> omega) | grind) (by decide)
        refine ok_jn (fun j9 => ∀ (tb_bytes_8 : (Nat → Int32)), ok (j9 tb_bytes_8) Q9) ?_ (fun j95 h_j95 => ?_)
        · intro tb_bytes_8
          refine ok_nl (fun count_9 e_count_9 => ?_)
          have q_16 : ((0 : Int32) ≤ count_9 ∧ count_9 ≤ (1000000 : Int32)) := by clear hQ9 ih_self22; first | with_reducible assumption | (simp only [xl, xt, xe, xa, xb, xm, xg, ne_eq, Int32.reduceToInt] at * <;> omega) | grind
          refine ok_nl (fun v3_10 e_v3_10 => ?_)
          exact ih_self22 (v3_10, count_9, tb_count_6, tb_bytes_8) ⟨by clear hQ9 ih_self22; first | with_reducible assumption | (simp only [xl, xt, xe, xa, xb, xm, xg, ne_eq, Int32.reduceToInt] at * <;> omega) | grind, by clear hQ9 ih_self22; first | with_reducible assumption | (simp only [xl, xt, xe, xa, xb, xm, xg, ne_eq, Int32.reduceToInt] at * <;> omega) | grind, by clear hQ9 ih_self22; first | with_reducible assumption | (simp only [xl, xt, xe, xa, xb, xm, xg, ne_eq, Int32.reduceToInt] at * <;> omega) | grind, by clear hQ9 ih_self22; first | with_reducible assumption | (simp only [xl, xt, xe, xa, xb, xm, xg, ne_eq, Int32.reduceToInt] at * <;> omega) | grind⟩ (by clear hQ9 ih_self22; (try dsimp only); first | with_reducible assumption | (simp only [xl, xt, xe, xa, xb, xm, xg, ne_eq, Int32.reduceToInt] at * <;> omega) | grind)
        refine ok_if (fun q_17 => ?_) (fun q_17 => ?_)
        · skip
          exact h_j95 _
        · skip
          have q_18 := dv (a := wr_count_3) (8 : Int32) (by clear hQ9 ih_self22 h_j95; first | with_reducible assumption | (simp only [xl, xt, xe, xa, xb, xm, xg, ne_eq, Int32.reduceToInt] at * <;> omega) | grind) (by decide)
          refine ok_gq (2000 : Int32) (by decide) (by clear hQ9 ih_self22 h_j95; first | with_reducible assumption | (simp only [xl, xt, xe, xa, xb, xm, xg, ne_eq, Int32.reduceToInt] at * <;> omega) | grind) (by clear hQ9 ih_self22 h_j95; first | with_reducible assumption | (simp only [xl, xt, xe, xa, xb, xm, xg, ne_eq, Int32.reduceToInt] at * <;> omega) | grind) ?_
          have q_19 := dv (a := wr_count_3) (8 : Int32) (by clear hQ9 ih_self22 h_j95; first | with_reducible assumption | (simp only [xl, xt, xe, xa, xb, xm, xg, ne_eq, Int32.reduceToInt] at * <;> omega) | grind) (by decide)
          refine ok_nl (fun w_11 e_w_11 => ?_)
          refine ok_gq (2000 : Int32) (by decide) (by clear hQ9 ih_self22 h_j95; first | with_reducible assumption | (simp only [xl, xt, xe, xa, xb, xm, xg, ne_eq, Int32.reduceToInt] at * <;> omega) | grind) (by clear hQ9 ih_self22 h_j95; first | with_reducible assumption | (simp only [xl, xt, xe, xa, xb, xm, xg, ne_eq, Int32.reduceToInt] at * <;> omega) | grind) ?_
          exact h_j95 _
      refine ok_if (fun q_20 => ?_) (fun q_20 => ?_)
      · skip
        refine ok_bd (s_ByteRow_append (by clear hQ9 ih_self22 h_j44; first | with_reducible assumption | (simp only [xl, xt, xe, xa, xb, xm, xg, ne_eq, Int32.reduceToInt] at * <;> omega) | grind)) (fun o9 h9 => ?_)
        obtain ⟨tb_count_12, tb_bytes_13⟩ := o9
        try dsimp only at h9
        try dsimp only
        have q_21 := h9
        clear h9
        exact h_j44 _ _ (by clear hQ9 ih_self22 h_j44; first | with_reducible assumption | (simp only [xl, xt, xe, xa, xb, xm, xg, ne_eq, Int32.reduceToInt] at * <;> omega) | grind)
      · skip
        exact h_j44 _ _ (by clear hQ9 ih_self22 h_j44; first | with_reducible assumption | (simp only [xl, xt, xe, xa, xb, xm, xg, ne_eq, Int32.reduceToInt] at * <;> omega) | grind)

set_option maxHeartbeats 4000000 in
set_option maxRecDepth 20000 in
theorem s_BitWriter_tellNumber {wr_keeping : Int32} {wr_count : Int32} {tb_count : Int32} {tb_bytes : (Nat → Int32)} {p0 : Int32} (q_1 : ((0 : Int32) ≤ wr_keeping ∧ wr_keeping ≤ (1 : Int32))) (q_2 : ((0 : Int32) ≤ wr_count ∧ wr_count ≤ (1000000 : Int32))) (q_3 : ((0 : Int32) ≤ tb_count ∧ tb_count ≤ (2000 : Int32))) (q_4 : wr_count ≤ (800000 : Int32)) : ok (f_BitWriter_tellNumber wr_keeping wr_count tb_count tb_bytes p0) (fun o => ((0 : Int32) ≤ o.1 ∧ o.1 ≤ (1000000 : Int32)) ∧ ((0 : Int32) ≤ o.2.1 ∧ o.2.1 ≤ (2000 : Int32)) ∧ o.1 ≤ wr_count + 25) := by
  refine ok_Q (fun Q9 hQ9 => ?_)
  unfold f_BitWriter_tellNumber
  refine ok_ex (fun k9 => lp (f_BitWriter_tellNumber_L2 p0 k9) FU (0 : Int32)) (fun j9 => ∀ (v2_2 : Int32), ((0 : Int32) ≤ v2_2 ∧ v2_2 ≤ (12 : Int32)) → ok (j9 v2_2) Q9) ?_ (fun k24 h_k24 => ?_)
  · intro v2_2 q_5
    refine ok_bd (s_BitWriter_tellBits (by clear hQ9; first | with_reducible assumption | (simp only [xl, xt, xe, xa, xb, xm, xg, ne_eq, Int32.reduceToInt] at * <;> omega) | grind) (by clear hQ9; first | with_reducible assumption | (simp only [xl, xt, xe, xa, xb, xm, xg, ne_eq, Int32.reduceToInt] at * <;> omega) | grind) (by clear hQ9; first | with_reducible assumption | (simp only [xl, xt, xe, xa, xb, xm, xg, ne_eq, Int32.reduceToInt] at * <;> omega) | grind) (by clear hQ9; first | with_reducible assumption | (simp only [xl, xt, xe, xa, xb, xm, xg, ne_eq, Int32.reduceToInt] at * <;> omega) | grind) (by clear hQ9; first | with_reducible assumption | (simp only [xl, xt, xe, xa, xb, xm, xg, ne_eq, Int32.reduceToInt] at * <;> omega) | grind)) (fun o9 h9 => ?_)
    obtain ⟨wr_count_4, tb_count_5, tb_bytes_6⟩ := o9
    try dsimp only at h9
    try dsimp only
    obtain ⟨q_6, q_7, q_8⟩ := h9
    exact ok_some (hQ9 _ ⟨by clear hQ9; first | with_reducible assumption | (simp only [xl, xt, xe, xa, xb, xm, xg, ne_eq, Int32.reduceToInt] at * <;> omega) | grind, by clear hQ9; first | with_reducible assumption | (simp only [xl, xt, xe, xa, xb, xm, xg, ne_eq, Int32.reduceToInt] at * <;> omega) | grind, by clear hQ9; first | with_reducible assumption | (simp only [xl, xt, xe, xa, xb, xm, xg, ne_eq, Int32.reduceToInt] at * <;> omega) | grind⟩)
  refine ok_lp (fun s9 => ((0 : Int32) ≤ s9 ∧ s9 ≤ (12 : Int32))) (fun s9 => 12 - s9) (by clear hQ9 h_k24; first | with_reducible assumption | (simp only [xl, xt, xe, xa, xb, xm, xg, ne_eq, Int32.reduceToInt] at * <;> omega) | grind) ?_ ?_
  · intro s9 hs9; obtain ⟨v2_1, rfl⟩ : ∃ z9, z9 = s9 := ⟨_, rfl⟩; have q_9 := hs9; exact ⟨by clear hQ9 h_k24; (try dsimp only); first | with_reducible assumption | (simp only [xl, xt, xe, xa, xb, xm, xg, ne_eq, Int32.reduceToInt] at * <;> omega) | grind, by clear hQ9 h_k24; (try dsimp only); first | with_reducible assumption | (simp only [xl, xt, xe, xa, xb, xm, xg, ne_eq, Int32.reduceToInt] at * <;> omega) | grind⟩
  intro self2 s9 hs9 ih_self2
  obtain ⟨v2_1, rfl⟩ : ∃ z9, z9 = s9 := ⟨_, rfl⟩; have q_9 := hs9
  unfold f_BitWriter_tellNumber_L2
  try dsimp only
  try dsimp only at ih_self2
  refine ok_if (fun q_10 => ?_) (fun q_10 => ?_)
  · skip
    exact h_k24 _ (by clear hQ9 h_k24 ih_self2; first | with_reducible assumption | (simp only [xl, xt, xe, xa, xb, xm, xg, ne_eq, Int32.reduceToInt] at * <;> omega) | grind)
  · skip
    refine ok_if (fun q_11 => ?_) (fun q_11 => ?_)
    · skip
      exact h_k24 _ (by clear hQ9 h_k24 ih_self2; first | with_reducible assumption | (simp only [xl, xt, xe, xa, xb, xm, xg, ne_eq, Int32.reduceToInt] at * <;> omega) | grind)
    · skip
      refine ok_nl (fun v2_3 e_v2_3 => ?_)
      exact ih_self2 v2_3 (by clear hQ9 h_k24 ih_self2; first | with_reducible assumption | (simp only [xl, xt, xe, xa, xb, xm, xg, ne_eq, Int32.reduceToInt] at * <;> omega) | grind) (by clear hQ9 h_k24 ih_self2; (try dsimp only); first | with_reducible assumption | (simp only [xl, xt, xe, xa, xb, xm, xg, ne_eq, Int32.reduceToInt] at * <;> omega) | grind)

set_option maxHeartbeats 4000000 in
set_option maxRecDepth 20000 in
theorem s_BitWriter_tellSigned {wr_keeping : Int32} {wr_count : Int32} {tb_count : Int32} {tb_bytes : (Nat → Int32)} {p0 : Int32} (q_1 : ((0 : Int32) ≤ wr_keeping ∧ wr_keeping ≤ (1 : Int32))) (q_2 : ((0 : Int32) ≤ wr_count ∧ wr_count ≤ (1000000 : Int32))) (q_3 : ((0 : Int32) ≤ tb_count ∧ tb_count ≤ (2000 : Int32))) (q_4 : wr_count ≤ (800000 : Int32)) : ok (f_BitWriter_tellSigned wr_keeping wr_count tb_count tb_bytes p0) (fun o => ((0 : Int32) ≤ o.1 ∧ o.1 ≤ (1000000 : Int32)) ∧ ((0 : Int32) ≤ o.2.1 ∧ o.2.1 ≤ (2000 : Int32)) ∧ o.1 ≤ wr_count + 25) := by
  refine ok_Q (fun Q9 hQ9 => ?_)
  unfold f_BitWriter_tellSigned
  refine ok_jn (fun j9 => ∀ (s_1 : Int32), ok (j9 s_1) Q9) ?_ (fun j17 h_j17 => ?_)
  · intro s_1
    refine ok_bd (s_BitWriter_tellNumber (by clear hQ9; first | with_reducible assumption | (simp only [xl, xt, xe, xa, xb, xm, xg, ne_eq, Int32.reduceToInt] at * <;> omega) | grind) (by clear hQ9; first | with_reducible assumption | (simp only [xl, xt, xe, xa, xb, xm, xg, ne_eq, Int32.reduceToInt] at * <;> omega) | grind) (by clear hQ9; first | with_reducible assumption | (simp only [xl, xt, xe, xa, xb, xm, xg, ne_eq, Int32.reduceToInt] at * <;> omega) | grind) (by clear hQ9; first | with_reducible assumption | (simp only [xl, xt, xe, xa, xb, xm, xg, ne_eq, Int32.reduceToInt] at * <;> omega) | grind)) (fun o9 h9 => ?_)
    obtain ⟨wr_count_2, tb_count_3, tb_bytes_4⟩ := o9
    try dsimp only at h9
    try dsimp only
    obtain ⟨q_5, q_6, q_7⟩ := h9
    exact ok_some (hQ9 _ ⟨by clear hQ9; first | with_reducible assumption | (simp only [xl, xt, xe, xa, xb, xm, xg, ne_eq, Int32.reduceToInt] at * <;> omega) | grind, by clear hQ9; first | with_reducible assumption | (simp only [xl, xt, xe, xa, xb, xm, xg, ne_eq, Int32.reduceToInt] at * <;> omega) | grind, by clear hQ9; first | with_reducible assumption | (simp only [xl, xt, xe, xa, xb, xm, xg, ne_eq, Int32.reduceToInt] at * <;> omega) | grind⟩)
  refine ok_if (fun q_8 => ?_) (fun q_8 => ?_)
  · skip
    exact h_j17 _
  · skip
    exact h_j17 _

set_option maxHeartbeats 4000000 in
set_option maxRecDepth 20000 in
theorem s_BitReader_start : ok (f_BitReader_start ) (fun o => ((0 : Int32) ≤ o.1 ∧ o.1 ≤ (16000 : Int32)) ∧ ((0 : Int32) ≤ o.2 ∧ o.2 ≤ (9 : Int32)) ∧ o.2 = 0) := by
  refine ok_Q (fun Q9 hQ9 => ?_)
  unfold f_BitReader_start
  have q_1 : ((0 : Int32) ≤ (0 : Int32) ∧ (0 : Int32) ≤ (16000 : Int32)) := by clear hQ9; first | with_reducible assumption | (simp only [xl, xt, xe, xa, xb, xm, xg, ne_eq, Int32.reduceToInt] at * <;> omega) | grind
  have q_2 : ((0 : Int32) ≤ (0 : Int32) ∧ (0 : Int32) ≤ (9 : Int32)) := by clear hQ9; first | with_reducible assumption | (simp only [xl, xt, xe, xa, xb, xm, xg, ne_eq, Int32.reduceToInt] at * <;> omega) | grind
  exact ok_some (hQ9 _ ⟨by clear hQ9; first | with_reducible assumption | (simp only [xl, xt, xe, xa, xb, xm, xg, ne_eq, Int32.reduceToInt] at * <;> omega) | grind, by clear hQ9; first | with_reducible assumption | (simp only [xl, xt, xe, xa, xb, xm, xg, ne_eq, Int32.reduceToInt] at * <;> omega) | grind, by clear hQ9; first | with_reducible assumption | (simp only [xl, xt, xe, xa, xb, xm, xg, ne_eq, Int32.reduceToInt] at * <;> omega) | grind⟩)

set_option maxHeartbeats 4000000 in
set_option maxRecDepth 20000 in
theorem s_BitReader_refuse {rd_refusal : Int32} {p0 : Int32} (q_1 : ((0 : Int32) ≤ rd_refusal ∧ rd_refusal ≤ (9 : Int32))) (q_2 : ((1 : Int32) ≤ p0 ∧ p0 ≤ (9 : Int32))) : ok (f_BitReader_refuse rd_refusal p0) (fun o => ((0 : Int32) ≤ o ∧ o ≤ (9 : Int32)) ∧ ¬ o = 0) := by
  refine ok_Q (fun Q9 hQ9 => ?_)
  unfold f_BitReader_refuse
  refine ok_if (fun q_3 => ?_) (fun q_3 => ?_)
  · skip
    have q_4 : ((0 : Int32) ≤ p0 ∧ p0 ≤ (9 : Int32)) := by clear hQ9; first | with_reducible assumption | (simp only [xl, xt, xe, xa, xb, xm, xg, ne_eq, Int32.reduceToInt] at * <;> omega) | grind
    exact ok_some (hQ9 _ ⟨by clear hQ9; first | with_reducible assumption | (simp only [xl, xt, xe, xa, xb, xm, xg, ne_eq, Int32.reduceToInt] at * <;> omega) | grind, by clear hQ9; first | with_reducible assumption | (simp only [xl, xt, xe, xa, xb, xm, xg, ne_eq, Int32.reduceToInt] at * <;> omega) | grind⟩)
  · skip
    exact ok_some (hQ9 _ ⟨by clear hQ9; first | with_reducible assumption | (simp only [xl, xt, xe, xa, xb, xm, xg, ne_eq, Int32.reduceToInt] at * <;> omega) | grind, by clear hQ9; first | with_reducible assumption | (simp only [xl, xt, xe, xa, xb, xm, xg, ne_eq, Int32.reduceToInt] at * <;> omega) | grind⟩)

set_option maxHeartbeats 4000000 in
set_option maxRecDepth 20000 in
theorem s_BitReader_isRefused {rd_refusal : Int32} (q_1 : ((0 : Int32) ≤ rd_refusal ∧ rd_refusal ≤ (9 : Int32))) : ok (f_BitReader_isRefused rd_refusal) (fun o => ((0 : Int32) ≤ o ∧ o ≤ (1 : Int32)) ∧ (o = 0 → rd_refusal = 0)) := by
  refine ok_Q (fun Q9 hQ9 => ?_)
  unfold f_BitReader_isRefused
  refine ok_if (fun q_2 => ?_) (fun q_2 => ?_)
  · skip
    exact ok_some (hQ9 _ ⟨by clear hQ9; first | with_reducible assumption | (simp only [xl, xt, xe, xa, xb, xm, xg, ne_eq, Int32.reduceToInt] at * <;> omega) | grind, by clear hQ9; first | with_reducible assumption | (simp only [xl, xt, xe, xa, xb, xm, xg, ne_eq, Int32.reduceToInt] at * <;> omega) | grind⟩)
  · skip
    exact ok_some (hQ9 _ ⟨by clear hQ9; first | with_reducible assumption | (simp only [xl, xt, xe, xa, xb, xm, xg, ne_eq, Int32.reduceToInt] at * <;> omega) | grind, by clear hQ9; first | with_reducible assumption | (simp only [xl, xt, xe, xa, xb, xm, xg, ne_eq, Int32.reduceToInt] at * <;> omega) | grind⟩)

set_option maxHeartbeats 4000000 in
set_option maxRecDepth 20000 in
theorem s_BitReader_nextBit {rd_place : Int32} {rd_refusal : Int32} {cb_count : Int32} {cb_bytes : (Nat → Int32)} (q_1 : ((0 : Int32) ≤ rd_place ∧ rd_place ≤ (16000 : Int32))) (q_2 : ((0 : Int32) ≤ rd_refusal ∧ rd_refusal ≤ (9 : Int32))) (q_3 : ((0 : Int32) ≤ cb_count ∧ cb_count ≤ (2000 : Int32))) : ok (f_BitReader_nextBit rd_place rd_refusal cb_count cb_bytes) (fun o => ((0 : Int32) ≤ o.1 ∧ o.1 ≤ (1 : Int32)) ∧ ((0 : Int32) ≤ o.2.1 ∧ o.2.1 ≤ (16000 : Int32)) ∧ ((0 : Int32) ≤ o.2.2 ∧ o.2.2 ≤ (9 : Int32)) ∧ (o.2.2 = 0 → rd_refusal = 0)) := by
  refine ok_Q (fun Q9 hQ9 => ?_)
  unfold f_BitReader_nextBit
  refine ok_if (fun q_4 => ?_) (fun q_4 => ?_)
  · skip
    have q_5 := dv (a := rd_place) (8 : Int32) (by clear hQ9; first | with_reducible assumption | (simp only [xl, xt, xe, xa, xb, xm, xg, ne_eq, Int32.reduceToInt] at * <;> omega) | grind) (by decide)
    refine ok_if (fun q_6 => ?_) (fun q_6 => ?_)
    · skip
      have q_7 := dv (a := rd_place) (8 : Int32) (by clear hQ9; first | with_reducible assumption | (simp only [xl, xt, xe, xa, xb, xm, xg, ne_eq, Int32.reduceToInt] at * <;> omega) | grind) (by decide)
      refine ok_gq (2000 : Int32) (by decide) (by clear hQ9; first | with_reducible assumption | (simp only [xl, xt, xe, xa, xb, xm, xg, ne_eq, Int32.reduceToInt] at * <;> omega) | grind) (by clear hQ9; first | with_reducible assumption | (simp only [xl, xt, xe, xa, xb, xm, xg, ne_eq, Int32.reduceToInt] at * <;> omega) | grind) ?_
      have q_8 := dv (a := rd_place) (8 : Int32) (by clear hQ9; first | with_reducible assumption | (simp only [xl, xt, xe, xa, xb, xm, xg, ne_eq, Int32.reduceToInt] at * <;> omega) | grind) (by decide)
      have q_9 := and1 ((cb_bytes ((rd_place / (8 : Int32))).toNatClampNeg) >>> (((7 : Int32) - (rd_place - rd_place / (8 : Int32) * (8 : Int32))) &&& 31))
      refine ok_nl (fun v1_1 e_v1_1 => ?_)
      refine ok_nl (fun place_2 e_place_2 => ?_)
      have q_10 : ((0 : Int32) ≤ place_2 ∧ place_2 ≤ (16000 : Int32)) := by clear hQ9; first | with_reducible assumption | (simp only [xl, xt, xe, xa, xb, xm, xg, ne_eq, Int32.reduceToInt] at * <;> omega) | grind
      exact ok_some (hQ9 _ ⟨by clear hQ9; first | with_reducible assumption | (simp only [xl, xt, xe, xa, xb, xm, xg, ne_eq, Int32.reduceToInt] at * <;> omega) | grind, by clear hQ9; first | with_reducible assumption | (simp only [xl, xt, xe, xa, xb, xm, xg, ne_eq, Int32.reduceToInt] at * <;> omega) | grind, by clear hQ9; first | with_reducible assumption | (simp only [xl, xt, xe, xa, xb, xm, xg, ne_eq, Int32.reduceToInt] at * <;> omega) | grind, by clear hQ9; first | with_reducible assumption | (simp only [xl, xt, xe, xa, xb, xm, xg, ne_eq, Int32.reduceToInt] at * <;> omega) | grind⟩)
    · skip
      have q_11 : ((0 : Int32) ≤ (1 : Int32) ∧ (1 : Int32) ≤ (9 : Int32)) := by clear hQ9; first | with_reducible assumption | (simp only [xl, xt, xe, xa, xb, xm, xg, ne_eq, Int32.reduceToInt] at * <;> omega) | grind
      exact ok_some (hQ9 _ ⟨by clear hQ9; first | with_reducible assumption | (simp only [xl, xt, xe, xa, xb, xm, xg, ne_eq, Int32.reduceToInt] at * <;> omega) | grind, by clear hQ9; first | with_reducible assumption | (simp only [xl, xt, xe, xa, xb, xm, xg, ne_eq, Int32.reduceToInt] at * <;> omega) | grind, by clear hQ9; first | with_reducible assumption | (simp only [xl, xt, xe, xa, xb, xm, xg, ne_eq, Int32.reduceToInt] at * <;> omega) | grind, by clear hQ9; first | with_reducible assumption | (simp only [xl, xt, xe, xa, xb, xm, xg, ne_eq, Int32.reduceToInt] at * <;> omega) | grind⟩)
  · skip
    exact ok_some (hQ9 _ ⟨by clear hQ9; first | with_reducible assumption | (simp only [xl, xt, xe, xa, xb, xm, xg, ne_eq, Int32.reduceToInt] at * <;> omega) | grind, by clear hQ9; first | with_reducible assumption | (simp only [xl, xt, xe, xa, xb, xm, xg, ne_eq, Int32.reduceToInt] at * <;> omega) | grind, by clear hQ9; first | with_reducible assumption | (simp only [xl, xt, xe, xa, xb, xm, xg, ne_eq, Int32.reduceToInt] at * <;> omega) | grind, by clear hQ9; first | with_reducible assumption | (simp only [xl, xt, xe, xa, xb, xm, xg, ne_eq, Int32.reduceToInt] at * <;> omega) | grind⟩)

set_option maxHeartbeats 4000000 in
set_option maxRecDepth 20000 in
theorem s_BitReader_nextBits {rd_place : Int32} {rd_refusal : Int32} {cb_count : Int32} {cb_bytes : (Nat → Int32)} {p0 : Int32} (q_1 : ((0 : Int32) ≤ rd_place ∧ rd_place ≤ (16000 : Int32))) (q_2 : ((0 : Int32) ≤ rd_refusal ∧ rd_refusal ≤ (9 : Int32))) (q_3 : ((0 : Int32) ≤ cb_count ∧ cb_count ≤ (2000 : Int32))) (q_4 : ((0 : Int32) ≤ p0 ∧ p0 ≤ (7 : Int32))) : ok (f_BitReader_nextBits rd_place rd_refusal cb_count cb_bytes p0) (fun o => ((0 : Int32) ≤ o.2.1 ∧ o.2.1 ≤ (16000 : Int32)) ∧ ((0 : Int32) ≤ o.2.2 ∧ o.2.2 ≤ (9 : Int32)) ∧ (0 : Int32) ≤ o.1 ∧ o.1 ≤ pw p0 - 1 ∧ (o.2.2 = 0 → rd_refusal = 0)) := by
  refine ok_Q (fun Q9 hQ9 => ?_)
  unfold f_BitReader_nextBits
  have q_pw0 : pw 0 = 1 := rfl
  refine ok_lp (fun s9 => ((0 : Int32) ≤ s9.1 ∧ s9.1 ≤ (7 : Int32)) ∧ ((0 : Int32) ≤ s9.2.2.1 ∧ s9.2.2.1 ≤ (16000 : Int32)) ∧ ((0 : Int32) ≤ s9.2.2.2 ∧ s9.2.2.2 ≤ (9 : Int32)) ∧ (0 : Int32) ≤ s9.2.1 ∧ s9.2.1 ≤ pw s9.1 - 1 ∧ s9.1 ≤ p0 ∧ (s9.2.2.2 = 0 → rd_refusal = 0)) (fun s9 => 7 - s9.1) ⟨by clear hQ9; first | with_reducible assumption | (simp only [xl, xt, xe, xa, xb, xm, xg, ne_eq, Int32.reduceToInt] at * <;> omega) | grind, by clear hQ9; first | with_reducible assumption | (simp only [xl, xt, xe, xa, xb, xm, xg, ne_eq, Int32.reduceToInt] at * <;> omega) | grind, by clear hQ9; first | with_reducible assumption | (simp only [xl, xt, xe, xa, xb, xm, xg, ne_eq, Int32.reduceToInt] at * <;> omega) | grind, by clear hQ9; first | with_reducible assumption | (simp only [xl, xt, xe, xa, xb, xm, xg, ne_eq, Int32.reduceToInt] at * <;> omega) | grind, by clear hQ9; first | with_reducible assumption | (simp only [xl, xt, xe, xa, xb, xm, xg, ne_eq, Int32.reduceToInt] at * <;> omega) | grind, by clear hQ9; first | with_reducible assumption | (simp only [xl, xt, xe, xa, xb, xm, xg, ne_eq, Int32.reduceToInt] at * <;> omega) | grind, by clear hQ9; first | with_reducible assumption | (simp only [xl, xt, xe, xa, xb, xm, xg, ne_eq, Int32.reduceToInt] at * <;> omega) | grind⟩ ?_ ?_
  · intro s9 hs9; obtain ⟨v3_1, v2_2, rd_place_3, rd_refusal_4⟩ := s9; try dsimp only at hs9; obtain ⟨q_5, q_6, q_7, q_8, q_9, q_10, q_11⟩ := hs9; exact ⟨by clear hQ9; (try dsimp only); first | with_reducible assumption | (simp only [xl, xt, xe, xa, xb, xm, xg, ne_eq, Int32.reduceToInt] at * <;> omega) | grind, by clear hQ9; (try dsimp only); first | with_reducible assumption | (simp only [xl, xt, xe, xa, xb, xm, xg, ne_eq, Int32.reduceToInt] at * <;> omega) | grind⟩
  intro self4 s9 hs9 ih_self4
  obtain ⟨v3_1, v2_2, rd_place_3, rd_refusal_4⟩ := s9; try dsimp only at hs9; obtain ⟨q_5, q_6, q_7, q_8, q_9, q_10, q_11⟩ := hs9
  unfold f_BitReader_nextBits_L4
  try dsimp only
  try dsimp only at ih_self4
  refine ok_if (fun q_12 => ?_) (fun q_12 => ?_)
  · skip
    exact ok_some (hQ9 _ ⟨by clear hQ9 ih_self4; first | with_reducible assumption | (simp only [xl, xt, xe, xa, xb, xm, xg, ne_eq, Int32.reduceToInt] at * <;> omega) | grind, by clear hQ9 ih_self4; first | with_reducible assumption | (simp only [xl, xt, xe, xa, xb, xm, xg, ne_eq, Int32.reduceToInt] at * <;> omega) | grind, by clear hQ9 ih_self4; first | with_reducible assumption | (simp only [xl, xt, xe, xa, xb, xm, xg, ne_eq, Int32.reduceToInt] at * <;> omega) | grind, by clear hQ9 ih_self4; first | with_reducible assumption | (simp only [xl, xt, xe, xa, xb, xm, xg, ne_eq, Int32.reduceToInt] at * <;> omega) | grind, by clear hQ9 ih_self4; first | with_reducible assumption | (simp only [xl, xt, xe, xa, xb, xm, xg, ne_eq, Int32.reduceToInt] at * <;> omega) | grind⟩)
  · skip
    refine ok_bd (s_BitReader_nextBit (by clear hQ9 ih_self4; first | with_reducible assumption | (simp only [xl, xt, xe, xa, xb, xm, xg, ne_eq, Int32.reduceToInt] at * <;> omega) | grind) (by clear hQ9 ih_self4; first | with_reducible assumption | (simp only [xl, xt, xe, xa, xb, xm, xg, ne_eq, Int32.reduceToInt] at * <;> omega) | grind) (by clear hQ9 ih_self4; first | with_reducible assumption | (simp only [xl, xt, xe, xa, xb, xm, xg, ne_eq, Int32.reduceToInt] at * <;> omega) | grind)) (fun o9 h9 => ?_)
    obtain ⟨r_5, rd_place_6, rd_refusal_7⟩ := o9
    try dsimp only at h9
    try dsimp only
    obtain ⟨q_13, q_14, q_15, q_16⟩ := h9
    have q_17 := pw_s v3_1 (by clear hQ9 ih_self4; first | with_reducible assumption | (simp only [xl, xt, xe, xa, xb, xm, xg, ne_eq, Int32.reduceToInt] at * <;> omega) | grind) (by clear hQ9 ih_self4; first | with_reducible assumption | (simp only [xl, xt, xe, xa, xb, xm, xg, ne_eq, Int32.reduceToInt] at * <;> omega) | grind)
    have q_18 := pw_s (v3_1 + 1) (by clear hQ9 ih_self4; first | with_reducible assumption | (simp only [xl, xt, xe, xa, xb, xm, xg, ne_eq, Int32.reduceToInt] at * <;> omega) | grind) (by clear hQ9 ih_self4; first | with_reducible assumption | (simp only [xl, xt, xe, xa, xb, xm, xg, ne_eq, Int32.reduceToInt] at * <;> omega) | grind)
    have q_19 := shl1or (v := v2_2) (b := r_5) (by clear hQ9 ih_self4; first | with_reducible assumption | (simp only [xl, xt, xe, xa, xb, xm, xg, ne_eq, Int32.reduceToInt] at * <;> omega) | grind) (by clear hQ9 ih_self4; first | with_reducible assumption | (simp only [xl, xt, xe, xa, xb, xm, xg, ne_eq, Int32.reduceToInt] at * <;> omega) | grind) (by clear hQ9 ih_self4; first | with_reducible assumption | (simp only [xl, xt, xe, xa, xb, xm, xg, ne_eq, Int32.reduceToInt] at * <;> omega) | grind)
    refine ok_nl (fun v2_8 e_v2_8 => ?_)
    refine ok_nl (fun v3_9 e_v3_9 => ?_)
    exact ih_self4 (v3_9, v2_8, rd_place_6, rd_refusal_7) ⟨by clear hQ9 ih_self4; first | with_reducible assumption | (simp only [xl, xt, xe, xa, xb, xm, xg, ne_eq, Int32.reduceToInt] at * <;> omega) | grind, by clear hQ9 ih_self4; first | with_reducible assumption | (simp only [xl, xt, xe, xa, xb, xm, xg, ne_eq, Int32.reduceToInt] at * <;> omega) | grind, by clear hQ9 ih_self4; first | with_reducible assumption | (simp only [xl, xt, xe, xa, xb, xm, xg, ne_eq, Int32.reduceToInt] at * <;> omega) | grind, by clear hQ9 ih_self4; first | with_reducible assumption | (simp only [xl, xt, xe, xa, xb, xm, xg, ne_eq, Int32.reduceToInt] at * <;> omega) | grind, by clear hQ9 ih_self4; first | with_reducible assumption | (simp only [xl, xt, xe, xa, xb, xm, xg, ne_eq, Int32.reduceToInt] at * <;> omega) | grind, by clear hQ9 ih_self4; first | with_reducible assumption | (simp only [xl, xt, xe, xa, xb, xm, xg, ne_eq, Int32.reduceToInt] at * <;> omega) | grind, by clear hQ9 ih_self4; first | with_reducible assumption | (simp only [xl, xt, xe, xa, xb, xm, xg, ne_eq, Int32.reduceToInt] at * <;> omega) | grind⟩ (by clear hQ9 ih_self4; (try dsimp only); first | with_reducible assumption | (simp only [xl, xt, xe, xa, xb, xm, xg, ne_eq, Int32.reduceToInt] at * <;> omega) | grind)

set_option maxHeartbeats 4000000 in
set_option maxRecDepth 20000 in
theorem s_BitReader_nextNumber {rd_place : Int32} {rd_refusal : Int32} {cb_count : Int32} {cb_bytes : (Nat → Int32)} (q_1 : ((0 : Int32) ≤ rd_place ∧ rd_place ≤ (16000 : Int32))) (q_2 : ((0 : Int32) ≤ rd_refusal ∧ rd_refusal ≤ (9 : Int32))) (q_3 : ((0 : Int32) ≤ cb_count ∧ cb_count ≤ (2000 : Int32))) : ok (f_BitReader_nextNumber rd_place rd_refusal cb_count cb_bytes) (fun o => ((0 : Int32) ≤ o.1 ∧ o.1 ≤ (8191 : Int32)) ∧ ((0 : Int32) ≤ o.2.1 ∧ o.2.1 ≤ (16000 : Int32)) ∧ ((0 : Int32) ≤ o.2.2 ∧ o.2.2 ≤ (9 : Int32)) ∧ (o.2.2 = 0 → rd_refusal = 0)) := by
  refine ok_Q (fun Q9 hQ9 => ?_)
  unfold f_BitReader_nextNumber
  have q_pw1 : pw (0 + 1) = 2 := rfl
  refine ok_ex (fun k9 => lp (f_BitReader_nextNumber_L2 cb_count cb_bytes k9) FU ((0 : Int32), rd_place, rd_refusal)) (fun j9 => ∀ (v1_4 : Int32) (rd_place_5 : Int32) (rd_refusal_6 : Int32), ((0 : Int32) ≤ v1_4 ∧ v1_4 ≤ (13 : Int32)) → ((0 : Int32) ≤ rd_place_5 ∧ rd_place_5 ≤ (16000 : Int32)) → ((0 : Int32) ≤ rd_refusal_6 ∧ rd_refusal_6 ≤ (9 : Int32)) → (rd_refusal_6 = 0 → rd_refusal = 0) → ok (j9 v1_4 rd_place_5 rd_refusal_6) Q9) ?_ (fun k21 h_k21 => ?_)
  · intro v1_4 rd_place_5 rd_refusal_6 q_4 q_5 q_6 q_7
    refine ok_if (fun q_8 => ?_) (fun q_8 => ?_)
    · skip
      refine ok_lp (fun s9 => ((0 : Int32) ≤ s9.1 ∧ s9.1 ≤ (12 : Int32)) ∧ ((0 : Int32) ≤ s9.2.2.1 ∧ s9.2.2.1 ≤ (16000 : Int32)) ∧ ((0 : Int32) ≤ s9.2.2.2 ∧ s9.2.2.2 ≤ (9 : Int32)) ∧ (1 : Int32) ≤ s9.2.1 ∧ s9.2.1 ≤ pw (s9.1 + 1) - 1 ∧ s9.1 ≤ v1_4 ∧ (s9.2.2.2 = 0 → rd_refusal = 0)) (fun s9 => 13 - s9.1) ⟨by clear hQ9; first | with_reducible assumption | (simp only [xl, xt, xe, xa, xb, xm, xg, ne_eq, Int32.reduceToInt] at * <;> omega) | grind, by clear hQ9; first | with_reducible assumption | (simp only [xl, xt, xe, xa, xb, xm, xg, ne_eq, Int32.reduceToInt] at * <;> omega) | grind, by clear hQ9; first | with_reducible assumption | (simp only [xl, xt, xe, xa, xb, xm, xg, ne_eq, Int32.reduceToInt] at * <;> omega) | grind, by clear hQ9; first | with_reducible assumption | (simp only [xl, xt, xe, xa, xb, xm, xg, ne_eq, Int32.reduceToInt] at * <;> omega) | grind, by clear hQ9; first | with_reducible assumption | (simp only [xl, xt, xe, xa, xb, xm, xg, ne_eq, Int32.reduceToInt] at * <;> omega) | grind, by clear hQ9; first | with_reducible assumption | (simp only [xl, xt, xe, xa, xb, xm, xg, ne_eq, Int32.reduceToInt] at * <;> omega) | grind, by clear hQ9; first | with_reducible assumption | (simp only [xl, xt, xe, xa, xb, xm, xg, ne_eq, Int32.reduceToInt] at * <;> omega) | grind⟩ ?_ ?_
      · intro s9 hs9; obtain ⟨v3_11, v2_12, rd_place_13, rd_refusal_14⟩ := s9; try dsimp only at hs9; obtain ⟨q_9, q_10, q_11, q_12, q_13, q_14, q_15⟩ := hs9; exact ⟨by clear hQ9; (try dsimp only); first | with_reducible assumption | (simp only [xl, xt, xe, xa, xb, xm, xg, ne_eq, Int32.reduceToInt] at * <;> omega) | grind, by clear hQ9; (try dsimp only); first | with_reducible assumption | (simp only [xl, xt, xe, xa, xb, xm, xg, ne_eq, Int32.reduceToInt] at * <;> omega) | grind⟩
      intro self39 s9 hs9 ih_self39
      obtain ⟨v3_11, v2_12, rd_place_13, rd_refusal_14⟩ := s9; try dsimp only at hs9; obtain ⟨q_9, q_10, q_11, q_12, q_13, q_14, q_15⟩ := hs9
      unfold f_BitReader_nextNumber_L39
      try dsimp only
      try dsimp only at ih_self39
      have q_h39 := pw_s (v3_11 + 1) (by clear hQ9 ih_self39; first | with_reducible assumption | (simp only [xl, xt, xe, xa, xb, xm, xg, ne_eq, Int32.reduceToInt] at * <;> omega) | grind) (by clear hQ9 ih_self39; first | with_reducible assumption | (simp only [xl, xt, xe, xa, xb, xm, xg, ne_eq, Int32.reduceToInt] at * <;> omega) | grind)
      refine ok_if (fun q_16 => ?_) (fun q_16 => ?_)
      · skip
        exact ok_some (hQ9 _ ⟨by clear hQ9 ih_self39; first | with_reducible assumption | (simp only [xl, xt, xe, xa, xb, xm, xg, ne_eq, Int32.reduceToInt] at * <;> omega) | grind, by clear hQ9 ih_self39; first | with_reducible assumption | (simp only [xl, xt, xe, xa, xb, xm, xg, ne_eq, Int32.reduceToInt] at * <;> omega) | grind, by clear hQ9 ih_self39; first | with_reducible assumption | (simp only [xl, xt, xe, xa, xb, xm, xg, ne_eq, Int32.reduceToInt] at * <;> omega) | grind, by clear hQ9 ih_self39; first | with_reducible assumption | (simp only [xl, xt, xe, xa, xb, xm, xg, ne_eq, Int32.reduceToInt] at * <;> omega) | grind⟩)
      · skip
        refine ok_bd (s_BitReader_nextBit (by clear hQ9 ih_self39; first | with_reducible assumption | (simp only [xl, xt, xe, xa, xb, xm, xg, ne_eq, Int32.reduceToInt] at * <;> omega) | grind) (by clear hQ9 ih_self39; first | with_reducible assumption | (simp only [xl, xt, xe, xa, xb, xm, xg, ne_eq, Int32.reduceToInt] at * <;> omega) | grind) (by clear hQ9 ih_self39; first | with_reducible assumption | (simp only [xl, xt, xe, xa, xb, xm, xg, ne_eq, Int32.reduceToInt] at * <;> omega) | grind)) (fun o9 h9 => ?_)
        obtain ⟨r_15, rd_place_16, rd_refusal_17⟩ := o9
        try dsimp only at h9
        try dsimp only
        obtain ⟨q_17, q_18, q_19, q_20⟩ := h9
        have q_21 := pw_s v3_11 (by clear hQ9 ih_self39; first | with_reducible assumption | (simp only [xl, xt, xe, xa, xb, xm, xg, ne_eq, Int32.reduceToInt] at * <;> omega) | grind) (by clear hQ9 ih_self39; first | with_reducible assumption | (simp only [xl, xt, xe, xa, xb, xm, xg, ne_eq, Int32.reduceToInt] at * <;> omega) | grind)
        have q_22 := pw_s (v3_11 + 1) (by clear hQ9 ih_self39; first | with_reducible assumption | (simp only [xl, xt, xe, xa, xb, xm, xg, ne_eq, Int32.reduceToInt] at * <;> omega) | grind) (by clear hQ9 ih_self39; first | with_reducible assumption | (simp only [xl, xt, xe, xa, xb, xm, xg, ne_eq, Int32.reduceToInt] at * <;> omega) | grind)
        have q_23 := shl1or (v := v2_12) (b := r_15) (by clear hQ9 ih_self39; first | with_reducible assumption | (simp only [xl, xt, xe, xa, xb, xm, xg, ne_eq, Int32.reduceToInt] at * <;> omega) | grind) (by clear hQ9 ih_self39; first | with_reducible assumption | (simp only [xl, xt, xe, xa, xb, xm, xg, ne_eq, Int32.reduceToInt] at * <;> omega) | grind) (by clear hQ9 ih_self39; first | with_reducible assumption | (simp only [xl, xt, xe, xa, xb, xm, xg, ne_eq, Int32.reduceToInt] at * <;> omega) | grind)
        refine ok_nl (fun v2_18 e_v2_18 => ?_)
        refine ok_nl (fun v3_19 e_v3_19 => ?_)
        exact ih_self39 (v3_19, v2_18, rd_place_16, rd_refusal_17) ⟨by clear hQ9 ih_self39; first | with_reducible assumption | (simp only [xl, xt, xe, xa, xb, xm, xg, ne_eq, Int32.reduceToInt] at * <;> omega) | grind, by clear hQ9 ih_self39; first | with_reducible assumption | (simp only [xl, xt, xe, xa, xb, xm, xg, ne_eq, Int32.reduceToInt] at * <;> omega) | grind, by clear hQ9 ih_self39; first | with_reducible assumption | (simp only [xl, xt, xe, xa, xb, xm, xg, ne_eq, Int32.reduceToInt] at * <;> omega) | grind, by clear hQ9 ih_self39; first | with_reducible assumption | (simp only [xl, xt, xe, xa, xb, xm, xg, ne_eq, Int32.reduceToInt] at * <;> omega) | grind, by clear hQ9 ih_self39; first | with_reducible assumption | (simp only [xl, xt, xe, xa, xb, xm, xg, ne_eq, Int32.reduceToInt] at * <;> omega) | grind, by clear hQ9 ih_self39; first | with_reducible assumption | (simp only [xl, xt, xe, xa, xb, xm, xg, ne_eq, Int32.reduceToInt] at * <;> omega) | grind, by clear hQ9 ih_self39; first | with_reducible assumption | (simp only [xl, xt, xe, xa, xb, xm, xg, ne_eq, Int32.reduceToInt] at * <;> omega) | grind⟩ (by clear hQ9 ih_self39; (try dsimp only); first | with_reducible assumption | (simp only [xl, xt, xe, xa, xb, xm, xg, ne_eq, Int32.reduceToInt] at * <;> omega) | grind)
    · skip
      refine ok_bd (s_BitReader_refuse (by clear hQ9; first | with_reducible assumption | (simp only [xl, xt, xe, xa, xb, xm, xg, ne_eq, Int32.reduceToInt] at * <;> omega) | grind) (by clear hQ9; first | with_reducible assumption | (simp only [xl, xt, xe, xa, xb, xm, xg, ne_eq, Int32.reduceToInt] at * <;> omega) | grind)) (fun o9 h9 => ?_)
      obtain ⟨rd_refusal_20, rfl⟩ : ∃ z9, z9 = o9 := ⟨_, rfl⟩
      obtain ⟨q_24, q_25⟩ := h9
      exact ok_some (hQ9 _ ⟨by clear hQ9; first | with_reducible assumption | (simp only [xl, xt, xe, xa, xb, xm, xg, ne_eq, Int32.reduceToInt] at * <;> omega) | grind, by clear hQ9; first | with_reducible assumption | (simp only [xl, xt, xe, xa, xb, xm, xg, ne_eq, Int32.reduceToInt] at * <;> omega) | grind, by clear hQ9; first | with_reducible assumption | (simp only [xl, xt, xe, xa, xb, xm, xg, ne_eq, Int32.reduceToInt] at * <;> omega) | grind, by clear hQ9; first | with_reducible assumption | (simp only [xl, xt, xe, xa, xb, xm, xg, ne_eq, Int32.reduceToInt] at * <;> omega) | grind⟩)
  refine ok_lp (fun s9 => ((0 : Int32) ≤ s9.1 ∧ s9.1 ≤ (13 : Int32)) ∧ ((0 : Int32) ≤ s9.2.1 ∧ s9.2.1 ≤ (16000 : Int32)) ∧ ((0 : Int32) ≤ s9.2.2 ∧ s9.2.2 ≤ (9 : Int32)) ∧ (s9.2.2 = 0 → rd_refusal = 0)) (fun s9 => 13 - s9.1) ⟨by clear hQ9 h_k21; first | with_reducible assumption | (simp only [xl, xt, xe, xa, xb, xm, xg, ne_eq, Int32.reduceToInt] at * <;> omega) | grind, by clear hQ9 h_k21; first | with_reducible assumption | (simp only [xl, xt, xe, xa, xb, xm, xg, ne_eq, Int32.reduceToInt] at * <;> omega) | grind, by clear hQ9 h_k21; first | with_reducible assumption | (simp only [xl, xt, xe, xa, xb, xm, xg, ne_eq, Int32.reduceToInt] at * <;> omega) | grind, by clear hQ9 h_k21; first | with_reducible assumption | (simp only [xl, xt, xe, xa, xb, xm, xg, ne_eq, Int32.reduceToInt] at * <;> omega) | grind⟩ ?_ ?_
  · intro s9 hs9; obtain ⟨v1_1, rd_place_2, rd_refusal_3⟩ := s9; try dsimp only at hs9; obtain ⟨q_26, q_27, q_28, q_29⟩ := hs9; exact ⟨by clear hQ9 h_k21; (try dsimp only); first | with_reducible assumption | (simp only [xl, xt, xe, xa, xb, xm, xg, ne_eq, Int32.reduceToInt] at * <;> omega) | grind, by clear hQ9 h_k21; (try dsimp only); first | with_reducible assumption | (simp only [xl, xt, xe, xa, xb, xm, xg, ne_eq, Int32.reduceToInt] at * <;> omega) | grind⟩
  intro self2 s9 hs9 ih_self2
  obtain ⟨v1_1, rd_place_2, rd_refusal_3⟩ := s9; try dsimp only at hs9; obtain ⟨q_26, q_27, q_28, q_29⟩ := hs9
  unfold f_BitReader_nextNumber_L2
  try dsimp only
  try dsimp only at ih_self2
  refine ok_if (fun q_30 => ?_) (fun q_30 => ?_)
  · skip
    exact h_k21 _ _ _ (by clear hQ9 h_k21 ih_self2; first | with_reducible assumption | (simp only [xl, xt, xe, xa, xb, xm, xg, ne_eq, Int32.reduceToInt] at * <;> omega) | grind) (by clear hQ9 h_k21 ih_self2; first | with_reducible assumption | (simp only [xl, xt, xe, xa, xb, xm, xg, ne_eq, Int32.reduceToInt] at * <;> omega) | grind) (by clear hQ9 h_k21 ih_self2; first | with_reducible assumption | (simp only [xl, xt, xe, xa, xb, xm, xg, ne_eq, Int32.reduceToInt] at * <;> omega) | grind) (by clear hQ9 h_k21 ih_self2; first | with_reducible assumption | (simp only [xl, xt, xe, xa, xb, xm, xg, ne_eq, Int32.reduceToInt] at * <;> omega) | grind)
  · skip
    refine ok_bd (s_BitReader_nextBit (by clear hQ9 h_k21 ih_self2; first | with_reducible assumption | (simp only [xl, xt, xe, xa, xb, xm, xg, ne_eq, Int32.reduceToInt] at * <;> omega) | grind) (by clear hQ9 h_k21 ih_self2; first | with_reducible assumption | (simp only [xl, xt, xe, xa, xb, xm, xg, ne_eq, Int32.reduceToInt] at * <;> omega) | grind) (by clear hQ9 h_k21 ih_self2; first | with_reducible assumption | (simp only [xl, xt, xe, xa, xb, xm, xg, ne_eq, Int32.reduceToInt] at * <;> omega) | grind)) (fun o9 h9 => ?_)
    obtain ⟨r_7, rd_place_8, rd_refusal_9⟩ := o9
    try dsimp only at h9
    try dsimp only
    obtain ⟨q_31, q_32, q_33, q_34⟩ := h9
    refine ok_if (fun q_35 => ?_) (fun q_35 => ?_)
    · skip
      refine ok_nl (fun v1_10 e_v1_10 => ?_)
      exact ih_self2 (v1_10, rd_place_8, rd_refusal_9) ⟨by clear hQ9 h_k21 ih_self2; first | with_reducible assumption | (simp only [xl, xt, xe, xa, xb, xm, xg, ne_eq, Int32.reduceToInt] at * <;> omega) | grind, by clear hQ9 h_k21 ih_self2; first | with_reducible assumption | (simp only [xl, xt, xe, xa, xb, xm, xg, ne_eq, Int32.reduceToInt] at * <;> omega) | grind, by clear hQ9 h_k21 ih_self2; first | with_reducible assumption | (simp only [xl, xt, xe, xa, xb, xm, xg, ne_eq, Int32.reduceToInt] at * <;> omega) | grind, by clear hQ9 h_k21 ih_self2; first | with_reducible assumption | (simp only [xl, xt, xe, xa, xb, xm, xg, ne_eq, Int32.reduceToInt] at * <;> omega) | grind⟩ (by clear hQ9 h_k21 ih_self2; (try dsimp only); first | with_reducible assumption | (simp only [xl, xt, xe, xa, xb, xm, xg, ne_eq, Int32.reduceToInt] at * <;> omega) | grind)
    · skip
      exact h_k21 _ _ _ (by clear hQ9 h_k21 ih_self2; first | with_reducible assumption | (simp only [xl, xt, xe, xa, xb, xm, xg, ne_eq, Int32.reduceToInt] at * <;> omega) | grind) (by clear hQ9 h_k21 ih_self2; first | with_reducible assumption | (simp only [xl, xt, xe, xa, xb, xm, xg, ne_eq, Int32.reduceToInt] at * <;> omega) | grind) (by clear hQ9 h_k21 ih_self2; first | with_reducible assumption | (simp only [xl, xt, xe, xa, xb, xm, xg, ne_eq, Int32.reduceToInt] at * <;> omega) | grind) (by clear hQ9 h_k21 ih_self2; first | with_reducible assumption | (simp only [xl, xt, xe, xa, xb, xm, xg, ne_eq, Int32.reduceToInt] at * <;> omega) | grind)

set_option maxHeartbeats 4000000 in
set_option maxRecDepth 20000 in
theorem s_BitReader_nextSigned {rd_place : Int32} {rd_refusal : Int32} {cb_count : Int32} {cb_bytes : (Nat → Int32)} (q_1 : ((0 : Int32) ≤ rd_place ∧ rd_place ≤ (16000 : Int32))) (q_2 : ((0 : Int32) ≤ rd_refusal ∧ rd_refusal ≤ (9 : Int32))) (q_3 : ((0 : Int32) ≤ cb_count ∧ cb_count ≤ (2000 : Int32))) : ok (f_BitReader_nextSigned rd_place rd_refusal cb_count cb_bytes) (fun o => ((0 : Int32) ≤ o.2.1 ∧ o.2.1 ≤ (16000 : Int32)) ∧ ((0 : Int32) ≤ o.2.2 ∧ o.2.2 ≤ (9 : Int32)) ∧ (o.2.2 = 0 → rd_refusal = 0)) := by
  refine ok_Q (fun Q9 hQ9 => ?_)
  unfold f_BitReader_nextSigned
  refine ok_bd (s_BitReader_nextNumber (by clear hQ9; first | with_reducible assumption | (simp only [xl, xt, xe, xa, xb, xm, xg, ne_eq, Int32.reduceToInt] at * <;> omega) | grind) (by clear hQ9; first | with_reducible assumption | (simp only [xl, xt, xe, xa, xb, xm, xg, ne_eq, Int32.reduceToInt] at * <;> omega) | grind) (by clear hQ9; first | with_reducible assumption | (simp only [xl, xt, xe, xa, xb, xm, xg, ne_eq, Int32.reduceToInt] at * <;> omega) | grind)) (fun o9 h9 => ?_)
  obtain ⟨r_1, rd_place_2, rd_refusal_3⟩ := o9
  try dsimp only at h9
  try dsimp only
  obtain ⟨q_4, q_5, q_6, q_7⟩ := h9
  have q_8 := dv (a := r_1) (2 : Int32) (by clear hQ9; first | with_reducible assumption | (simp only [xl, xt, xe, xa, xb, xm, xg, ne_eq, Int32.reduceToInt] at * <;> omega) | grind) (by decide)
  refine ok_if (fun q_9 => ?_) (fun q_9 => ?_)
  · skip
    have q_10 := dv (a := r_1) (2 : Int32) (by clear hQ9; first | with_reducible assumption | (simp only [xl, xt, xe, xa, xb, xm, xg, ne_eq, Int32.reduceToInt] at * <;> omega) | grind) (by decide)
    exact ok_some (hQ9 _ ⟨by clear hQ9; first | with_reducible assumption | (simp only [xl, xt, xe, xa, xb, xm, xg, ne_eq, Int32.reduceToInt] at * <;> omega) | grind, by clear hQ9; first | with_reducible assumption | (simp only [xl, xt, xe, xa, xb, xm, xg, ne_eq, Int32.reduceToInt] at * <;> omega) | grind, by clear hQ9; first | with_reducible assumption | (simp only [xl, xt, xe, xa, xb, xm, xg, ne_eq, Int32.reduceToInt] at * <;> omega) | grind⟩)
  · skip
    have q_11 := dv (a := r_1) (2 : Int32) (by clear hQ9; first | with_reducible assumption | (simp only [xl, xt, xe, xa, xb, xm, xg, ne_eq, Int32.reduceToInt] at * <;> omega) | grind) (by decide)
    exact ok_some (hQ9 _ ⟨by clear hQ9; first | with_reducible assumption | (simp only [xl, xt, xe, xa, xb, xm, xg, ne_eq, Int32.reduceToInt] at * <;> omega) | grind, by clear hQ9; first | with_reducible assumption | (simp only [xl, xt, xe, xa, xb, xm, xg, ne_eq, Int32.reduceToInt] at * <;> omega) | grind, by clear hQ9; first | with_reducible assumption | (simp only [xl, xt, xe, xa, xb, xm, xg, ne_eq, Int32.reduceToInt] at * <;> omega) | grind⟩)

set_option maxHeartbeats 4000000 in
set_option maxRecDepth 20000 in
theorem s_BitReader_readEnd {rd_place : Int32} {rd_refusal : Int32} {cb_count : Int32} {cb_bytes : (Nat → Int32)} (q_1 : ((0 : Int32) ≤ rd_place ∧ rd_place ≤ (16000 : Int32))) (q_2 : ((0 : Int32) ≤ rd_refusal ∧ rd_refusal ≤ (9 : Int32))) (q_3 : ((0 : Int32) ≤ cb_count ∧ cb_count ≤ (2000 : Int32))) : ok (f_BitReader_readEnd rd_place rd_refusal cb_count cb_bytes) (fun o => ((0 : Int32) ≤ o.1 ∧ o.1 ≤ (16000 : Int32)) ∧ ((0 : Int32) ≤ o.2 ∧ o.2 ≤ (9 : Int32))) := by
  refine ok_Q (fun Q9 hQ9 => ?_)
  unfold f_BitReader_readEnd
  refine ok_ex (fun k9 => lp (f_BitReader_readEnd_L2 cb_count cb_bytes k9) FU ((0 : Int32), rd_place, rd_refusal)) (fun j9 => ∀ (rd_place_4 : Int32) (rd_refusal_5 : Int32), ((0 : Int32) ≤ rd_place_4 ∧ rd_place_4 ≤ (16000 : Int32)) → ((0 : Int32) ≤ rd_refusal_5 ∧ rd_refusal_5 ≤ (9 : Int32)) → ok (j9 rd_place_4 rd_refusal_5) Q9) ?_ (fun k38 h_k38 => ?_)
  · intro rd_place_4 rd_refusal_5 q_4 q_5
    have q_6 := dv (a := rd_place_4) (8 : Int32) (by clear hQ9; first | with_reducible assumption | (simp only [xl, xt, xe, xa, xb, xm, xg, ne_eq, Int32.reduceToInt] at * <;> omega) | grind) (by decide)
    refine ok_if (fun q_7 => ?_) (fun q_7 => ?_)
    · skip
      exact ok_some (hQ9 _ ⟨by clear hQ9; first | with_reducible assumption | (simp only [xl, xt, xe, xa, xb, xm, xg, ne_eq, Int32.reduceToInt] at * <;> omega) | grind, by clear hQ9; first | with_reducible assumption | (simp only [xl, xt, xe, xa, xb, xm, xg, ne_eq, Int32.reduceToInt] at * <;> omega) | grind⟩)
    · skip
      refine ok_bd (s_BitReader_refuse (by clear hQ9; first | with_reducible assumption | (simp only [xl, xt, xe, xa, xb, xm, xg, ne_eq, Int32.reduceToInt] at * <;> omega) | grind) (by clear hQ9; first | with_reducible assumption | (simp only [xl, xt, xe, xa, xb, xm, xg, ne_eq, Int32.reduceToInt] at * <;> omega) | grind)) (fun o9 h9 => ?_)
      obtain ⟨rd_refusal_12, rfl⟩ : ∃ z9, z9 = o9 := ⟨_, rfl⟩
      obtain ⟨q_8, q_9⟩ := h9
      exact ok_some (hQ9 _ ⟨by clear hQ9; first | with_reducible assumption | (simp only [xl, xt, xe, xa, xb, xm, xg, ne_eq, Int32.reduceToInt] at * <;> omega) | grind, by clear hQ9; first | with_reducible assumption | (simp only [xl, xt, xe, xa, xb, xm, xg, ne_eq, Int32.reduceToInt] at * <;> omega) | grind⟩)
  refine ok_lp (fun s9 => ((0 : Int32) ≤ s9.1 ∧ s9.1 ≤ (8 : Int32)) ∧ ((0 : Int32) ≤ s9.2.1 ∧ s9.2.1 ≤ (16000 : Int32)) ∧ ((0 : Int32) ≤ s9.2.2 ∧ s9.2.2 ≤ (9 : Int32))) (fun s9 => 8 - s9.1) ⟨by clear hQ9 h_k38; first | with_reducible assumption | (simp only [xl, xt, xe, xa, xb, xm, xg, ne_eq, Int32.reduceToInt] at * <;> omega) | grind, by clear hQ9 h_k38; first | with_reducible assumption | (simp only [xl, xt, xe, xa, xb, xm, xg, ne_eq, Int32.reduceToInt] at * <;> omega) | grind, by clear hQ9 h_k38; first | with_reducible assumption | (simp only [xl, xt, xe, xa, xb, xm, xg, ne_eq, Int32.reduceToInt] at * <;> omega) | grind⟩ ?_ ?_
  · intro s9 hs9; obtain ⟨v1_1, rd_place_2, rd_refusal_3⟩ := s9; try dsimp only at hs9; obtain ⟨q_10, q_11, q_12⟩ := hs9; exact ⟨by clear hQ9 h_k38; (try dsimp only); first | with_reducible assumption | (simp only [xl, xt, xe, xa, xb, xm, xg, ne_eq, Int32.reduceToInt] at * <;> omega) | grind, by clear hQ9 h_k38; (try dsimp only); first | with_reducible assumption | (simp only [xl, xt, xe, xa, xb, xm, xg, ne_eq, Int32.reduceToInt] at * <;> omega) | grind⟩
  intro self2 s9 hs9 ih_self2
  obtain ⟨v1_1, rd_place_2, rd_refusal_3⟩ := s9; try dsimp only at hs9; obtain ⟨q_10, q_11, q_12⟩ := hs9
  unfold f_BitReader_readEnd_L2
  try dsimp only
  try dsimp only at ih_self2
  refine ok_if (fun q_13 => ?_) (fun q_13 => ?_)
  · skip
    exact h_k38 _ _ (by clear hQ9 h_k38 ih_self2; first | with_reducible assumption | (simp only [xl, xt, xe, xa, xb, xm, xg, ne_eq, Int32.reduceToInt] at * <;> omega) | grind) (by clear hQ9 h_k38 ih_self2; first | with_reducible assumption | (simp only [xl, xt, xe, xa, xb, xm, xg, ne_eq, Int32.reduceToInt] at * <;> omega) | grind)
  · skip
    have q_14 := dv (a := rd_place_2) (8 : Int32) (by clear hQ9 h_k38 ih_self2; first | with_reducible assumption | (simp only [xl, xt, xe, xa, xb, xm, xg, ne_eq, Int32.reduceToInt] at * <;> omega) | grind) (by decide)
    refine ok_if (fun q_15 => ?_) (fun q_15 => ?_)
    · skip
      exact h_k38 _ _ (by clear hQ9 h_k38 ih_self2; first | with_reducible assumption | (simp only [xl, xt, xe, xa, xb, xm, xg, ne_eq, Int32.reduceToInt] at * <;> omega) | grind) (by clear hQ9 h_k38 ih_self2; first | with_reducible assumption | (simp only [xl, xt, xe, xa, xb, xm, xg, ne_eq, Int32.reduceToInt] at * <;> omega) | grind)
    · skip
      refine ok_bd (s_BitReader_nextBit (by clear hQ9 h_k38 ih_self2; first | with_reducible assumption | (simp only [xl, xt, xe, xa, xb, xm, xg, ne_eq, Int32.reduceToInt] at * <;> omega) | grind) (by clear hQ9 h_k38 ih_self2; first | with_reducible assumption | (simp only [xl, xt, xe, xa, xb, xm, xg, ne_eq, Int32.reduceToInt] at * <;> omega) | grind) (by clear hQ9 h_k38 ih_self2; first | with_reducible assumption | (simp only [xl, xt, xe, xa, xb, xm, xg, ne_eq, Int32.reduceToInt] at * <;> omega) | grind)) (fun o9 h9 => ?_)
      obtain ⟨r_6, rd_place_7, rd_refusal_8⟩ := o9
      try dsimp only at h9
      try dsimp only
      obtain ⟨q_16, q_17, q_18, q_19⟩ := h9
      refine ok_jn (fun j9 => ∀ (rd_refusal_9 : Int32), ((0 : Int32) ≤ rd_refusal_9 ∧ rd_refusal_9 ≤ (9 : Int32)) → ok (j9 rd_refusal_9) Q9) ?_ (fun j32 h_j32 => ?_)
      · intro rd_refusal_9 q_20
        refine ok_nl (fun v1_10 e_v1_10 => ?_)
        exact ih_self2 (v1_10, rd_place_7, rd_refusal_9) ⟨by clear hQ9 h_k38 ih_self2; first | with_reducible assumption | (simp only [xl, xt, xe, xa, xb, xm, xg, ne_eq, Int32.reduceToInt] at * <;> omega) | grind, by clear hQ9 h_k38 ih_self2; first | with_reducible assumption | (simp only [xl, xt, xe, xa, xb, xm, xg, ne_eq, Int32.reduceToInt] at * <;> omega) | grind, by clear hQ9 h_k38 ih_self2; first | with_reducible assumption | (simp only [xl, xt, xe, xa, xb, xm, xg, ne_eq, Int32.reduceToInt] at * <;> omega) | grind⟩ (by clear hQ9 h_k38 ih_self2; (try dsimp only); first | with_reducible assumption | (simp only [xl, xt, xe, xa, xb, xm, xg, ne_eq, Int32.reduceToInt] at * <;> omega) | grind)
      refine ok_if (fun q_21 => ?_) (fun q_21 => ?_)
      · skip
        refine ok_bd (s_BitReader_refuse (by clear hQ9 h_k38 ih_self2 h_j32; first | with_reducible assumption | (simp only [xl, xt, xe, xa, xb, xm, xg, ne_eq, Int32.reduceToInt] at * <;> omega) | grind) (by clear hQ9 h_k38 ih_self2 h_j32; first | with_reducible assumption | (simp only [xl, xt, xe, xa, xb, xm, xg, ne_eq, Int32.reduceToInt] at * <;> omega) | grind)) (fun o9 h9 => ?_)
        obtain ⟨rd_refusal_11, rfl⟩ : ∃ z9, z9 = o9 := ⟨_, rfl⟩
        obtain ⟨q_22, q_23⟩ := h9
        exact h_j32 _ (by clear hQ9 h_k38 ih_self2 h_j32; first | with_reducible assumption | (simp only [xl, xt, xe, xa, xb, xm, xg, ne_eq, Int32.reduceToInt] at * <;> omega) | grind)
      · skip
        exact h_j32 _ (by clear hQ9 h_k38 ih_self2 h_j32; first | with_reducible assumption | (simp only [xl, xt, xe, xa, xb, xm, xg, ne_eq, Int32.reduceToInt] at * <;> omega) | grind)

