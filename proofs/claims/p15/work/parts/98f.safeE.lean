set_option maxHeartbeats 4000000 in
set_option maxRecDepth 20000 in
theorem s_Reader_bitsRead {rd_place : Int32} (q_1 : ((0 : Int32) ≤ rd_place ∧ rd_place ≤ (16000 : Int32))) : ok (f_Reader_bitsRead rd_place) (fun o => True) := by
  refine ok_Q (fun Q9 hQ9 => ?_)
  unfold f_Reader_bitsRead
  exact ok_some (hQ9 _ trivial)

set_option maxHeartbeats 4000000 in
set_option maxRecDepth 20000 in
theorem s_Reader_readDiffers {la_count : Int32} {rd_place : Int32} {rd_refusal : Int32} {cb_count : Int32} {cb_bytes : (Nat → Int32)} {la_symbolOf : (Nat → Int32)} {di_widths : (Nat → Int32)} {di_heights : (Nat → Int32)} {la_differs : (Nat → Int64)} (q_1 : ((0 : Int32) ≤ la_count ∧ la_count ≤ (40 : Int32))) (q_2 : ((0 : Int32) ≤ rd_place ∧ rd_place ≤ (16000 : Int32))) (q_3 : ((0 : Int32) ≤ rd_refusal ∧ rd_refusal ≤ (9 : Int32))) (q_4 : ((0 : Int32) ≤ cb_count ∧ cb_count ≤ (2000 : Int32))) (q_5 : R la_symbolOf (0 : Int32) (15 : Int32)) (q_6 : R di_widths (0 : Int32) (8 : Int32)) (q_7 : R di_heights (0 : Int32) (8 : Int32)) : ok (f_Reader_readDiffers la_count rd_place rd_refusal cb_count cb_bytes la_symbolOf di_widths di_heights la_differs) (fun o => ((0 : Int32) ≤ o.1 ∧ o.1 ≤ (16000 : Int32)) ∧ ((0 : Int32) ≤ o.2.1 ∧ o.2.1 ≤ (9 : Int32)) ∧ (o.2.1 = 0 → rd_refusal = 0)) := by
  refine ok_Q (fun Q9 hQ9 => ?_)
  unfold f_Reader_readDiffers
  refine ok_bd (s_BitReader_nextBit (by clear hQ9; first | with_reducible assumption | (simp only [xl, xt, xe, xa, xb, xm, xg, ne_eq, Int32.reduceToInt] at * <;> omega) | grind) (by clear hQ9; first | with_reducible assumption | (simp only [xl, xt, xe, xa, xb, xm, xg, ne_eq, Int32.reduceToInt] at * <;> omega) | grind) (by clear hQ9; first | with_reducible assumption | (simp only [xl, xt, xe, xa, xb, xm, xg, ne_eq, Int32.reduceToInt] at * <;> omega) | grind)) (fun o9 h9 => ?_)
  obtain ⟨r_1, rd_place_2, rd_refusal_3⟩ := o9
  try dsimp only at h9
  try dsimp only
  obtain ⟨q_8, q_9, q_10, q_11⟩ := h9
  refine ok_if (fun q_12 => ?_) (fun q_12 => ?_)
  · skip
    exact ok_some (hQ9 _ ⟨by clear hQ9; first | with_reducible assumption | (simp only [xl, xt, xe, xa, xb, xm, xg, ne_eq, Int32.reduceToInt] at * <;> omega) | grind, by clear hQ9; first | with_reducible assumption | (simp only [xl, xt, xe, xa, xb, xm, xg, ne_eq, Int32.reduceToInt] at * <;> omega) | grind, by clear hQ9; first | with_reducible assumption | (simp only [xl, xt, xe, xa, xb, xm, xg, ne_eq, Int32.reduceToInt] at * <;> omega) | grind⟩)
  · skip
    refine ok_if (fun q_13 => ?_) (fun q_13 => ?_)
    · skip
      exact ok_some (hQ9 _ ⟨by clear hQ9; first | with_reducible assumption | (simp only [xl, xt, xe, xa, xb, xm, xg, ne_eq, Int32.reduceToInt] at * <;> omega) | grind, by clear hQ9; first | with_reducible assumption | (simp only [xl, xt, xe, xa, xb, xm, xg, ne_eq, Int32.reduceToInt] at * <;> omega) | grind, by clear hQ9; first | with_reducible assumption | (simp only [xl, xt, xe, xa, xb, xm, xg, ne_eq, Int32.reduceToInt] at * <;> omega) | grind⟩)
    · skip
      refine ok_nl (fun v2_4 e_v2_4 => ?_)
      refine ok_gq (40 : Int32) (by decide) (by clear hQ9; first | with_reducible assumption | (simp only [xl, xt, xe, xa, xb, xm, xg, ne_eq, Int32.reduceToInt] at * <;> omega) | grind) (by clear hQ9; first | with_reducible assumption | (simp only [xl, xt, xe, xa, xb, xm, xg, ne_eq, Int32.reduceToInt] at * <;> omega) | grind) ?_
      have q_14 := (by assumption : R la_symbolOf (0 : Int32) (15 : Int32)) (v2_4).toNatClampNeg
      refine ok_bd (s_Dictionary_sampleCount (by assumption) (by assumption) (by clear hQ9; first | with_reducible assumption | (simp only [xl, xt, xe, xa, xb, xm, xg, ne_eq, Int32.reduceToInt] at * <;> omega) | grind)) (fun o9 h9 => ?_)
      obtain ⟨r_5, rfl⟩ : ∃ z9, z9 = o9 := ⟨_, rfl⟩
      have q_15 := h9
      clear h9
      refine ok_lp (fun s9 => ((0 : Int32) ≤ s9.1 ∧ s9.1 ≤ (65 : Int32)) ∧ ((0 : Int32) ≤ s9.2.2.1 ∧ s9.2.2.1 ≤ (16000 : Int32)) ∧ ((0 : Int32) ≤ s9.2.2.2.1 ∧ s9.2.2.2.1 ≤ (9 : Int32)) ∧ (0 : Int32) ≤ s9.2.1 ∧ s9.2.1 ≤ 8191 * s9.1 ∧ (s9.2.2.2.1 = 0 → rd_refusal = 0)) (fun s9 => 65 - s9.1) ⟨by clear hQ9; first | with_reducible assumption | (simp only [xl, xt, xe, xa, xb, xm, xg, ne_eq, Int32.reduceToInt] at * <;> omega) | grind, by clear hQ9; first | with_reducible assumption | (simp only [xl, xt, xe, xa, xb, xm, xg, ne_eq, Int32.reduceToInt] at * <;> omega) | grind, by clear hQ9; first | with_reducible assumption | (simp only [xl, xt, xe, xa, xb, xm, xg, ne_eq, Int32.reduceToInt] at * <;> omega) | grind, by clear hQ9; first | with_reducible assumption | (simp only [xl, xt, xe, xa, xb, xm, xg, ne_eq, Int32.reduceToInt] at * <;> omega) | grind, by clear hQ9; first | with_reducible assumption | (simp only [xl, xt, xe, xa, xb, xm, xg, ne_eq, Int32.reduceToInt] at * <;> omega) | grind, by clear hQ9; first | with_reducible assumption | (simp only [xl, xt, xe, xa, xb, xm, xg, ne_eq, Int32.reduceToInt] at * <;> omega) | grind⟩ ?_ ?_
      · intro s9 hs9; obtain ⟨v5_6, v4_7, rd_place_8, rd_refusal_9, la_differs_10⟩ := s9; try dsimp only at hs9; obtain ⟨q_16, q_17, q_18, q_19, q_20, q_21⟩ := hs9; exact ⟨by clear hQ9; (try dsimp only); first | with_reducible assumption | (simp only [xl, xt, xe, xa, xb, xm, xg, ne_eq, Int32.reduceToInt] at * <;> omega) | grind, by clear hQ9; (try dsimp only); first | with_reducible assumption | (simp only [xl, xt, xe, xa, xb, xm, xg, ne_eq, Int32.reduceToInt] at * <;> omega) | grind⟩
      intro self45 s9 hs9 ih_self45
      obtain ⟨v5_6, v4_7, rd_place_8, rd_refusal_9, la_differs_10⟩ := s9; try dsimp only at hs9; obtain ⟨q_16, q_17, q_18, q_19, q_20, q_21⟩ := hs9
      unfold f_Reader_readDiffers_L45
      try dsimp only
      try dsimp only at ih_self45
      refine ok_if (fun q_22 => ?_) (fun q_22 => ?_)
      · skip
        exact ok_some (hQ9 _ ⟨by clear hQ9 ih_self45; first | with_reducible assumption | (simp only [xl, xt, xe, xa, xb, xm, xg, ne_eq, Int32.reduceToInt] at * <;> omega) | grind, by clear hQ9 ih_self45; first | with_reducible assumption | (simp only [xl, xt, xe, xa, xb, xm, xg, ne_eq, Int32.reduceToInt] at * <;> omega) | grind, by clear hQ9 ih_self45; first | with_reducible assumption | (simp only [xl, xt, xe, xa, xb, xm, xg, ne_eq, Int32.reduceToInt] at * <;> omega) | grind⟩)
      · skip
        refine ok_if (fun q_23 => ?_) (fun q_23 => ?_)
        · skip
          exact ok_some (hQ9 _ ⟨by clear hQ9 ih_self45; first | with_reducible assumption | (simp only [xl, xt, xe, xa, xb, xm, xg, ne_eq, Int32.reduceToInt] at * <;> omega) | grind, by clear hQ9 ih_self45; first | with_reducible assumption | (simp only [xl, xt, xe, xa, xb, xm, xg, ne_eq, Int32.reduceToInt] at * <;> omega) | grind, by clear hQ9 ih_self45; first | with_reducible assumption | (simp only [xl, xt, xe, xa, xb, xm, xg, ne_eq, Int32.reduceToInt] at * <;> omega) | grind⟩)
        · skip
          refine ok_bd (s_BitReader_nextNumber (by clear hQ9 ih_self45; first | with_reducible assumption | (simp only [xl, xt, xe, xa, xb, xm, xg, ne_eq, Int32.reduceToInt] at * <;> omega) | grind) (by clear hQ9 ih_self45; first | with_reducible assumption | (simp only [xl, xt, xe, xa, xb, xm, xg, ne_eq, Int32.reduceToInt] at * <;> omega) | grind) (by clear hQ9 ih_self45; first | with_reducible assumption | (simp only [xl, xt, xe, xa, xb, xm, xg, ne_eq, Int32.reduceToInt] at * <;> omega) | grind)) (fun o9 h9 => ?_)
          obtain ⟨r_11, rd_place_12, rd_refusal_13⟩ := o9
          try dsimp only at h9
          try dsimp only
          obtain ⟨q_24, q_25, q_26, q_27⟩ := h9
          refine ok_jn (fun j9 => ∀ (rd_refusal_14 : Int32), ((0 : Int32) ≤ rd_refusal_14 ∧ rd_refusal_14 ≤ (9 : Int32)) → (rd_refusal_14 = 0 → rd_refusal = 0) → ok (j9 rd_refusal_14) Q9) ?_ (fun j94 h_j94 => ?_)
          · intro rd_refusal_14 q_28 q_29
            refine ok_bd (s_BitReader_isRefused (by clear hQ9 ih_self45; first | with_reducible assumption | (simp only [xl, xt, xe, xa, xb, xm, xg, ne_eq, Int32.reduceToInt] at * <;> omega) | grind)) (fun o9 h9 => ?_)
            obtain ⟨r_15, rfl⟩ : ∃ z9, z9 = o9 := ⟨_, rfl⟩
            obtain ⟨q_30, q_31⟩ := h9
            refine ok_if (fun q_32 => ?_) (fun q_32 => ?_)
            · skip
              refine ok_ex (fun k9 => lp (f_Reader_readDiffers_L109 v4_7 r_11 v5_6 v2_4 k9) FU (v4_7, la_differs_10)) (fun j9 => ∀ (la_differs_18 : (Nat → Int64)), ok (j9 la_differs_18) Q9) ?_ (fun k151 h_k151 => ?_)
              · intro la_differs_18
                refine ok_nl (fun v4_21 e_v4_21 => ?_)
                refine ok_nl (fun v5_22 e_v5_22 => ?_)
                exact ih_self45 (v5_22, v4_21, rd_place_12, rd_refusal_14, la_differs_18) ⟨by clear hQ9 ih_self45; first | with_reducible assumption | (simp only [xl, xt, xe, xa, xb, xm, xg, ne_eq, Int32.reduceToInt] at * <;> omega) | grind, by clear hQ9 ih_self45; first | with_reducible assumption | (simp only [xl, xt, xe, xa, xb, xm, xg, ne_eq, Int32.reduceToInt] at * <;> omega) | grind, by clear hQ9 ih_self45; first | with_reducible assumption | (simp only [xl, xt, xe, xa, xb, xm, xg, ne_eq, Int32.reduceToInt] at * <;> omega) | grind, by clear hQ9 ih_self45; first | with_reducible assumption | (simp only [xl, xt, xe, xa, xb, xm, xg, ne_eq, Int32.reduceToInt] at * <;> omega) | grind, by clear hQ9 ih_self45; first | with_reducible assumption | (simp only [xl, xt, xe, xa, xb, xm, xg, ne_eq, Int32.reduceToInt] at * <;> omega) | grind, by clear hQ9 ih_self45; first | with_reducible assumption | (simp only [xl, xt, xe, xa, xb, xm, xg, ne_eq, Int32.reduceToInt] at * <;> omega) | grind⟩ (by clear hQ9 ih_self45; (try dsimp only); first | with_reducible assumption | (simp only [xl, xt, xe, xa, xb, xm, xg, ne_eq, Int32.reduceToInt] at * <;> omega) | grind)
              refine ok_lp (fun s9 => ((0 : Int32) ≤ s9.1 ∧ s9.1 ≤ (1000000 : Int32)) ∧ s9.1 ≤ v4_7 + r_11) (fun s9 => v4_7 + r_11 - s9.1) ⟨by clear hQ9 ih_self45 h_k151; first | with_reducible assumption | (simp only [xl, xt, xe, xa, xb, xm, xg, ne_eq, Int32.reduceToInt] at * <;> omega) | grind, by clear hQ9 ih_self45 h_k151; first | with_reducible assumption | (simp only [xl, xt, xe, xa, xb, xm, xg, ne_eq, Int32.reduceToInt] at * <;> omega) | grind⟩ ?_ ?_
              · intro s9 hs9; obtain ⟨v7_16, la_differs_17⟩ := s9; try dsimp only at hs9; obtain ⟨q_33, q_34⟩ := hs9; exact ⟨by clear hQ9 ih_self45 h_k151; (try dsimp only); first | with_reducible assumption | (simp only [xl, xt, xe, xa, xb, xm, xg, ne_eq, Int32.reduceToInt] at * <;> omega) | grind, by clear hQ9 ih_self45 h_k151; (try dsimp only); first | with_reducible assumption | (simp only [xl, xt, xe, xa, xb, xm, xg, ne_eq, Int32.reduceToInt] at * <;> omega) | grind⟩
              intro self109 s9 hs9 ih_self109
              obtain ⟨v7_16, la_differs_17⟩ := s9; try dsimp only at hs9; obtain ⟨q_33, q_34⟩ := hs9
              unfold f_Reader_readDiffers_L109
              try dsimp only
              try dsimp only at ih_self109
              refine ok_if (fun q_35 => ?_) (fun q_35 => ?_)
              · skip
                exact h_k151 _
              · skip
                have q_36 := dv (a := v5_6) (2 : Int32) (by clear hQ9 ih_self45 h_k151 ih_self109; first | with_reducible assumption | (simp only [xl, xt, xe, xa, xb, xm, xg, ne_eq, Int32.reduceToInt] at * <;> omega) | grind) (by decide)
                refine ok_if (fun q_37 => ?_) (fun q_37 => ?_)
                · skip
                  refine ok_gq (40 : Int32) (by decide) (by clear hQ9 ih_self45 h_k151 ih_self109; first | with_reducible assumption | (simp only [xl, xt, xe, xa, xb, xm, xg, ne_eq, Int32.reduceToInt] at * <;> omega) | grind) (by clear hQ9 ih_self45 h_k151 ih_self109; first | with_reducible assumption | (simp only [xl, xt, xe, xa, xb, xm, xg, ne_eq, Int32.reduceToInt] at * <;> omega) | grind) ?_
                  refine ok_bd (s_Top_withBit) (fun o9 h9 => ?_)
                  obtain ⟨r_19, rfl⟩ : ∃ z9, z9 = o9 := ⟨_, rfl⟩
                  refine ok_gq (40 : Int32) (by decide) (by clear hQ9 ih_self45 h_k151 ih_self109; first | with_reducible assumption | (simp only [xl, xt, xe, xa, xb, xm, xg, ne_eq, Int32.reduceToInt] at * <;> omega) | grind) (by clear hQ9 ih_self45 h_k151 ih_self109; first | with_reducible assumption | (simp only [xl, xt, xe, xa, xb, xm, xg, ne_eq, Int32.reduceToInt] at * <;> omega) | grind) ?_
                  refine ok_nl (fun v7_20 e_v7_20 => ?_)
                  exact ih_self109 (v7_20, (vp_updL la_differs_17 (v2_4).toNatClampNeg r_19)) ⟨by clear hQ9 ih_self45 h_k151 ih_self109; first | with_reducible assumption | (simp only [xl, xt, xe, xa, xb, xm, xg, ne_eq, Int32.reduceToInt] at * <;> omega) | grind, by clear hQ9 ih_self45 h_k151 ih_self109; first | with_reducible assumption | (simp only [xl, xt, xe, xa, xb, xm, xg, ne_eq, Int32.reduceToInt] at * <;> omega) | grind⟩ (by clear hQ9 ih_self45 h_k151 ih_self109; (try dsimp only); first | with_reducible assumption | (simp only [xl, xt, xe, xa, xb, xm, xg, ne_eq, Int32.reduceToInt] at * <;> omega) | grind)
                · skip
                  exact h_k151 _
            · skip
              exact ok_some (hQ9 _ ⟨by clear hQ9 ih_self45; first | with_reducible assumption | (simp only [xl, xt, xe, xa, xb, xm, xg, ne_eq, Int32.reduceToInt] at * <;> omega) | grind, by clear hQ9 ih_self45; first | with_reducible assumption | (simp only [xl, xt, xe, xa, xb, xm, xg, ne_eq, Int32.reduceToInt] at * <;> omega) | grind, by clear hQ9 ih_self45; first | with_reducible assumption | (simp only [xl, xt, xe, xa, xb, xm, xg, ne_eq, Int32.reduceToInt] at * <;> omega) | grind⟩)
          refine ok_jn (fun j9 => ∀ (_ : Unit), ok (j9 ()) Q9) ?_ (fun j85 h_j85 => ?_)
          · intro _
            refine ok_bd (s_BitReader_refuse (by clear hQ9 ih_self45 h_j94; first | with_reducible assumption | (simp only [xl, xt, xe, xa, xb, xm, xg, ne_eq, Int32.reduceToInt] at * <;> omega) | grind) (by clear hQ9 ih_self45 h_j94; first | with_reducible assumption | (simp only [xl, xt, xe, xa, xb, xm, xg, ne_eq, Int32.reduceToInt] at * <;> omega) | grind)) (fun o9 h9 => ?_)
            obtain ⟨rd_refusal_23, rfl⟩ : ∃ z9, z9 = o9 := ⟨_, rfl⟩
            obtain ⟨q_38, q_39⟩ := h9
            exact h_j94 _ (by clear hQ9 ih_self45 h_j94; first | with_reducible assumption | (simp only [xl, xt, xe, xa, xb, xm, xg, ne_eq, Int32.reduceToInt] at * <;> omega) | grind) (by clear hQ9 ih_self45 h_j94; first | with_reducible assumption | (simp only [xl, xt, xe, xa, xb, xm, xg, ne_eq, Int32.reduceToInt] at * <;> omega) | grind)
          refine ok_if (fun q_40 => ?_) (fun q_40 => ?_)
          · skip
            exact h_j85 ()
          · skip
            refine ok_if (fun q_41 => ?_) (fun q_41 => ?_)
            · skip
              refine ok_if (fun q_42 => ?_) (fun q_42 => ?_)
              · skip
                exact h_j94 _ (by clear hQ9 ih_self45 h_j94 h_j85; first | with_reducible assumption | (simp only [xl, xt, xe, xa, xb, xm, xg, ne_eq, Int32.reduceToInt] at * <;> omega) | grind) (by clear hQ9 ih_self45 h_j94 h_j85; first | with_reducible assumption | (simp only [xl, xt, xe, xa, xb, xm, xg, ne_eq, Int32.reduceToInt] at * <;> omega) | grind)
              · skip
                exact h_j85 ()
            · skip
              exact h_j94 _ (by clear hQ9 ih_self45 h_j94 h_j85; first | with_reducible assumption | (simp only [xl, xt, xe, xa, xb, xm, xg, ne_eq, Int32.reduceToInt] at * <;> omega) | grind) (by clear hQ9 ih_self45 h_j94 h_j85; first | with_reducible assumption | (simp only [xl, xt, xe, xa, xb, xm, xg, ne_eq, Int32.reduceToInt] at * <;> omega) | grind)

set_option maxHeartbeats 4000000 in
set_option maxRecDepth 20000 in
theorem s_Reader_readPlaced_C {la_count : Int32} {la_ways : (Nat → Int32)} {rd_place : Int32} {rd_refusal : Int32} {cb_count : Int32} {cb_bytes : (Nat → Int32)} {di_count : Int32} {na_lengths : (Nat → Int32)} {na_codes : (Nat → Int32)} {di_widths : (Nat → Int32)} {di_heights : (Nat → Int32)} {la_symbolOf : (Nat → Int32)} {la_xs : (Nat → Int32)} {la_ys : (Nat → Int32)} {la_differs : (Nat → Int64)} {p1 : Int32} {p2 : Int32} (q_1 : ((0 : Int32) ≤ la_count ∧ la_count ≤ (40 : Int32))) (q_2 : R la_ways (0 : Int32) (7 : Int32)) (q_3 : ((0 : Int32) ≤ rd_place ∧ rd_place ≤ (16000 : Int32))) (q_4 : ((0 : Int32) ≤ rd_refusal ∧ rd_refusal ≤ (9 : Int32))) (q_5 : ((0 : Int32) ≤ cb_count ∧ cb_count ≤ (2000 : Int32))) (q_6 : ((0 : Int32) ≤ di_count ∧ di_count ≤ (16 : Int32))) (q_7 : R na_lengths (0 : Int32) (15 : Int32)) (q_8 : R di_widths (0 : Int32) (8 : Int32)) (q_9 : R di_heights (0 : Int32) (8 : Int32)) (q_10 : R la_symbolOf (0 : Int32) (15 : Int32)) (q_11 : R la_xs (-8 : Int32) (31 : Int32)) (q_12 : R la_ys (-8 : Int32) (31 : Int32)) : ok (f_Reader_readPlaced_C la_count la_ways rd_place rd_refusal cb_count cb_bytes di_count na_lengths na_codes di_widths di_heights la_symbolOf la_xs la_ys la_differs p1 p2) (fun o => ((0 : Int32) ≤ o.1 ∧ o.1 ≤ (40 : Int32)) ∧ ((0 : Int32) ≤ o.2.1 ∧ o.2.1 ≤ (16000 : Int32)) ∧ ((0 : Int32) ≤ o.2.2.1 ∧ o.2.2.1 ≤ (9 : Int32)) ∧ R o.2.2.2.1 (0 : Int32) (15 : Int32) ∧ R o.2.2.2.2.1 (-8 : Int32) (31 : Int32) ∧ R o.2.2.2.2.2.1 (-8 : Int32) (31 : Int32) ∧ (o.2.2.1 = 0 → rd_refusal = 0)) := by
  refine ok_Q (fun Q9 hQ9 => ?_)
  unfold f_Reader_readPlaced_C
  refine ok_gq (4 : Int32) (by decide) (by clear hQ9; first | with_reducible assumption | (simp only [xl, xt, xe, xa, xb, xm, xg, ne_eq, Int32.reduceToInt] at * <;> omega) | grind) (by clear hQ9; first | with_reducible assumption | (simp only [xl, xt, xe, xa, xb, xm, xg, ne_eq, Int32.reduceToInt] at * <;> omega) | grind) ?_
  have q_13 := (by assumption : R la_ways (0 : Int32) (7 : Int32)) ((2 : Int32)).toNatClampNeg
  refine ok_nl (fun v4_1 e_v4_1 => ?_)
  refine ok_bd (s_BitReader_nextBits (by clear hQ9; first | with_reducible assumption | (simp only [xl, xt, xe, xa, xb, xm, xg, ne_eq, Int32.reduceToInt] at * <;> omega) | grind) (by clear hQ9; first | with_reducible assumption | (simp only [xl, xt, xe, xa, xb, xm, xg, ne_eq, Int32.reduceToInt] at * <;> omega) | grind) (by clear hQ9; first | with_reducible assumption | (simp only [xl, xt, xe, xa, xb, xm, xg, ne_eq, Int32.reduceToInt] at * <;> omega) | grind) (by clear hQ9; first | with_reducible assumption | (simp only [xl, xt, xe, xa, xb, xm, xg, ne_eq, Int32.reduceToInt] at * <;> omega) | grind)) (fun o9 h9 => ?_)
  obtain ⟨r_2, rd_place_3, rd_refusal_4⟩ := o9
  try dsimp only at h9
  try dsimp only
  obtain ⟨q_14, q_15, q_16, q_17, q_18⟩ := h9
  refine ok_nl (fun v5_5 e_v5_5 => ?_)
  refine ok_bd (s_CodeNames_readName (by clear hQ9; first | with_reducible assumption | (simp only [xl, xt, xe, xa, xb, xm, xg, ne_eq, Int32.reduceToInt] at * <;> omega) | grind) (by clear hQ9; first | with_reducible assumption | (simp only [xl, xt, xe, xa, xb, xm, xg, ne_eq, Int32.reduceToInt] at * <;> omega) | grind) (by clear hQ9; first | with_reducible assumption | (simp only [xl, xt, xe, xa, xb, xm, xg, ne_eq, Int32.reduceToInt] at * <;> omega) | grind) (by assumption) (by clear hQ9; first | with_reducible assumption | (simp only [xl, xt, xe, xa, xb, xm, xg, ne_eq, Int32.reduceToInt] at * <;> omega) | grind)) (fun o9 h9 => ?_)
  obtain ⟨r_6, rd_place_7, rd_refusal_8⟩ := o9
  try dsimp only at h9
  try dsimp only
  obtain ⟨q_19, q_20, q_21, q_22⟩ := h9
  refine ok_bd (s_BitReader_isRefused (by clear hQ9; first | with_reducible assumption | (simp only [xl, xt, xe, xa, xb, xm, xg, ne_eq, Int32.reduceToInt] at * <;> omega) | grind)) (fun o9 h9 => ?_)
  obtain ⟨r_9, rfl⟩ : ∃ z9, z9 = o9 := ⟨_, rfl⟩
  obtain ⟨q_23, q_24⟩ := h9
  refine ok_if (fun q_25 => ?_) (fun q_25 => ?_)
  · skip
    refine ok_bd (s_Layout_addByCorner (by clear hQ9; first | with_reducible assumption | (simp only [xl, xt, xe, xa, xb, xm, xg, ne_eq, Int32.reduceToInt] at * <;> omega) | grind) (by assumption) (by assumption) (by assumption) (by assumption) (by assumption) (by assumption) (by clear hQ9; first | with_reducible assumption | (simp only [xl, xt, xe, xa, xb, xm, xg, ne_eq, Int32.reduceToInt] at * <;> omega) | grind)) (fun o9 h9 => ?_)
    obtain ⟨r_10, la_count_11, la_symbolOf_12, la_xs_13, la_ys_14, la_differs_15⟩ := o9
    try dsimp only at h9
    try dsimp only
    obtain ⟨q_26, q_27, q_28, q_29, q_30, q_31⟩ := h9
    refine ok_if (fun q_32 => ?_) (fun q_32 => ?_)
    · skip
      refine ok_bd (s_BitReader_refuse (by clear hQ9; first | with_reducible assumption | (simp only [xl, xt, xe, xa, xb, xm, xg, ne_eq, Int32.reduceToInt] at * <;> omega) | grind) (by clear hQ9; first | with_reducible assumption | (simp only [xl, xt, xe, xa, xb, xm, xg, ne_eq, Int32.reduceToInt] at * <;> omega) | grind)) (fun o9 h9 => ?_)
      obtain ⟨rd_refusal_16, rfl⟩ : ∃ z9, z9 = o9 := ⟨_, rfl⟩
      obtain ⟨q_33, q_34⟩ := h9
      exact ok_some (hQ9 _ ⟨by clear hQ9; first | with_reducible assumption | (simp only [xl, xt, xe, xa, xb, xm, xg, ne_eq, Int32.reduceToInt] at * <;> omega) | grind, by clear hQ9; first | with_reducible assumption | (simp only [xl, xt, xe, xa, xb, xm, xg, ne_eq, Int32.reduceToInt] at * <;> omega) | grind, by clear hQ9; first | with_reducible assumption | (simp only [xl, xt, xe, xa, xb, xm, xg, ne_eq, Int32.reduceToInt] at * <;> omega) | grind, by assumption, by assumption, by assumption, by clear hQ9; first | with_reducible assumption | (simp only [xl, xt, xe, xa, xb, xm, xg, ne_eq, Int32.reduceToInt] at * <;> omega) | grind⟩)
    · skip
      exact ok_some (hQ9 _ ⟨by clear hQ9; first | with_reducible assumption | (simp only [xl, xt, xe, xa, xb, xm, xg, ne_eq, Int32.reduceToInt] at * <;> omega) | grind, by clear hQ9; first | with_reducible assumption | (simp only [xl, xt, xe, xa, xb, xm, xg, ne_eq, Int32.reduceToInt] at * <;> omega) | grind, by clear hQ9; first | with_reducible assumption | (simp only [xl, xt, xe, xa, xb, xm, xg, ne_eq, Int32.reduceToInt] at * <;> omega) | grind, by assumption, by assumption, by assumption, by clear hQ9; first | with_reducible assumption | (simp only [xl, xt, xe, xa, xb, xm, xg, ne_eq, Int32.reduceToInt] at * <;> omega) | grind⟩)
  · skip
    exact ok_some (hQ9 _ ⟨by clear hQ9; first | with_reducible assumption | (simp only [xl, xt, xe, xa, xb, xm, xg, ne_eq, Int32.reduceToInt] at * <;> omega) | grind, by clear hQ9; first | with_reducible assumption | (simp only [xl, xt, xe, xa, xb, xm, xg, ne_eq, Int32.reduceToInt] at * <;> omega) | grind, by clear hQ9; first | with_reducible assumption | (simp only [xl, xt, xe, xa, xb, xm, xg, ne_eq, Int32.reduceToInt] at * <;> omega) | grind, by assumption, by assumption, by assumption, by clear hQ9; first | with_reducible assumption | (simp only [xl, xt, xe, xa, xb, xm, xg, ne_eq, Int32.reduceToInt] at * <;> omega) | grind⟩)

set_option maxHeartbeats 4000000 in
set_option maxRecDepth 20000 in
theorem s_Reader_readInstances_C {la_count : Int32} {rd_place : Int32} {rd_refusal : Int32} {la_ways : (Nat → Int32)} {cb_count : Int32} {cb_bytes : (Nat → Int32)} {di_count : Int32} {na_lengths : (Nat → Int32)} {na_codes : (Nat → Int32)} {di_widths : (Nat → Int32)} {di_heights : (Nat → Int32)} {la_symbolOf : (Nat → Int32)} {la_xs : (Nat → Int32)} {la_ys : (Nat → Int32)} {la_differs : (Nat → Int64)} {p1 : Int32} (q_1 : ((0 : Int32) ≤ la_count ∧ la_count ≤ (40 : Int32))) (q_2 : ((0 : Int32) ≤ rd_place ∧ rd_place ≤ (16000 : Int32))) (q_3 : ((0 : Int32) ≤ rd_refusal ∧ rd_refusal ≤ (9 : Int32))) (q_4 : R la_ways (0 : Int32) (7 : Int32)) (q_5 : ((0 : Int32) ≤ cb_count ∧ cb_count ≤ (2000 : Int32))) (q_6 : ((0 : Int32) ≤ di_count ∧ di_count ≤ (16 : Int32))) (q_7 : R na_lengths (0 : Int32) (15 : Int32)) (q_8 : R di_widths (0 : Int32) (8 : Int32)) (q_9 : R di_heights (0 : Int32) (8 : Int32)) (q_10 : R la_symbolOf (0 : Int32) (15 : Int32)) (q_11 : R la_xs (-8 : Int32) (31 : Int32)) (q_12 : R la_ys (-8 : Int32) (31 : Int32)) (q_13 : ((0 : Int32) ≤ p1 ∧ p1 ≤ (8191 : Int32))) (q_14 : (rd_refusal = 0 → p1 ≤ (40 : Int32))) : ok (f_Reader_readInstances_C la_count rd_place rd_refusal la_ways cb_count cb_bytes di_count na_lengths na_codes di_widths di_heights la_symbolOf la_xs la_ys la_differs p1) (fun o => ((0 : Int32) ≤ o.1 ∧ o.1 ≤ (40 : Int32)) ∧ ((0 : Int32) ≤ o.2.1 ∧ o.2.1 ≤ (16000 : Int32)) ∧ ((0 : Int32) ≤ o.2.2.1 ∧ o.2.2.1 ≤ (9 : Int32)) ∧ R o.2.2.2.1 (0 : Int32) (15 : Int32) ∧ R o.2.2.2.2.1 (-8 : Int32) (31 : Int32) ∧ R o.2.2.2.2.2.1 (-8 : Int32) (31 : Int32)) := by
  refine ok_Q (fun Q9 hQ9 => ?_)
  unfold f_Reader_readInstances_C
  refine ok_ex (fun k9 => lp (f_Reader_readInstances_C_L12 p1 la_ways cb_count cb_bytes di_count na_lengths na_codes di_widths di_heights k9) FU ((0 : Int32), (0 : Int32), (0 : Int32), (-17 : Int32), la_count, rd_place, rd_refusal, la_symbolOf, la_xs, la_ys, la_differs)) (fun j9 => ∀ (v5_12 : Int32) (la_count_13 : Int32) (rd_place_14 : Int32) (rd_refusal_15 : Int32) (la_symbolOf_16 : (Nat → Int32)) (la_xs_17 : (Nat → Int32)) (la_ys_18 : (Nat → Int32)) (la_differs_19 : (Nat → Int64)), ((0 : Int32) ≤ v5_12 ∧ v5_12 ≤ (1 : Int32)) → ((0 : Int32) ≤ la_count_13 ∧ la_count_13 ≤ (40 : Int32)) → ((0 : Int32) ≤ rd_place_14 ∧ rd_place_14 ≤ (16000 : Int32)) → ((0 : Int32) ≤ rd_refusal_15 ∧ rd_refusal_15 ≤ (9 : Int32)) → R la_symbolOf_16 (0 : Int32) (15 : Int32) → R la_xs_17 (-8 : Int32) (31 : Int32) → R la_ys_18 (-8 : Int32) (31 : Int32) → ok (j9 v5_12 la_count_13 rd_place_14 rd_refusal_15 la_symbolOf_16 la_xs_17 la_ys_18 la_differs_19) Q9) ?_ (fun k119 h_k119 => ?_)
  · intro v5_12 la_count_13 rd_place_14 rd_refusal_15 la_symbolOf_16 la_xs_17 la_ys_18 la_differs_19 q_15 q_16 q_17 q_18 q_19 q_20 q_21
    refine ok_if (fun q_22 => ?_) (fun q_22 => ?_)
    · skip
      exact ok_some (hQ9 _ ⟨by clear hQ9; first | with_reducible assumption | (simp only [xl, xt, xe, xa, xb, xm, xg, ne_eq, Int32.reduceToInt] at * <;> omega) | grind, by clear hQ9; first | with_reducible assumption | (simp only [xl, xt, xe, xa, xb, xm, xg, ne_eq, Int32.reduceToInt] at * <;> omega) | grind, by clear hQ9; first | with_reducible assumption | (simp only [xl, xt, xe, xa, xb, xm, xg, ne_eq, Int32.reduceToInt] at * <;> omega) | grind, by assumption, by assumption, by assumption⟩)
    · skip
      refine ok_bd (s_BitReader_refuse (by clear hQ9; first | with_reducible assumption | (simp only [xl, xt, xe, xa, xb, xm, xg, ne_eq, Int32.reduceToInt] at * <;> omega) | grind) (by clear hQ9; first | with_reducible assumption | (simp only [xl, xt, xe, xa, xb, xm, xg, ne_eq, Int32.reduceToInt] at * <;> omega) | grind)) (fun o9 h9 => ?_)
      obtain ⟨rd_refusal_54, rfl⟩ : ∃ z9, z9 = o9 := ⟨_, rfl⟩
      obtain ⟨q_23, q_24⟩ := h9
      exact ok_some (hQ9 _ ⟨by clear hQ9; first | with_reducible assumption | (simp only [xl, xt, xe, xa, xb, xm, xg, ne_eq, Int32.reduceToInt] at * <;> omega) | grind, by clear hQ9; first | with_reducible assumption | (simp only [xl, xt, xe, xa, xb, xm, xg, ne_eq, Int32.reduceToInt] at * <;> omega) | grind, by clear hQ9; first | with_reducible assumption | (simp only [xl, xt, xe, xa, xb, xm, xg, ne_eq, Int32.reduceToInt] at * <;> omega) | grind, by assumption, by assumption, by assumption⟩)
  refine ok_lp (fun s9 => ((0 : Int32) ≤ s9.1 ∧ s9.1 ≤ (8191 : Int32)) ∧ ((0 : Int32) ≤ s9.2.1 ∧ s9.2.1 ≤ (1 : Int32)) ∧ ((0 : Int32) ≤ s9.2.2.2.2.1 ∧ s9.2.2.2.2.1 ≤ (40 : Int32)) ∧ ((0 : Int32) ≤ s9.2.2.2.2.2.1 ∧ s9.2.2.2.2.2.1 ≤ (16000 : Int32)) ∧ ((0 : Int32) ≤ s9.2.2.2.2.2.2.1 ∧ s9.2.2.2.2.2.2.1 ≤ (9 : Int32)) ∧ R s9.2.2.2.2.2.2.2.1 (0 : Int32) (15 : Int32) ∧ R s9.2.2.2.2.2.2.2.2.1 (-8 : Int32) (31 : Int32) ∧ R s9.2.2.2.2.2.2.2.2.2.1 (-8 : Int32) (31 : Int32) ∧ (s9.2.2.2.2.2.2.1 = 0 → p1 ≤ (40 : Int32)) ∧ (s9.2.1 = 1 → (1 : Int32) ≤ s9.1) ∧ s9.1 ≤ p1) (fun s9 => 8191 - s9.1) ⟨by clear hQ9 h_k119; first | with_reducible assumption | (simp only [xl, xt, xe, xa, xb, xm, xg, ne_eq, Int32.reduceToInt] at * <;> omega) | grind, by clear hQ9 h_k119; first | with_reducible assumption | (simp only [xl, xt, xe, xa, xb, xm, xg, ne_eq, Int32.reduceToInt] at * <;> omega) | grind, by clear hQ9 h_k119; first | with_reducible assumption | (simp only [xl, xt, xe, xa, xb, xm, xg, ne_eq, Int32.reduceToInt] at * <;> omega) | grind, by clear hQ9 h_k119; first | with_reducible assumption | (simp only [xl, xt, xe, xa, xb, xm, xg, ne_eq, Int32.reduceToInt] at * <;> omega) | grind, by clear hQ9 h_k119; first | with_reducible assumption | (simp only [xl, xt, xe, xa, xb, xm, xg, ne_eq, Int32.reduceToInt] at * <;> omega) | grind, by assumption, by assumption, by assumption, by clear hQ9 h_k119; first | with_reducible assumption | (simp only [xl, xt, xe, xa, xb, xm, xg, ne_eq, Int32.reduceToInt] at * <;> omega) | grind, by clear hQ9 h_k119; first | with_reducible assumption | (simp only [xl, xt, xe, xa, xb, xm, xg, ne_eq, Int32.reduceToInt] at * <;> omega) | grind, by clear hQ9 h_k119; first | with_reducible assumption | (simp only [xl, xt, xe, xa, xb, xm, xg, ne_eq, Int32.reduceToInt] at * <;> omega) | grind⟩ ?_ ?_
  · intro s9 hs9; obtain ⟨v6_1, v5_2, v4_3, v3_4, la_count_5, rd_place_6, rd_refusal_7, la_symbolOf_8, la_xs_9, la_ys_10, la_differs_11⟩ := s9; try dsimp only at hs9; obtain ⟨q_25, q_26, q_27, q_28, q_29, q_30, q_31, q_32, q_33, q_34, q_35⟩ := hs9; exact ⟨by clear hQ9 h_k119; (try dsimp only); first | with_reducible assumption | (simp only [xl, xt, xe, xa, xb, xm, xg, ne_eq, Int32.reduceToInt] at * <;> omega) | grind, by clear hQ9 h_k119; (try dsimp only); first | with_reducible assumption | (simp only [xl, xt, xe, xa, xb, xm, xg, ne_eq, Int32.reduceToInt] at * <;> omega) | grind⟩
  intro self12 s9 hs9 ih_self12
  obtain ⟨v6_1, v5_2, v4_3, v3_4, la_count_5, rd_place_6, rd_refusal_7, la_symbolOf_8, la_xs_9, la_ys_10, la_differs_11⟩ := s9; try dsimp only at hs9; obtain ⟨q_25, q_26, q_27, q_28, q_29, q_30, q_31, q_32, q_33, q_34, q_35⟩ := hs9
  unfold f_Reader_readInstances_C_L12
  try dsimp only
  try dsimp only at ih_self12
  refine ok_if (fun q_36 => ?_) (fun q_36 => ?_)
  · skip
    exact h_k119 _ _ _ _ _ _ _ _ (by clear hQ9 h_k119 ih_self12; first | with_reducible assumption | (simp only [xl, xt, xe, xa, xb, xm, xg, ne_eq, Int32.reduceToInt] at * <;> omega) | grind) (by clear hQ9 h_k119 ih_self12; first | with_reducible assumption | (simp only [xl, xt, xe, xa, xb, xm, xg, ne_eq, Int32.reduceToInt] at * <;> omega) | grind) (by clear hQ9 h_k119 ih_self12; first | with_reducible assumption | (simp only [xl, xt, xe, xa, xb, xm, xg, ne_eq, Int32.reduceToInt] at * <;> omega) | grind) (by clear hQ9 h_k119 ih_self12; first | with_reducible assumption | (simp only [xl, xt, xe, xa, xb, xm, xg, ne_eq, Int32.reduceToInt] at * <;> omega) | grind) (by assumption) (by assumption) (by assumption)
  · skip
    refine ok_bd (s_BitReader_isRefused (by clear hQ9 h_k119 ih_self12; first | with_reducible assumption | (simp only [xl, xt, xe, xa, xb, xm, xg, ne_eq, Int32.reduceToInt] at * <;> omega) | grind)) (fun o9 h9 => ?_)
    obtain ⟨r_20, rfl⟩ : ∃ z9, z9 = o9 := ⟨_, rfl⟩
    obtain ⟨q_37, q_38⟩ := h9
    refine ok_if (fun q_39 => ?_) (fun q_39 => ?_)
    · skip
      refine ok_jn (fun j9 => ∀ (v4_21 : Int32) (v3_22 : Int32) (v7_23 : Int32) (rd_place_24 : Int32) (rd_refusal_25 : Int32), ((0 : Int32) ≤ rd_place_24 ∧ rd_place_24 ≤ (16000 : Int32)) → ((0 : Int32) ≤ rd_refusal_25 ∧ rd_refusal_25 ≤ (9 : Int32)) → ok (j9 v4_21 v3_22 v7_23 rd_place_24 rd_refusal_25) Q9) ?_ (fun j82 h_j82 => ?_)
      · intro v4_21 v3_22 v7_23 rd_place_24 rd_refusal_25 q_40 q_41
        refine ok_bd (s_Reader_readPlaced_C (by clear hQ9 h_k119 ih_self12; first | with_reducible assumption | (simp only [xl, xt, xe, xa, xb, xm, xg, ne_eq, Int32.reduceToInt] at * <;> omega) | grind) (by assumption) (by clear hQ9 h_k119 ih_self12; first | with_reducible assumption | (simp only [xl, xt, xe, xa, xb, xm, xg, ne_eq, Int32.reduceToInt] at * <;> omega) | grind) (by clear hQ9 h_k119 ih_self12; first | with_reducible assumption | (simp only [xl, xt, xe, xa, xb, xm, xg, ne_eq, Int32.reduceToInt] at * <;> omega) | grind) (by clear hQ9 h_k119 ih_self12; first | with_reducible assumption | (simp only [xl, xt, xe, xa, xb, xm, xg, ne_eq, Int32.reduceToInt] at * <;> omega) | grind) (by clear hQ9 h_k119 ih_self12; first | with_reducible assumption | (simp only [xl, xt, xe, xa, xb, xm, xg, ne_eq, Int32.reduceToInt] at * <;> omega) | grind) (by assumption) (by assumption) (by assumption) (by assumption) (by assumption) (by assumption)) (fun o9 h9 => ?_)
        obtain ⟨la_count_26, rd_place_27, rd_refusal_28, la_symbolOf_29, la_xs_30, la_ys_31, la_differs_32⟩ := o9
        try dsimp only at h9
        try dsimp only
        obtain ⟨q_42, q_43, q_44, q_45, q_46, q_47, q_48⟩ := h9
        refine ok_bd (s_Reader_readDiffers (by clear hQ9 h_k119 ih_self12; first | with_reducible assumption | (simp only [xl, xt, xe, xa, xb, xm, xg, ne_eq, Int32.reduceToInt] at * <;> omega) | grind) (by clear hQ9 h_k119 ih_self12; first | with_reducible assumption | (simp only [xl, xt, xe, xa, xb, xm, xg, ne_eq, Int32.reduceToInt] at * <;> omega) | grind) (by clear hQ9 h_k119 ih_self12; first | with_reducible assumption | (simp only [xl, xt, xe, xa, xb, xm, xg, ne_eq, Int32.reduceToInt] at * <;> omega) | grind) (by clear hQ9 h_k119 ih_self12; first | with_reducible assumption | (simp only [xl, xt, xe, xa, xb, xm, xg, ne_eq, Int32.reduceToInt] at * <;> omega) | grind) (by assumption) (by assumption) (by assumption)) (fun o9 h9 => ?_)
        obtain ⟨rd_place_33, rd_refusal_34, la_differs_35⟩ := o9
        try dsimp only at h9
        try dsimp only
        obtain ⟨q_49, q_50, q_51⟩ := h9
        refine ok_bd (s_BitReader_nextBit (by clear hQ9 h_k119 ih_self12; first | with_reducible assumption | (simp only [xl, xt, xe, xa, xb, xm, xg, ne_eq, Int32.reduceToInt] at * <;> omega) | grind) (by clear hQ9 h_k119 ih_self12; first | with_reducible assumption | (simp only [xl, xt, xe, xa, xb, xm, xg, ne_eq, Int32.reduceToInt] at * <;> omega) | grind) (by clear hQ9 h_k119 ih_self12; first | with_reducible assumption | (simp only [xl, xt, xe, xa, xb, xm, xg, ne_eq, Int32.reduceToInt] at * <;> omega) | grind)) (fun o9 h9 => ?_)
        obtain ⟨r_36, rd_place_37, rd_refusal_38⟩ := o9
        try dsimp only at h9
        try dsimp only
        obtain ⟨q_52, q_53, q_54, q_55⟩ := h9
        refine ok_jn (fun j9 => ∀ (s_39 : Int32), ((0 : Int32) ≤ s_39 ∧ s_39 ≤ (1 : Int32)) → ok (j9 s_39) Q9) ?_ (fun j111 h_j111 => ?_)
        · intro s_39 q_56
          refine ok_nl (fun v6_40 e_v6_40 => ?_)
          exact ih_self12 (v6_40, s_39, v4_21, v3_22, la_count_26, rd_place_37, rd_refusal_38, la_symbolOf_29, la_xs_30, la_ys_31, la_differs_35) ⟨by clear hQ9 h_k119 ih_self12; first | with_reducible assumption | (simp only [xl, xt, xe, xa, xb, xm, xg, ne_eq, Int32.reduceToInt] at * <;> omega) | grind, by clear hQ9 h_k119 ih_self12; first | with_reducible assumption | (simp only [xl, xt, xe, xa, xb, xm, xg, ne_eq, Int32.reduceToInt] at * <;> omega) | grind, by clear hQ9 h_k119 ih_self12; first | with_reducible assumption | (simp only [xl, xt, xe, xa, xb, xm, xg, ne_eq, Int32.reduceToInt] at * <;> omega) | grind, by clear hQ9 h_k119 ih_self12; first | with_reducible assumption | (simp only [xl, xt, xe, xa, xb, xm, xg, ne_eq, Int32.reduceToInt] at * <;> omega) | grind, by clear hQ9 h_k119 ih_self12; first | with_reducible assumption | (simp only [xl, xt, xe, xa, xb, xm, xg, ne_eq, Int32.reduceToInt] at * <;> omega) | grind, by assumption, by assumption, by assumption, by clear hQ9 h_k119 ih_self12; first | with_reducible assumption | (simp only [xl, xt, xe, xa, xb, xm, xg, ne_eq, Int32.reduceToInt] at * <;> omega) | grind, by clear hQ9 h_k119 ih_self12; first | with_reducible assumption | (simp only [xl, xt, xe, xa, xb, xm, xg, ne_eq, Int32.reduceToInt] at * <;> omega) | grind, by clear hQ9 h_k119 ih_self12; first | with_reducible assumption | (simp only [xl, xt, xe, xa, xb, xm, xg, ne_eq, Int32.reduceToInt] at * <;> omega) | grind⟩ (by clear hQ9 h_k119 ih_self12; (try dsimp only); first | with_reducible assumption | (simp only [xl, xt, xe, xa, xb, xm, xg, ne_eq, Int32.reduceToInt] at * <;> omega) | grind)
        refine ok_if (fun q_57 => ?_) (fun q_57 => ?_)
        · skip
          exact h_j111 _ (by clear hQ9 h_k119 ih_self12 h_j111; first | with_reducible assumption | (simp only [xl, xt, xe, xa, xb, xm, xg, ne_eq, Int32.reduceToInt] at * <;> omega) | grind)
        · skip
          exact h_j111 _ (by clear hQ9 h_k119 ih_self12 h_j111; first | with_reducible assumption | (simp only [xl, xt, xe, xa, xb, xm, xg, ne_eq, Int32.reduceToInt] at * <;> omega) | grind)
      refine ok_if (fun q_58 => ?_) (fun q_58 => ?_)
      · skip
        refine ok_bd (s_BitReader_nextNumber (by clear hQ9 h_k119 ih_self12 h_j82; first | with_reducible assumption | (simp only [xl, xt, xe, xa, xb, xm, xg, ne_eq, Int32.reduceToInt] at * <;> omega) | grind) (by clear hQ9 h_k119 ih_self12 h_j82; first | with_reducible assumption | (simp only [xl, xt, xe, xa, xb, xm, xg, ne_eq, Int32.reduceToInt] at * <;> omega) | grind) (by clear hQ9 h_k119 ih_self12 h_j82; first | with_reducible assumption | (simp only [xl, xt, xe, xa, xb, xm, xg, ne_eq, Int32.reduceToInt] at * <;> omega) | grind)) (fun o9 h9 => ?_)
        obtain ⟨r_41, rd_place_42, rd_refusal_43⟩ := o9
        try dsimp only at h9
        try dsimp only
        obtain ⟨q_59, q_60, q_61, q_62⟩ := h9
        refine ok_nl (fun v3_44 e_v3_44 => ?_)
        refine ok_bd (s_BitReader_nextSigned (by clear hQ9 h_k119 ih_self12 h_j82; first | with_reducible assumption | (simp only [xl, xt, xe, xa, xb, xm, xg, ne_eq, Int32.reduceToInt] at * <;> omega) | grind) (by clear hQ9 h_k119 ih_self12 h_j82; first | with_reducible assumption | (simp only [xl, xt, xe, xa, xb, xm, xg, ne_eq, Int32.reduceToInt] at * <;> omega) | grind) (by clear hQ9 h_k119 ih_self12 h_j82; first | with_reducible assumption | (simp only [xl, xt, xe, xa, xb, xm, xg, ne_eq, Int32.reduceToInt] at * <;> omega) | grind)) (fun o9 h9 => ?_)
        obtain ⟨r_45, rd_place_46, rd_refusal_47⟩ := o9
        try dsimp only at h9
        try dsimp only
        obtain ⟨q_63, q_64, q_65⟩ := h9
        refine ok_nl (fun v7_48 e_v7_48 => ?_)
        exact h_j82 _ _ _ _ _ (by clear hQ9 h_k119 ih_self12 h_j82; first | with_reducible assumption | (simp only [xl, xt, xe, xa, xb, xm, xg, ne_eq, Int32.reduceToInt] at * <;> omega) | grind) (by clear hQ9 h_k119 ih_self12 h_j82; first | with_reducible assumption | (simp only [xl, xt, xe, xa, xb, xm, xg, ne_eq, Int32.reduceToInt] at * <;> omega) | grind)
      · skip
        refine ok_bd (s_Layout_nextS (by assumption) (by assumption) (by assumption) (by assumption) (by assumption) (by assumption) (by clear hQ9 h_k119 ih_self12 h_j82; first | with_reducible assumption | (simp only [xl, xt, xe, xa, xb, xm, xg, ne_eq, Int32.reduceToInt] at * <;> omega) | grind)) (fun o9 h9 => ?_)
        obtain ⟨r_49, rfl⟩ : ∃ z9, z9 = o9 := ⟨_, rfl⟩
        have q_66 := h9
        clear h9
        refine ok_bd (s_BitReader_nextSigned (by clear hQ9 h_k119 ih_self12 h_j82; first | with_reducible assumption | (simp only [xl, xt, xe, xa, xb, xm, xg, ne_eq, Int32.reduceToInt] at * <;> omega) | grind) (by clear hQ9 h_k119 ih_self12 h_j82; first | with_reducible assumption | (simp only [xl, xt, xe, xa, xb, xm, xg, ne_eq, Int32.reduceToInt] at * <;> omega) | grind) (by clear hQ9 h_k119 ih_self12 h_j82; first | with_reducible assumption | (simp only [xl, xt, xe, xa, xb, xm, xg, ne_eq, Int32.reduceToInt] at * <;> omega) | grind)) (fun o9 h9 => ?_)
        obtain ⟨r_50, rd_place_51, rd_refusal_52⟩ := o9
        try dsimp only at h9
        try dsimp only
        obtain ⟨q_67, q_68, q_69⟩ := h9
        refine ok_nl (fun v7_53 e_v7_53 => ?_)
        exact h_j82 _ _ _ _ _ (by clear hQ9 h_k119 ih_self12 h_j82; first | with_reducible assumption | (simp only [xl, xt, xe, xa, xb, xm, xg, ne_eq, Int32.reduceToInt] at * <;> omega) | grind) (by clear hQ9 h_k119 ih_self12 h_j82; first | with_reducible assumption | (simp only [xl, xt, xe, xa, xb, xm, xg, ne_eq, Int32.reduceToInt] at * <;> omega) | grind)
    · skip
      exact h_k119 _ _ _ _ _ _ _ _ (by clear hQ9 h_k119 ih_self12; first | with_reducible assumption | (simp only [xl, xt, xe, xa, xb, xm, xg, ne_eq, Int32.reduceToInt] at * <;> omega) | grind) (by clear hQ9 h_k119 ih_self12; first | with_reducible assumption | (simp only [xl, xt, xe, xa, xb, xm, xg, ne_eq, Int32.reduceToInt] at * <;> omega) | grind) (by clear hQ9 h_k119 ih_self12; first | with_reducible assumption | (simp only [xl, xt, xe, xa, xb, xm, xg, ne_eq, Int32.reduceToInt] at * <;> omega) | grind) (by clear hQ9 h_k119 ih_self12; first | with_reducible assumption | (simp only [xl, xt, xe, xa, xb, xm, xg, ne_eq, Int32.reduceToInt] at * <;> omega) | grind) (by assumption) (by assumption) (by assumption)

set_option maxHeartbeats 4000000 in
set_option maxRecDepth 20000 in
theorem s_Reader_readAll_C {la_ways : (Nat → Int32)} {cb_count : Int32} {cb_bytes : (Nat → Int32)} {na_lengths : (Nat → Int32)} {di_count : Int32} {na_codes : (Nat → Int32)} {di_widths : (Nat → Int32)} {di_heights : (Nat → Int32)} {la_symbolOf : (Nat → Int32)} {la_xs : (Nat → Int32)} {la_ys : (Nat → Int32)} {la_differs : (Nat → Int64)} (q_1 : R la_ways (0 : Int32) (7 : Int32)) (q_2 : ((0 : Int32) ≤ cb_count ∧ cb_count ≤ (2000 : Int32))) (q_3 : R na_lengths (0 : Int32) (15 : Int32)) (q_4 : ((0 : Int32) ≤ di_count ∧ di_count ≤ (16 : Int32))) (q_5 : R di_widths (0 : Int32) (8 : Int32)) (q_6 : R di_heights (0 : Int32) (8 : Int32)) (q_7 : R la_symbolOf (0 : Int32) (15 : Int32)) (q_8 : R la_xs (-8 : Int32) (31 : Int32)) (q_9 : R la_ys (-8 : Int32) (31 : Int32)) : ok (f_Reader_readAll_C la_ways cb_count cb_bytes na_lengths di_count na_codes di_widths di_heights la_symbolOf la_xs la_ys la_differs) (fun o => ((0 : Int32) ≤ o.1 ∧ o.1 ≤ (9 : Int32)) ∧ ((0 : Int32) ≤ o.2.1 ∧ o.2.1 ≤ (40 : Int32)) ∧ ((0 : Int32) ≤ o.2.2.1 ∧ o.2.2.1 ≤ (16000 : Int32)) ∧ ((0 : Int32) ≤ o.2.2.2.1 ∧ o.2.2.2.1 ≤ (9 : Int32)) ∧ R o.2.2.2.2.1 (0 : Int32) (7 : Int32) ∧ R o.2.2.2.2.2.1 (0 : Int32) (15 : Int32) ∧ R o.2.2.2.2.2.2.2.1 (0 : Int32) (15 : Int32) ∧ R o.2.2.2.2.2.2.2.2.1 (-8 : Int32) (31 : Int32) ∧ R o.2.2.2.2.2.2.2.2.2.1 (-8 : Int32) (31 : Int32)) := by
  refine ok_Q (fun Q9 hQ9 => ?_)
  unfold f_Reader_readAll_C
  refine ok_bd (s_BitReader_start) (fun o9 h9 => ?_)
  obtain ⟨rd_place_1, rd_refusal_2⟩ := o9
  try dsimp only at h9
  try dsimp only
  obtain ⟨q_10, q_11, q_12⟩ := h9
  refine ok_bd (s_Layout_empty (by assumption)) (fun o9 h9 => ?_)
  obtain ⟨la_count_3, la_ways_4⟩ := o9
  try dsimp only at h9
  try dsimp only
  obtain ⟨q_13, q_14⟩ := h9
  refine ok_bd (s_BitReader_nextNumber (by clear hQ9; first | with_reducible assumption | (simp only [xl, xt, xe, xa, xb, xm, xg, ne_eq, Int32.reduceToInt] at * <;> omega) | grind) (by clear hQ9; first | with_reducible assumption | (simp only [xl, xt, xe, xa, xb, xm, xg, ne_eq, Int32.reduceToInt] at * <;> omega) | grind) (by clear hQ9; first | with_reducible assumption | (simp only [xl, xt, xe, xa, xb, xm, xg, ne_eq, Int32.reduceToInt] at * <;> omega) | grind)) (fun o9 h9 => ?_)
  obtain ⟨r_5, rd_place_6, rd_refusal_7⟩ := o9
  try dsimp only at h9
  try dsimp only
  obtain ⟨q_15, q_16, q_17, q_18⟩ := h9
  refine ok_jn (fun j9 => ∀ (rd_refusal_8 : Int32), ((0 : Int32) ≤ rd_refusal_8 ∧ rd_refusal_8 ≤ (9 : Int32)) → (rd_refusal_8 = 0 → r_5 ≤ (40 : Int32)) → ok (j9 rd_refusal_8) Q9) ?_ (fun j33 h_j33 => ?_)
  · intro rd_refusal_8 q_19 q_20
    refine ok_ex (fun k9 => lp (f_Reader_readAll_C_L35 cb_count cb_bytes k9) FU ((0 : Int32), rd_place_6, rd_refusal_8, la_ways_4)) (fun j9 => ∀ (rd_place_13 : Int32) (rd_refusal_14 : Int32) (la_ways_15 : (Nat → Int32)), ((0 : Int32) ≤ rd_place_13 ∧ rd_place_13 ≤ (16000 : Int32)) → ((0 : Int32) ≤ rd_refusal_14 ∧ rd_refusal_14 ≤ (9 : Int32)) → R la_ways_15 (0 : Int32) (7 : Int32) → (rd_refusal_14 = 0 → r_5 ≤ (40 : Int32)) → ok (j9 rd_place_13 rd_refusal_14 la_ways_15) Q9) ?_ (fun k73 h_k73 => ?_)
    · intro rd_place_13 rd_refusal_14 la_ways_15 q_21 q_22 q_23 q_24
      refine ok_gq (4 : Int32) (by decide) (by clear hQ9; first | with_reducible assumption | (simp only [xl, xt, xe, xa, xb, xm, xg, ne_eq, Int32.reduceToInt] at * <;> omega) | grind) (by clear hQ9; first | with_reducible assumption | (simp only [xl, xt, xe, xa, xb, xm, xg, ne_eq, Int32.reduceToInt] at * <;> omega) | grind) ?_
      have q_25 := (by assumption : R la_ways_15 (0 : Int32) (7 : Int32)) ((3 : Int32)).toNatClampNeg
      refine ok_gq (4 : Int32) (by decide) (by clear hQ9; first | with_reducible assumption | (simp only [xl, xt, xe, xa, xb, xm, xg, ne_eq, Int32.reduceToInt] at * <;> omega) | grind) (by clear hQ9; first | with_reducible assumption | (simp only [xl, xt, xe, xa, xb, xm, xg, ne_eq, Int32.reduceToInt] at * <;> omega) | grind) ?_
      have q_26 := Rtb_MOST_OF_WAY ((3 : Int32)).toNatClampNeg
      refine ok_jn (fun j9 => ∀ (rd_refusal_21 : Int32), ((0 : Int32) ≤ rd_refusal_21 ∧ rd_refusal_21 ≤ (9 : Int32)) → (rd_refusal_21 = 0 → r_5 ≤ (40 : Int32)) → ok (j9 rd_refusal_21) Q9) ?_ (fun j95 h_j95 => ?_)
      · intro rd_refusal_21 q_27 q_28
        refine ok_bd (s_CodeNames_readTable (by clear hQ9; first | with_reducible assumption | (simp only [xl, xt, xe, xa, xb, xm, xg, ne_eq, Int32.reduceToInt] at * <;> omega) | grind) (by clear hQ9; first | with_reducible assumption | (simp only [xl, xt, xe, xa, xb, xm, xg, ne_eq, Int32.reduceToInt] at * <;> omega) | grind) (by assumption) (by clear hQ9; first | with_reducible assumption | (simp only [xl, xt, xe, xa, xb, xm, xg, ne_eq, Int32.reduceToInt] at * <;> omega) | grind) (by clear hQ9; first | with_reducible assumption | (simp only [xl, xt, xe, xa, xb, xm, xg, ne_eq, Int32.reduceToInt] at * <;> omega) | grind)) (fun o9 h9 => ?_)
        obtain ⟨rd_place_22, rd_refusal_23, na_lengths_24, na_codes_25⟩ := o9
        try dsimp only at h9
        try dsimp only
        obtain ⟨q_29, q_30, q_31, q_32⟩ := h9
        refine ok_bd (s_Reader_readInstances_C (by clear hQ9; first | with_reducible assumption | (simp only [xl, xt, xe, xa, xb, xm, xg, ne_eq, Int32.reduceToInt] at * <;> omega) | grind) (by clear hQ9; first | with_reducible assumption | (simp only [xl, xt, xe, xa, xb, xm, xg, ne_eq, Int32.reduceToInt] at * <;> omega) | grind) (by clear hQ9; first | with_reducible assumption | (simp only [xl, xt, xe, xa, xb, xm, xg, ne_eq, Int32.reduceToInt] at * <;> omega) | grind) (by assumption) (by clear hQ9; first | with_reducible assumption | (simp only [xl, xt, xe, xa, xb, xm, xg, ne_eq, Int32.reduceToInt] at * <;> omega) | grind) (by clear hQ9; first | with_reducible assumption | (simp only [xl, xt, xe, xa, xb, xm, xg, ne_eq, Int32.reduceToInt] at * <;> omega) | grind) (by assumption) (by assumption) (by assumption) (by assumption) (by assumption) (by assumption) (by clear hQ9; first | with_reducible assumption | (simp only [xl, xt, xe, xa, xb, xm, xg, ne_eq, Int32.reduceToInt] at * <;> omega) | grind) (by clear hQ9; first | with_reducible assumption | (simp only [xl, xt, xe, xa, xb, xm, xg, ne_eq, Int32.reduceToInt] at * <;> omega) | grind)) (fun o9 h9 => ?_)
        obtain ⟨la_count_26, rd_place_27, rd_refusal_28, la_symbolOf_29, la_xs_30, la_ys_31, la_differs_32⟩ := o9
        try dsimp only at h9
        try dsimp only
        obtain ⟨q_33, q_34, q_35, q_36, q_37, q_38⟩ := h9
        refine ok_bd (s_BitReader_readEnd (by clear hQ9; first | with_reducible assumption | (simp only [xl, xt, xe, xa, xb, xm, xg, ne_eq, Int32.reduceToInt] at * <;> omega) | grind) (by clear hQ9; first | with_reducible assumption | (simp only [xl, xt, xe, xa, xb, xm, xg, ne_eq, Int32.reduceToInt] at * <;> omega) | grind) (by clear hQ9; first | with_reducible assumption | (simp only [xl, xt, xe, xa, xb, xm, xg, ne_eq, Int32.reduceToInt] at * <;> omega) | grind)) (fun o9 h9 => ?_)
        obtain ⟨rd_place_33, rd_refusal_34⟩ := o9
        try dsimp only at h9
        try dsimp only
        obtain ⟨q_39, q_40⟩ := h9
        exact ok_some (hQ9 _ ⟨by clear hQ9; first | with_reducible assumption | (simp only [xl, xt, xe, xa, xb, xm, xg, ne_eq, Int32.reduceToInt] at * <;> omega) | grind, by clear hQ9; first | with_reducible assumption | (simp only [xl, xt, xe, xa, xb, xm, xg, ne_eq, Int32.reduceToInt] at * <;> omega) | grind, by clear hQ9; first | with_reducible assumption | (simp only [xl, xt, xe, xa, xb, xm, xg, ne_eq, Int32.reduceToInt] at * <;> omega) | grind, by clear hQ9; first | with_reducible assumption | (simp only [xl, xt, xe, xa, xb, xm, xg, ne_eq, Int32.reduceToInt] at * <;> omega) | grind, by assumption, by assumption, by assumption, by assumption, by assumption⟩)
      refine ok_if (fun q_41 => ?_) (fun q_41 => ?_)
      · skip
        exact h_j95 _ (by clear hQ9 h_j95; first | with_reducible assumption | (simp only [xl, xt, xe, xa, xb, xm, xg, ne_eq, Int32.reduceToInt] at * <;> omega) | grind) (by clear hQ9 h_j95; first | with_reducible assumption | (simp only [xl, xt, xe, xa, xb, xm, xg, ne_eq, Int32.reduceToInt] at * <;> omega) | grind)
      · skip
        refine ok_bd (s_BitReader_refuse (by clear hQ9 h_j95; first | with_reducible assumption | (simp only [xl, xt, xe, xa, xb, xm, xg, ne_eq, Int32.reduceToInt] at * <;> omega) | grind) (by clear hQ9 h_j95; first | with_reducible assumption | (simp only [xl, xt, xe, xa, xb, xm, xg, ne_eq, Int32.reduceToInt] at * <;> omega) | grind)) (fun o9 h9 => ?_)
        obtain ⟨rd_refusal_35, rfl⟩ : ∃ z9, z9 = o9 := ⟨_, rfl⟩
        obtain ⟨q_42, q_43⟩ := h9
        exact h_j95 _ (by clear hQ9 h_j95; first | with_reducible assumption | (simp only [xl, xt, xe, xa, xb, xm, xg, ne_eq, Int32.reduceToInt] at * <;> omega) | grind) (by clear hQ9 h_j95; first | with_reducible assumption | (simp only [xl, xt, xe, xa, xb, xm, xg, ne_eq, Int32.reduceToInt] at * <;> omega) | grind)
    refine ok_lp (fun s9 => ((0 : Int32) ≤ s9.1 ∧ s9.1 ≤ (4 : Int32)) ∧ ((0 : Int32) ≤ s9.2.1 ∧ s9.2.1 ≤ (16000 : Int32)) ∧ ((0 : Int32) ≤ s9.2.2.1 ∧ s9.2.2.1 ≤ (9 : Int32)) ∧ R s9.2.2.2 (0 : Int32) (7 : Int32) ∧ (s9.2.2.1 = 0 → r_5 ≤ (40 : Int32))) (fun s9 => 4 - s9.1) ⟨by clear hQ9 h_k73; first | with_reducible assumption | (simp only [xl, xt, xe, xa, xb, xm, xg, ne_eq, Int32.reduceToInt] at * <;> omega) | grind, by clear hQ9 h_k73; first | with_reducible assumption | (simp only [xl, xt, xe, xa, xb, xm, xg, ne_eq, Int32.reduceToInt] at * <;> omega) | grind, by clear hQ9 h_k73; first | with_reducible assumption | (simp only [xl, xt, xe, xa, xb, xm, xg, ne_eq, Int32.reduceToInt] at * <;> omega) | grind, by assumption, by clear hQ9 h_k73; first | with_reducible assumption | (simp only [xl, xt, xe, xa, xb, xm, xg, ne_eq, Int32.reduceToInt] at * <;> omega) | grind⟩ ?_ ?_
    · intro s9 hs9; obtain ⟨v3_9, rd_place_10, rd_refusal_11, la_ways_12⟩ := s9; try dsimp only at hs9; obtain ⟨q_44, q_45, q_46, q_47, q_48⟩ := hs9; exact ⟨by clear hQ9 h_k73; (try dsimp only); first | with_reducible assumption | (simp only [xl, xt, xe, xa, xb, xm, xg, ne_eq, Int32.reduceToInt] at * <;> omega) | grind, by clear hQ9 h_k73; (try dsimp only); first | with_reducible assumption | (simp only [xl, xt, xe, xa, xb, xm, xg, ne_eq, Int32.reduceToInt] at * <;> omega) | grind⟩
    intro self35 s9 hs9 ih_self35
    obtain ⟨v3_9, rd_place_10, rd_refusal_11, la_ways_12⟩ := s9; try dsimp only at hs9; obtain ⟨q_44, q_45, q_46, q_47, q_48⟩ := hs9
    unfold f_Reader_readAll_C_L35
    try dsimp only
    try dsimp only at ih_self35
    refine ok_if (fun q_49 => ?_) (fun q_49 => ?_)
    · skip
      exact h_k73 _ _ _ (by clear hQ9 h_k73 ih_self35; first | with_reducible assumption | (simp only [xl, xt, xe, xa, xb, xm, xg, ne_eq, Int32.reduceToInt] at * <;> omega) | grind) (by clear hQ9 h_k73 ih_self35; first | with_reducible assumption | (simp only [xl, xt, xe, xa, xb, xm, xg, ne_eq, Int32.reduceToInt] at * <;> omega) | grind) (by assumption) (by clear hQ9 h_k73 ih_self35; first | with_reducible assumption | (simp only [xl, xt, xe, xa, xb, xm, xg, ne_eq, Int32.reduceToInt] at * <;> omega) | grind)
    · skip
      refine ok_gq (4 : Int32) (by decide) (by clear hQ9 h_k73 ih_self35; first | with_reducible assumption | (simp only [xl, xt, xe, xa, xb, xm, xg, ne_eq, Int32.reduceToInt] at * <;> omega) | grind) (by clear hQ9 h_k73 ih_self35; first | with_reducible assumption | (simp only [xl, xt, xe, xa, xb, xm, xg, ne_eq, Int32.reduceToInt] at * <;> omega) | grind) ?_
      have q_50 := Rtb_WAYS_AS_TOLD (v3_9).toNatClampNeg
      refine ok_nl (fun v4_16 e_v4_16 => ?_)
      refine ok_gq (4 : Int32) (by decide) (by clear hQ9 h_k73 ih_self35; first | with_reducible assumption | (simp only [xl, xt, xe, xa, xb, xm, xg, ne_eq, Int32.reduceToInt] at * <;> omega) | grind) (by clear hQ9 h_k73 ih_self35; first | with_reducible assumption | (simp only [xl, xt, xe, xa, xb, xm, xg, ne_eq, Int32.reduceToInt] at * <;> omega) | grind) ?_
      have q_51 := Rtb_BITS_OF_WAY (v4_16).toNatClampNeg
      refine ok_bd (s_BitReader_nextBits (by clear hQ9 h_k73 ih_self35; first | with_reducible assumption | (simp only [xl, xt, xe, xa, xb, xm, xg, ne_eq, Int32.reduceToInt] at * <;> omega) | grind) (by clear hQ9 h_k73 ih_self35; first | with_reducible assumption | (simp only [xl, xt, xe, xa, xb, xm, xg, ne_eq, Int32.reduceToInt] at * <;> omega) | grind) (by clear hQ9 h_k73 ih_self35; first | with_reducible assumption | (simp only [xl, xt, xe, xa, xb, xm, xg, ne_eq, Int32.reduceToInt] at * <;> omega) | grind) (by clear hQ9 h_k73 ih_self35; first | with_reducible assumption | (simp only [xl, xt, xe, xa, xb, xm, xg, ne_eq, Int32.reduceToInt] at * <;> omega) | grind)) (fun o9 h9 => ?_)
      obtain ⟨r_17, rd_place_18, rd_refusal_19⟩ := o9
      try dsimp only at h9
      try dsimp only
      obtain ⟨q_52, q_53, q_54, q_55, q_56⟩ := h9
      have q_p3 := pw_3b (tb_BITS_OF_WAY v4_16.toNatClampNeg) (by clear hQ9 h_k73 ih_self35; first | with_reducible assumption | (simp only [xl, xt, xe, xa, xb, xm, xg, ne_eq, Int32.reduceToInt] at * <;> omega) | grind) (by clear hQ9 h_k73 ih_self35; first | with_reducible assumption | (simp only [xl, xt, xe, xa, xb, xm, xg, ne_eq, Int32.reduceToInt] at * <;> omega) | grind)
      refine ok_gq (4 : Int32) (by decide) (by clear hQ9 h_k73 ih_self35; first | with_reducible assumption | (simp only [xl, xt, xe, xa, xb, xm, xg, ne_eq, Int32.reduceToInt] at * <;> omega) | grind) (by clear hQ9 h_k73 ih_self35; first | with_reducible assumption | (simp only [xl, xt, xe, xa, xb, xm, xg, ne_eq, Int32.reduceToInt] at * <;> omega) | grind) ?_
      have q_57 : R (upd la_ways_12 (v4_16).toNatClampNeg r_17) (0 : Int32) (7 : Int32) := R_upd (by assumption) _ (by clear hQ9 h_k73 ih_self35; first | with_reducible assumption | (simp only [xl, xt, xe, xa, xb, xm, xg, ne_eq, Int32.reduceToInt] at * <;> omega) | grind)
      refine ok_nl (fun v3_20 e_v3_20 => ?_)
      exact ih_self35 (v3_20, rd_place_18, rd_refusal_19, (upd la_ways_12 (v4_16).toNatClampNeg r_17)) ⟨by clear hQ9 h_k73 ih_self35; first | with_reducible assumption | (simp only [xl, xt, xe, xa, xb, xm, xg, ne_eq, Int32.reduceToInt] at * <;> omega) | grind, by clear hQ9 h_k73 ih_self35; first | with_reducible assumption | (simp only [xl, xt, xe, xa, xb, xm, xg, ne_eq, Int32.reduceToInt] at * <;> omega) | grind, by clear hQ9 h_k73 ih_self35; first | with_reducible assumption | (simp only [xl, xt, xe, xa, xb, xm, xg, ne_eq, Int32.reduceToInt] at * <;> omega) | grind, by assumption, by clear hQ9 h_k73 ih_self35; first | with_reducible assumption | (simp only [xl, xt, xe, xa, xb, xm, xg, ne_eq, Int32.reduceToInt] at * <;> omega) | grind⟩ (by clear hQ9 h_k73 ih_self35; (try dsimp only); first | with_reducible assumption | (simp only [xl, xt, xe, xa, xb, xm, xg, ne_eq, Int32.reduceToInt] at * <;> omega) | grind)
  refine ok_if (fun q_58 => ?_) (fun q_58 => ?_)
  · skip
    exact h_j33 _ (by clear hQ9 h_j33; first | with_reducible assumption | (simp only [xl, xt, xe, xa, xb, xm, xg, ne_eq, Int32.reduceToInt] at * <;> omega) | grind) (by clear hQ9 h_j33; first | with_reducible assumption | (simp only [xl, xt, xe, xa, xb, xm, xg, ne_eq, Int32.reduceToInt] at * <;> omega) | grind)
  · skip
    refine ok_bd (s_BitReader_refuse (by clear hQ9 h_j33; first | with_reducible assumption | (simp only [xl, xt, xe, xa, xb, xm, xg, ne_eq, Int32.reduceToInt] at * <;> omega) | grind) (by clear hQ9 h_j33; first | with_reducible assumption | (simp only [xl, xt, xe, xa, xb, xm, xg, ne_eq, Int32.reduceToInt] at * <;> omega) | grind)) (fun o9 h9 => ?_)
    obtain ⟨rd_refusal_36, rfl⟩ : ∃ z9, z9 = o9 := ⟨_, rfl⟩
    obtain ⟨q_59, q_60⟩ := h9
    exact h_j33 _ (by clear hQ9 h_j33; first | with_reducible assumption | (simp only [xl, xt, xe, xa, xb, xm, xg, ne_eq, Int32.reduceToInt] at * <;> omega) | grind) (by clear hQ9 h_j33; first | with_reducible assumption | (simp only [xl, xt, xe, xa, xb, xm, xg, ne_eq, Int32.reduceToInt] at * <;> omega) | grind)

set_option maxHeartbeats 4000000 in
set_option maxRecDepth 20000 in
theorem s_Reader_readPlaced_F {la_count : Int32} {la_ways : (Nat → Int32)} {rd_place : Int32} {rd_refusal : Int32} {cb_count : Int32} {cb_bytes : (Nat → Int32)} {di_count : Int32} {na_row : (Nat → Int32)} {di_widths : (Nat → Int32)} {di_heights : (Nat → Int32)} {la_symbolOf : (Nat → Int32)} {la_xs : (Nat → Int32)} {la_ys : (Nat → Int32)} {la_differs : (Nat → Int64)} {p1 : Int32} {p2 : Int32} (q_1 : ((0 : Int32) ≤ la_count ∧ la_count ≤ (40 : Int32))) (q_2 : R la_ways (0 : Int32) (7 : Int32)) (q_3 : ((0 : Int32) ≤ rd_place ∧ rd_place ≤ (16000 : Int32))) (q_4 : ((0 : Int32) ≤ rd_refusal ∧ rd_refusal ≤ (9 : Int32))) (q_5 : ((0 : Int32) ≤ cb_count ∧ cb_count ≤ (2000 : Int32))) (q_6 : ((0 : Int32) ≤ di_count ∧ di_count ≤ (16 : Int32))) (q_7 : R na_row (0 : Int32) (15 : Int32)) (q_8 : R di_widths (0 : Int32) (8 : Int32)) (q_9 : R di_heights (0 : Int32) (8 : Int32)) (q_10 : R la_symbolOf (0 : Int32) (15 : Int32)) (q_11 : R la_xs (-8 : Int32) (31 : Int32)) (q_12 : R la_ys (-8 : Int32) (31 : Int32)) : ok (f_Reader_readPlaced_F la_count la_ways rd_place rd_refusal cb_count cb_bytes di_count na_row di_widths di_heights la_symbolOf la_xs la_ys la_differs p1 p2) (fun o => ((0 : Int32) ≤ o.1 ∧ o.1 ≤ (40 : Int32)) ∧ ((0 : Int32) ≤ o.2.1 ∧ o.2.1 ≤ (16000 : Int32)) ∧ ((0 : Int32) ≤ o.2.2.1 ∧ o.2.2.1 ≤ (9 : Int32)) ∧ R o.2.2.2.1 (0 : Int32) (15 : Int32) ∧ R o.2.2.2.2.1 (0 : Int32) (15 : Int32) ∧ R o.2.2.2.2.2.1 (-8 : Int32) (31 : Int32) ∧ R o.2.2.2.2.2.2.1 (-8 : Int32) (31 : Int32) ∧ (o.2.2.1 = 0 → rd_refusal = 0)) := by
  refine ok_Q (fun Q9 hQ9 => ?_)
  unfold f_Reader_readPlaced_F
  refine ok_gq (4 : Int32) (by decide) (by clear hQ9; first | with_reducible assumption | (simp only [xl, xt, xe, xa, xb, xm, xg, ne_eq, Int32.reduceToInt] at * <;> omega) | grind) (by clear hQ9; first | with_reducible assumption | (simp only [xl, xt, xe, xa, xb, xm, xg, ne_eq, Int32.reduceToInt] at * <;> omega) | grind) ?_
  have q_13 := (by assumption : R la_ways (0 : Int32) (7 : Int32)) ((2 : Int32)).toNatClampNeg
  refine ok_nl (fun v4_1 e_v4_1 => ?_)
  refine ok_bd (s_BitReader_nextBits (by clear hQ9; first | with_reducible assumption | (simp only [xl, xt, xe, xa, xb, xm, xg, ne_eq, Int32.reduceToInt] at * <;> omega) | grind) (by clear hQ9; first | with_reducible assumption | (simp only [xl, xt, xe, xa, xb, xm, xg, ne_eq, Int32.reduceToInt] at * <;> omega) | grind) (by clear hQ9; first | with_reducible assumption | (simp only [xl, xt, xe, xa, xb, xm, xg, ne_eq, Int32.reduceToInt] at * <;> omega) | grind) (by clear hQ9; first | with_reducible assumption | (simp only [xl, xt, xe, xa, xb, xm, xg, ne_eq, Int32.reduceToInt] at * <;> omega) | grind)) (fun o9 h9 => ?_)
  obtain ⟨r_2, rd_place_3, rd_refusal_4⟩ := o9
  try dsimp only at h9
  try dsimp only
  obtain ⟨q_14, q_15, q_16, q_17, q_18⟩ := h9
  refine ok_nl (fun v5_5 e_v5_5 => ?_)
  refine ok_bd (s_FrontNames_readName (by clear hQ9; first | with_reducible assumption | (simp only [xl, xt, xe, xa, xb, xm, xg, ne_eq, Int32.reduceToInt] at * <;> omega) | grind) (by clear hQ9; first | with_reducible assumption | (simp only [xl, xt, xe, xa, xb, xm, xg, ne_eq, Int32.reduceToInt] at * <;> omega) | grind) (by clear hQ9; first | with_reducible assumption | (simp only [xl, xt, xe, xa, xb, xm, xg, ne_eq, Int32.reduceToInt] at * <;> omega) | grind) (by clear hQ9; first | with_reducible assumption | (simp only [xl, xt, xe, xa, xb, xm, xg, ne_eq, Int32.reduceToInt] at * <;> omega) | grind) (by assumption)) (fun o9 h9 => ?_)
  obtain ⟨r_6, rd_place_7, rd_refusal_8, na_row_9⟩ := o9
  try dsimp only at h9
  try dsimp only
  obtain ⟨q_19, q_20, q_21, q_22, q_23⟩ := h9
  refine ok_bd (s_BitReader_isRefused (by clear hQ9; first | with_reducible assumption | (simp only [xl, xt, xe, xa, xb, xm, xg, ne_eq, Int32.reduceToInt] at * <;> omega) | grind)) (fun o9 h9 => ?_)
  obtain ⟨r_10, rfl⟩ : ∃ z9, z9 = o9 := ⟨_, rfl⟩
  obtain ⟨q_24, q_25⟩ := h9
  refine ok_if (fun q_26 => ?_) (fun q_26 => ?_)
  · skip
    refine ok_bd (s_Layout_addByCorner (by clear hQ9; first | with_reducible assumption | (simp only [xl, xt, xe, xa, xb, xm, xg, ne_eq, Int32.reduceToInt] at * <;> omega) | grind) (by assumption) (by assumption) (by assumption) (by assumption) (by assumption) (by assumption) (by clear hQ9; first | with_reducible assumption | (simp only [xl, xt, xe, xa, xb, xm, xg, ne_eq, Int32.reduceToInt] at * <;> omega) | grind)) (fun o9 h9 => ?_)
    obtain ⟨r_11, la_count_12, la_symbolOf_13, la_xs_14, la_ys_15, la_differs_16⟩ := o9
    try dsimp only at h9
    try dsimp only
    obtain ⟨q_27, q_28, q_29, q_30, q_31, q_32⟩ := h9
    refine ok_if (fun q_33 => ?_) (fun q_33 => ?_)
    · skip
      refine ok_bd (s_BitReader_refuse (by clear hQ9; first | with_reducible assumption | (simp only [xl, xt, xe, xa, xb, xm, xg, ne_eq, Int32.reduceToInt] at * <;> omega) | grind) (by clear hQ9; first | with_reducible assumption | (simp only [xl, xt, xe, xa, xb, xm, xg, ne_eq, Int32.reduceToInt] at * <;> omega) | grind)) (fun o9 h9 => ?_)
      obtain ⟨rd_refusal_17, rfl⟩ : ∃ z9, z9 = o9 := ⟨_, rfl⟩
      obtain ⟨q_34, q_35⟩ := h9
      exact ok_some (hQ9 _ ⟨by clear hQ9; first | with_reducible assumption | (simp only [xl, xt, xe, xa, xb, xm, xg, ne_eq, Int32.reduceToInt] at * <;> omega) | grind, by clear hQ9; first | with_reducible assumption | (simp only [xl, xt, xe, xa, xb, xm, xg, ne_eq, Int32.reduceToInt] at * <;> omega) | grind, by clear hQ9; first | with_reducible assumption | (simp only [xl, xt, xe, xa, xb, xm, xg, ne_eq, Int32.reduceToInt] at * <;> omega) | grind, by assumption, by assumption, by assumption, by assumption, by clear hQ9; first | with_reducible assumption | (simp only [xl, xt, xe, xa, xb, xm, xg, ne_eq, Int32.reduceToInt] at * <;> omega) | grind⟩)
    · skip
      exact ok_some (hQ9 _ ⟨by clear hQ9; first | with_reducible assumption | (simp only [xl, xt, xe, xa, xb, xm, xg, ne_eq, Int32.reduceToInt] at * <;> omega) | grind, by clear hQ9; first | with_reducible assumption | (simp only [xl, xt, xe, xa, xb, xm, xg, ne_eq, Int32.reduceToInt] at * <;> omega) | grind, by clear hQ9; first | with_reducible assumption | (simp only [xl, xt, xe, xa, xb, xm, xg, ne_eq, Int32.reduceToInt] at * <;> omega) | grind, by assumption, by assumption, by assumption, by assumption, by clear hQ9; first | with_reducible assumption | (simp only [xl, xt, xe, xa, xb, xm, xg, ne_eq, Int32.reduceToInt] at * <;> omega) | grind⟩)
  · skip
    exact ok_some (hQ9 _ ⟨by clear hQ9; first | with_reducible assumption | (simp only [xl, xt, xe, xa, xb, xm, xg, ne_eq, Int32.reduceToInt] at * <;> omega) | grind, by clear hQ9; first | with_reducible assumption | (simp only [xl, xt, xe, xa, xb, xm, xg, ne_eq, Int32.reduceToInt] at * <;> omega) | grind, by clear hQ9; first | with_reducible assumption | (simp only [xl, xt, xe, xa, xb, xm, xg, ne_eq, Int32.reduceToInt] at * <;> omega) | grind, by assumption, by assumption, by assumption, by assumption, by clear hQ9; first | with_reducible assumption | (simp only [xl, xt, xe, xa, xb, xm, xg, ne_eq, Int32.reduceToInt] at * <;> omega) | grind⟩)

set_option maxHeartbeats 4000000 in
set_option maxRecDepth 20000 in
theorem s_Reader_readInstances_F {la_count : Int32} {rd_place : Int32} {rd_refusal : Int32} {la_ways : (Nat → Int32)} {cb_count : Int32} {cb_bytes : (Nat → Int32)} {di_count : Int32} {na_row : (Nat → Int32)} {di_widths : (Nat → Int32)} {di_heights : (Nat → Int32)} {la_symbolOf : (Nat → Int32)} {la_xs : (Nat → Int32)} {la_ys : (Nat → Int32)} {la_differs : (Nat → Int64)} {p1 : Int32} (q_1 : ((0 : Int32) ≤ la_count ∧ la_count ≤ (40 : Int32))) (q_2 : ((0 : Int32) ≤ rd_place ∧ rd_place ≤ (16000 : Int32))) (q_3 : ((0 : Int32) ≤ rd_refusal ∧ rd_refusal ≤ (9 : Int32))) (q_4 : R la_ways (0 : Int32) (7 : Int32)) (q_5 : ((0 : Int32) ≤ cb_count ∧ cb_count ≤ (2000 : Int32))) (q_6 : ((0 : Int32) ≤ di_count ∧ di_count ≤ (16 : Int32))) (q_7 : R na_row (0 : Int32) (15 : Int32)) (q_8 : R di_widths (0 : Int32) (8 : Int32)) (q_9 : R di_heights (0 : Int32) (8 : Int32)) (q_10 : R la_symbolOf (0 : Int32) (15 : Int32)) (q_11 : R la_xs (-8 : Int32) (31 : Int32)) (q_12 : R la_ys (-8 : Int32) (31 : Int32)) (q_13 : ((0 : Int32) ≤ p1 ∧ p1 ≤ (8191 : Int32))) (q_14 : (rd_refusal = 0 → p1 ≤ (40 : Int32))) : ok (f_Reader_readInstances_F la_count rd_place rd_refusal la_ways cb_count cb_bytes di_count na_row di_widths di_heights la_symbolOf la_xs la_ys la_differs p1) (fun o => ((0 : Int32) ≤ o.1 ∧ o.1 ≤ (40 : Int32)) ∧ ((0 : Int32) ≤ o.2.1 ∧ o.2.1 ≤ (16000 : Int32)) ∧ ((0 : Int32) ≤ o.2.2.1 ∧ o.2.2.1 ≤ (9 : Int32)) ∧ R o.2.2.2.1 (0 : Int32) (15 : Int32) ∧ R o.2.2.2.2.1 (0 : Int32) (15 : Int32) ∧ R o.2.2.2.2.2.1 (-8 : Int32) (31 : Int32) ∧ R o.2.2.2.2.2.2.1 (-8 : Int32) (31 : Int32)) := by
  refine ok_Q (fun Q9 hQ9 => ?_)
  unfold f_Reader_readInstances_F
  refine ok_ex (fun k9 => lp (f_Reader_readInstances_F_L12 p1 la_ways cb_count cb_bytes di_count di_widths di_heights k9) FU ((0 : Int32), (0 : Int32), (0 : Int32), (-17 : Int32), la_count, rd_place, rd_refusal, na_row, la_symbolOf, la_xs, la_ys, la_differs)) (fun j9 => ∀ (v5_13 : Int32) (la_count_14 : Int32) (rd_place_15 : Int32) (rd_refusal_16 : Int32) (na_row_17 : (Nat → Int32)) (la_symbolOf_18 : (Nat → Int32)) (la_xs_19 : (Nat → Int32)) (la_ys_20 : (Nat → Int32)) (la_differs_21 : (Nat → Int64)), ((0 : Int32) ≤ v5_13 ∧ v5_13 ≤ (1 : Int32)) → ((0 : Int32) ≤ la_count_14 ∧ la_count_14 ≤ (40 : Int32)) → ((0 : Int32) ≤ rd_place_15 ∧ rd_place_15 ≤ (16000 : Int32)) → ((0 : Int32) ≤ rd_refusal_16 ∧ rd_refusal_16 ≤ (9 : Int32)) → R na_row_17 (0 : Int32) (15 : Int32) → R la_symbolOf_18 (0 : Int32) (15 : Int32) → R la_xs_19 (-8 : Int32) (31 : Int32) → R la_ys_20 (-8 : Int32) (31 : Int32) → ok (j9 v5_13 la_count_14 rd_place_15 rd_refusal_16 na_row_17 la_symbolOf_18 la_xs_19 la_ys_20 la_differs_21) Q9) ?_ (fun k119 h_k119 => ?_)
  · intro v5_13 la_count_14 rd_place_15 rd_refusal_16 na_row_17 la_symbolOf_18 la_xs_19 la_ys_20 la_differs_21 q_15 q_16 q_17 q_18 q_19 q_20 q_21 q_22
    refine ok_if (fun q_23 => ?_) (fun q_23 => ?_)
    · skip
      exact ok_some (hQ9 _ ⟨by clear hQ9; first | with_reducible assumption | (simp only [xl, xt, xe, xa, xb, xm, xg, ne_eq, Int32.reduceToInt] at * <;> omega) | grind, by clear hQ9; first | with_reducible assumption | (simp only [xl, xt, xe, xa, xb, xm, xg, ne_eq, Int32.reduceToInt] at * <;> omega) | grind, by clear hQ9; first | with_reducible assumption | (simp only [xl, xt, xe, xa, xb, xm, xg, ne_eq, Int32.reduceToInt] at * <;> omega) | grind, by assumption, by assumption, by assumption, by assumption⟩)
    · skip
      refine ok_bd (s_BitReader_refuse (by clear hQ9; first | with_reducible assumption | (simp only [xl, xt, xe, xa, xb, xm, xg, ne_eq, Int32.reduceToInt] at * <;> omega) | grind) (by clear hQ9; first | with_reducible assumption | (simp only [xl, xt, xe, xa, xb, xm, xg, ne_eq, Int32.reduceToInt] at * <;> omega) | grind)) (fun o9 h9 => ?_)
      obtain ⟨rd_refusal_57, rfl⟩ : ∃ z9, z9 = o9 := ⟨_, rfl⟩
      obtain ⟨q_24, q_25⟩ := h9
      exact ok_some (hQ9 _ ⟨by clear hQ9; first | with_reducible assumption | (simp only [xl, xt, xe, xa, xb, xm, xg, ne_eq, Int32.reduceToInt] at * <;> omega) | grind, by clear hQ9; first | with_reducible assumption | (simp only [xl, xt, xe, xa, xb, xm, xg, ne_eq, Int32.reduceToInt] at * <;> omega) | grind, by clear hQ9; first | with_reducible assumption | (simp only [xl, xt, xe, xa, xb, xm, xg, ne_eq, Int32.reduceToInt] at * <;> omega) | grind, by assumption, by assumption, by assumption, by assumption⟩)
  refine ok_lp (fun s9 => ((0 : Int32) ≤ s9.1 ∧ s9.1 ≤ (8191 : Int32)) ∧ ((0 : Int32) ≤ s9.2.1 ∧ s9.2.1 ≤ (1 : Int32)) ∧ ((0 : Int32) ≤ s9.2.2.2.2.1 ∧ s9.2.2.2.2.1 ≤ (40 : Int32)) ∧ ((0 : Int32) ≤ s9.2.2.2.2.2.1 ∧ s9.2.2.2.2.2.1 ≤ (16000 : Int32)) ∧ ((0 : Int32) ≤ s9.2.2.2.2.2.2.1 ∧ s9.2.2.2.2.2.2.1 ≤ (9 : Int32)) ∧ R s9.2.2.2.2.2.2.2.1 (0 : Int32) (15 : Int32) ∧ R s9.2.2.2.2.2.2.2.2.1 (0 : Int32) (15 : Int32) ∧ R s9.2.2.2.2.2.2.2.2.2.1 (-8 : Int32) (31 : Int32) ∧ R s9.2.2.2.2.2.2.2.2.2.2.1 (-8 : Int32) (31 : Int32) ∧ (s9.2.2.2.2.2.2.1 = 0 → p1 ≤ (40 : Int32)) ∧ (s9.2.1 = 1 → (1 : Int32) ≤ s9.1) ∧ s9.1 ≤ p1) (fun s9 => 8191 - s9.1) ⟨by clear hQ9 h_k119; first | with_reducible assumption | (simp only [xl, xt, xe, xa, xb, xm, xg, ne_eq, Int32.reduceToInt] at * <;> omega) | grind, by clear hQ9 h_k119; first | with_reducible assumption | (simp only [xl, xt, xe, xa, xb, xm, xg, ne_eq, Int32.reduceToInt] at * <;> omega) | grind, by clear hQ9 h_k119; first | with_reducible assumption | (simp only [xl, xt, xe, xa, xb, xm, xg, ne_eq, Int32.reduceToInt] at * <;> omega) | grind, by clear hQ9 h_k119; first | with_reducible assumption | (simp only [xl, xt, xe, xa, xb, xm, xg, ne_eq, Int32.reduceToInt] at * <;> omega) | grind, by clear hQ9 h_k119; first | with_reducible assumption | (simp only [xl, xt, xe, xa, xb, xm, xg, ne_eq, Int32.reduceToInt] at * <;> omega) | grind, by assumption, by assumption, by assumption, by assumption, by clear hQ9 h_k119; first | with_reducible assumption | (simp only [xl, xt, xe, xa, xb, xm, xg, ne_eq, Int32.reduceToInt] at * <;> omega) | grind, by clear hQ9 h_k119; first | with_reducible assumption | (simp only [xl, xt, xe, xa, xb, xm, xg, ne_eq, Int32.reduceToInt] at * <;> omega) | grind, by clear hQ9 h_k119; first | with_reducible assumption | (simp only [xl, xt, xe, xa, xb, xm, xg, ne_eq, Int32.reduceToInt] at * <;> omega) | grind⟩ ?_ ?_
  · intro s9 hs9; obtain ⟨v6_1, v5_2, v4_3, v3_4, la_count_5, rd_place_6, rd_refusal_7, na_row_8, la_symbolOf_9, la_xs_10, la_ys_11, la_differs_12⟩ := s9; try dsimp only at hs9; obtain ⟨q_26, q_27, q_28, q_29, q_30, q_31, q_32, q_33, q_34, q_35, q_36, q_37⟩ := hs9; exact ⟨by clear hQ9 h_k119; (try dsimp only); first | with_reducible assumption | (simp only [xl, xt, xe, xa, xb, xm, xg, ne_eq, Int32.reduceToInt] at * <;> omega) | grind, by clear hQ9 h_k119; (try dsimp only); first | with_reducible assumption | (simp only [xl, xt, xe, xa, xb, xm, xg, ne_eq, Int32.reduceToInt] at * <;> omega) | grind⟩
  intro self12 s9 hs9 ih_self12
  obtain ⟨v6_1, v5_2, v4_3, v3_4, la_count_5, rd_place_6, rd_refusal_7, na_row_8, la_symbolOf_9, la_xs_10, la_ys_11, la_differs_12⟩ := s9; try dsimp only at hs9; obtain ⟨q_26, q_27, q_28, q_29, q_30, q_31, q_32, q_33, q_34, q_35, q_36, q_37⟩ := hs9
  unfold f_Reader_readInstances_F_L12
  try dsimp only
  try dsimp only at ih_self12
  refine ok_if (fun q_38 => ?_) (fun q_38 => ?_)
  · skip
    exact h_k119 _ _ _ _ _ _ _ _ _ (by clear hQ9 h_k119 ih_self12; first | with_reducible assumption | (simp only [xl, xt, xe, xa, xb, xm, xg, ne_eq, Int32.reduceToInt] at * <;> omega) | grind) (by clear hQ9 h_k119 ih_self12; first | with_reducible assumption | (simp only [xl, xt, xe, xa, xb, xm, xg, ne_eq, Int32.reduceToInt] at * <;> omega) | grind) (by clear hQ9 h_k119 ih_self12; first | with_reducible assumption | (simp only [xl, xt, xe, xa, xb, xm, xg, ne_eq, Int32.reduceToInt] at * <;> omega) | grind) (by clear hQ9 h_k119 ih_self12; first | with_reducible assumption | (simp only [xl, xt, xe, xa, xb, xm, xg, ne_eq, Int32.reduceToInt] at * <;> omega) | grind) (by assumption) (by assumption) (by assumption) (by assumption)
  · skip
    refine ok_bd (s_BitReader_isRefused (by clear hQ9 h_k119 ih_self12; first | with_reducible assumption | (simp only [xl, xt, xe, xa, xb, xm, xg, ne_eq, Int32.reduceToInt] at * <;> omega) | grind)) (fun o9 h9 => ?_)
    obtain ⟨r_22, rfl⟩ : ∃ z9, z9 = o9 := ⟨_, rfl⟩
    obtain ⟨q_39, q_40⟩ := h9
    refine ok_if (fun q_41 => ?_) (fun q_41 => ?_)
    · skip
      refine ok_jn (fun j9 => ∀ (v4_23 : Int32) (v3_24 : Int32) (v7_25 : Int32) (rd_place_26 : Int32) (rd_refusal_27 : Int32), ((0 : Int32) ≤ rd_place_26 ∧ rd_place_26 ≤ (16000 : Int32)) → ((0 : Int32) ≤ rd_refusal_27 ∧ rd_refusal_27 ≤ (9 : Int32)) → ok (j9 v4_23 v3_24 v7_25 rd_place_26 rd_refusal_27) Q9) ?_ (fun j82 h_j82 => ?_)
      · intro v4_23 v3_24 v7_25 rd_place_26 rd_refusal_27 q_42 q_43
        refine ok_bd (s_Reader_readPlaced_F (by clear hQ9 h_k119 ih_self12; first | with_reducible assumption | (simp only [xl, xt, xe, xa, xb, xm, xg, ne_eq, Int32.reduceToInt] at * <;> omega) | grind) (by assumption) (by clear hQ9 h_k119 ih_self12; first | with_reducible assumption | (simp only [xl, xt, xe, xa, xb, xm, xg, ne_eq, Int32.reduceToInt] at * <;> omega) | grind) (by clear hQ9 h_k119 ih_self12; first | with_reducible assumption | (simp only [xl, xt, xe, xa, xb, xm, xg, ne_eq, Int32.reduceToInt] at * <;> omega) | grind) (by clear hQ9 h_k119 ih_self12; first | with_reducible assumption | (simp only [xl, xt, xe, xa, xb, xm, xg, ne_eq, Int32.reduceToInt] at * <;> omega) | grind) (by clear hQ9 h_k119 ih_self12; first | with_reducible assumption | (simp only [xl, xt, xe, xa, xb, xm, xg, ne_eq, Int32.reduceToInt] at * <;> omega) | grind) (by assumption) (by assumption) (by assumption) (by assumption) (by assumption) (by assumption)) (fun o9 h9 => ?_)
        obtain ⟨la_count_28, rd_place_29, rd_refusal_30, na_row_31, la_symbolOf_32, la_xs_33, la_ys_34, la_differs_35⟩ := o9
        try dsimp only at h9
        try dsimp only
        obtain ⟨q_44, q_45, q_46, q_47, q_48, q_49, q_50, q_51⟩ := h9
        refine ok_bd (s_Reader_readDiffers (by clear hQ9 h_k119 ih_self12; first | with_reducible assumption | (simp only [xl, xt, xe, xa, xb, xm, xg, ne_eq, Int32.reduceToInt] at * <;> omega) | grind) (by clear hQ9 h_k119 ih_self12; first | with_reducible assumption | (simp only [xl, xt, xe, xa, xb, xm, xg, ne_eq, Int32.reduceToInt] at * <;> omega) | grind) (by clear hQ9 h_k119 ih_self12; first | with_reducible assumption | (simp only [xl, xt, xe, xa, xb, xm, xg, ne_eq, Int32.reduceToInt] at * <;> omega) | grind) (by clear hQ9 h_k119 ih_self12; first | with_reducible assumption | (simp only [xl, xt, xe, xa, xb, xm, xg, ne_eq, Int32.reduceToInt] at * <;> omega) | grind) (by assumption) (by assumption) (by assumption)) (fun o9 h9 => ?_)
        obtain ⟨rd_place_36, rd_refusal_37, la_differs_38⟩ := o9
        try dsimp only at h9
        try dsimp only
        obtain ⟨q_52, q_53, q_54⟩ := h9
        refine ok_bd (s_BitReader_nextBit (by clear hQ9 h_k119 ih_self12; first | with_reducible assumption | (simp only [xl, xt, xe, xa, xb, xm, xg, ne_eq, Int32.reduceToInt] at * <;> omega) | grind) (by clear hQ9 h_k119 ih_self12; first | with_reducible assumption | (simp only [xl, xt, xe, xa, xb, xm, xg, ne_eq, Int32.reduceToInt] at * <;> omega) | grind) (by clear hQ9 h_k119 ih_self12; first | with_reducible assumption | (simp only [xl, xt, xe, xa, xb, xm, xg, ne_eq, Int32.reduceToInt] at * <;> omega) | grind)) (fun o9 h9 => ?_)
        obtain ⟨r_39, rd_place_40, rd_refusal_41⟩ := o9
        try dsimp only at h9
        try dsimp only
        obtain ⟨q_55, q_56, q_57, q_58⟩ := h9
        refine ok_jn (fun j9 => ∀ (s_42 : Int32), ((0 : Int32) ≤ s_42 ∧ s_42 ≤ (1 : Int32)) → ok (j9 s_42) Q9) ?_ (fun j111 h_j111 => ?_)
        · intro s_42 q_59
          refine ok_nl (fun v6_43 e_v6_43 => ?_)
          exact ih_self12 (v6_43, s_42, v4_23, v3_24, la_count_28, rd_place_40, rd_refusal_41, na_row_31, la_symbolOf_32, la_xs_33, la_ys_34, la_differs_38) ⟨by clear hQ9 h_k119 ih_self12; first | with_reducible assumption | (simp only [xl, xt, xe, xa, xb, xm, xg, ne_eq, Int32.reduceToInt] at * <;> omega) | grind, by clear hQ9 h_k119 ih_self12; first | with_reducible assumption | (simp only [xl, xt, xe, xa, xb, xm, xg, ne_eq, Int32.reduceToInt] at * <;> omega) | grind, by clear hQ9 h_k119 ih_self12; first | with_reducible assumption | (simp only [xl, xt, xe, xa, xb, xm, xg, ne_eq, Int32.reduceToInt] at * <;> omega) | grind, by clear hQ9 h_k119 ih_self12; first | with_reducible assumption | (simp only [xl, xt, xe, xa, xb, xm, xg, ne_eq, Int32.reduceToInt] at * <;> omega) | grind, by clear hQ9 h_k119 ih_self12; first | with_reducible assumption | (simp only [xl, xt, xe, xa, xb, xm, xg, ne_eq, Int32.reduceToInt] at * <;> omega) | grind, by assumption, by assumption, by assumption, by assumption, by clear hQ9 h_k119 ih_self12; first | with_reducible assumption | (simp only [xl, xt, xe, xa, xb, xm, xg, ne_eq, Int32.reduceToInt] at * <;> omega) | grind, by clear hQ9 h_k119 ih_self12; first | with_reducible assumption | (simp only [xl, xt, xe, xa, xb, xm, xg, ne_eq, Int32.reduceToInt] at * <;> omega) | grind, by clear hQ9 h_k119 ih_self12; first | with_reducible assumption | (simp only [xl, xt, xe, xa, xb, xm, xg, ne_eq, Int32.reduceToInt] at * <;> omega) | grind⟩ (by clear hQ9 h_k119 ih_self12; (try dsimp only); first | with_reducible assumption | (simp only [xl, xt, xe, xa, xb, xm, xg, ne_eq, Int32.reduceToInt] at * <;> omega) | grind)
        refine ok_if (fun q_60 => ?_) (fun q_60 => ?_)
        · skip
          exact h_j111 _ (by clear hQ9 h_k119 ih_self12 h_j111; first | with_reducible assumption | (simp only [xl, xt, xe, xa, xb, xm, xg, ne_eq, Int32.reduceToInt] at * <;> omega) | grind)
        · skip
          exact h_j111 _ (by clear hQ9 h_k119 ih_self12 h_j111; first | with_reducible assumption | (simp only [xl, xt, xe, xa, xb, xm, xg, ne_eq, Int32.reduceToInt] at * <;> omega) | grind)
      refine ok_if (fun q_61 => ?_) (fun q_61 => ?_)
      · skip
        refine ok_bd (s_BitReader_nextNumber (by clear hQ9 h_k119 ih_self12 h_j82; first | with_reducible assumption | (simp only [xl, xt, xe, xa, xb, xm, xg, ne_eq, Int32.reduceToInt] at * <;> omega) | grind) (by clear hQ9 h_k119 ih_self12 h_j82; first | with_reducible assumption | (simp only [xl, xt, xe, xa, xb, xm, xg, ne_eq, Int32.reduceToInt] at * <;> omega) | grind) (by clear hQ9 h_k119 ih_self12 h_j82; first | with_reducible assumption | (simp only [xl, xt, xe, xa, xb, xm, xg, ne_eq, Int32.reduceToInt] at * <;> omega) | grind)) (fun o9 h9 => ?_)
        obtain ⟨r_44, rd_place_45, rd_refusal_46⟩ := o9
        try dsimp only at h9
        try dsimp only
        obtain ⟨q_62, q_63, q_64, q_65⟩ := h9
        refine ok_nl (fun v3_47 e_v3_47 => ?_)
        refine ok_bd (s_BitReader_nextSigned (by clear hQ9 h_k119 ih_self12 h_j82; first | with_reducible assumption | (simp only [xl, xt, xe, xa, xb, xm, xg, ne_eq, Int32.reduceToInt] at * <;> omega) | grind) (by clear hQ9 h_k119 ih_self12 h_j82; first | with_reducible assumption | (simp only [xl, xt, xe, xa, xb, xm, xg, ne_eq, Int32.reduceToInt] at * <;> omega) | grind) (by clear hQ9 h_k119 ih_self12 h_j82; first | with_reducible assumption | (simp only [xl, xt, xe, xa, xb, xm, xg, ne_eq, Int32.reduceToInt] at * <;> omega) | grind)) (fun o9 h9 => ?_)
        obtain ⟨r_48, rd_place_49, rd_refusal_50⟩ := o9
        try dsimp only at h9
        try dsimp only
        obtain ⟨q_66, q_67, q_68⟩ := h9
        refine ok_nl (fun v7_51 e_v7_51 => ?_)
        exact h_j82 _ _ _ _ _ (by clear hQ9 h_k119 ih_self12 h_j82; first | with_reducible assumption | (simp only [xl, xt, xe, xa, xb, xm, xg, ne_eq, Int32.reduceToInt] at * <;> omega) | grind) (by clear hQ9 h_k119 ih_self12 h_j82; first | with_reducible assumption | (simp only [xl, xt, xe, xa, xb, xm, xg, ne_eq, Int32.reduceToInt] at * <;> omega) | grind)
      · skip
        refine ok_bd (s_Layout_nextS (by assumption) (by assumption) (by assumption) (by assumption) (by assumption) (by assumption) (by clear hQ9 h_k119 ih_self12 h_j82; first | with_reducible assumption | (simp only [xl, xt, xe, xa, xb, xm, xg, ne_eq, Int32.reduceToInt] at * <;> omega) | grind)) (fun o9 h9 => ?_)
        obtain ⟨r_52, rfl⟩ : ∃ z9, z9 = o9 := ⟨_, rfl⟩
        have q_69 := h9
        clear h9
        refine ok_bd (s_BitReader_nextSigned (by clear hQ9 h_k119 ih_self12 h_j82; first | with_reducible assumption | (simp only [xl, xt, xe, xa, xb, xm, xg, ne_eq, Int32.reduceToInt] at * <;> omega) | grind) (by clear hQ9 h_k119 ih_self12 h_j82; first | with_reducible assumption | (simp only [xl, xt, xe, xa, xb, xm, xg, ne_eq, Int32.reduceToInt] at * <;> omega) | grind) (by clear hQ9 h_k119 ih_self12 h_j82; first | with_reducible assumption | (simp only [xl, xt, xe, xa, xb, xm, xg, ne_eq, Int32.reduceToInt] at * <;> omega) | grind)) (fun o9 h9 => ?_)
        obtain ⟨r_53, rd_place_54, rd_refusal_55⟩ := o9
        try dsimp only at h9
        try dsimp only
        obtain ⟨q_70, q_71, q_72⟩ := h9
        refine ok_nl (fun v7_56 e_v7_56 => ?_)
        exact h_j82 _ _ _ _ _ (by clear hQ9 h_k119 ih_self12 h_j82; first | with_reducible assumption | (simp only [xl, xt, xe, xa, xb, xm, xg, ne_eq, Int32.reduceToInt] at * <;> omega) | grind) (by clear hQ9 h_k119 ih_self12 h_j82; first | with_reducible assumption | (simp only [xl, xt, xe, xa, xb, xm, xg, ne_eq, Int32.reduceToInt] at * <;> omega) | grind)
    · skip
      exact h_k119 _ _ _ _ _ _ _ _ _ (by clear hQ9 h_k119 ih_self12; first | with_reducible assumption | (simp only [xl, xt, xe, xa, xb, xm, xg, ne_eq, Int32.reduceToInt] at * <;> omega) | grind) (by clear hQ9 h_k119 ih_self12; first | with_reducible assumption | (simp only [xl, xt, xe, xa, xb, xm, xg, ne_eq, Int32.reduceToInt] at * <;> omega) | grind) (by clear hQ9 h_k119 ih_self12; first | with_reducible assumption | (simp only [xl, xt, xe, xa, xb, xm, xg, ne_eq, Int32.reduceToInt] at * <;> omega) | grind) (by clear hQ9 h_k119 ih_self12; first | with_reducible assumption | (simp only [xl, xt, xe, xa, xb, xm, xg, ne_eq, Int32.reduceToInt] at * <;> omega) | grind) (by assumption) (by assumption) (by assumption) (by assumption)

set_option maxHeartbeats 4000000 in
set_option maxRecDepth 20000 in
theorem s_Reader_readAll_F {la_ways : (Nat → Int32)} {cb_count : Int32} {cb_bytes : (Nat → Int32)} {na_row : (Nat → Int32)} {di_count : Int32} {di_widths : (Nat → Int32)} {di_heights : (Nat → Int32)} {la_symbolOf : (Nat → Int32)} {la_xs : (Nat → Int32)} {la_ys : (Nat → Int32)} {la_differs : (Nat → Int64)} (q_1 : R la_ways (0 : Int32) (7 : Int32)) (q_2 : ((0 : Int32) ≤ cb_count ∧ cb_count ≤ (2000 : Int32))) (q_3 : R na_row (0 : Int32) (15 : Int32)) (q_4 : ((0 : Int32) ≤ di_count ∧ di_count ≤ (16 : Int32))) (q_5 : R di_widths (0 : Int32) (8 : Int32)) (q_6 : R di_heights (0 : Int32) (8 : Int32)) (q_7 : R la_symbolOf (0 : Int32) (15 : Int32)) (q_8 : R la_xs (-8 : Int32) (31 : Int32)) (q_9 : R la_ys (-8 : Int32) (31 : Int32)) : ok (f_Reader_readAll_F la_ways cb_count cb_bytes na_row di_count di_widths di_heights la_symbolOf la_xs la_ys la_differs) (fun o => ((0 : Int32) ≤ o.1 ∧ o.1 ≤ (9 : Int32)) ∧ ((0 : Int32) ≤ o.2.1 ∧ o.2.1 ≤ (40 : Int32)) ∧ ((0 : Int32) ≤ o.2.2.1 ∧ o.2.2.1 ≤ (16000 : Int32)) ∧ ((0 : Int32) ≤ o.2.2.2.1 ∧ o.2.2.2.1 ≤ (9 : Int32)) ∧ R o.2.2.2.2.1 (0 : Int32) (7 : Int32) ∧ R o.2.2.2.2.2.1 (0 : Int32) (15 : Int32) ∧ R o.2.2.2.2.2.2.1 (0 : Int32) (15 : Int32) ∧ R o.2.2.2.2.2.2.2.1 (-8 : Int32) (31 : Int32) ∧ R o.2.2.2.2.2.2.2.2.1 (-8 : Int32) (31 : Int32)) := by
  refine ok_Q (fun Q9 hQ9 => ?_)
  unfold f_Reader_readAll_F
  refine ok_bd (s_BitReader_start) (fun o9 h9 => ?_)
  obtain ⟨rd_place_1, rd_refusal_2⟩ := o9
  try dsimp only at h9
  try dsimp only
  obtain ⟨q_10, q_11, q_12⟩ := h9
  refine ok_bd (s_Layout_empty (by assumption)) (fun o9 h9 => ?_)
  obtain ⟨la_count_3, la_ways_4⟩ := o9
  try dsimp only at h9
  try dsimp only
  obtain ⟨q_13, q_14⟩ := h9
  refine ok_bd (s_BitReader_nextNumber (by clear hQ9; first | with_reducible assumption | (simp only [xl, xt, xe, xa, xb, xm, xg, ne_eq, Int32.reduceToInt] at * <;> omega) | grind) (by clear hQ9; first | with_reducible assumption | (simp only [xl, xt, xe, xa, xb, xm, xg, ne_eq, Int32.reduceToInt] at * <;> omega) | grind) (by clear hQ9; first | with_reducible assumption | (simp only [xl, xt, xe, xa, xb, xm, xg, ne_eq, Int32.reduceToInt] at * <;> omega) | grind)) (fun o9 h9 => ?_)
  obtain ⟨r_5, rd_place_6, rd_refusal_7⟩ := o9
  try dsimp only at h9
  try dsimp only
  obtain ⟨q_15, q_16, q_17, q_18⟩ := h9
  refine ok_jn (fun j9 => ∀ (rd_refusal_8 : Int32), ((0 : Int32) ≤ rd_refusal_8 ∧ rd_refusal_8 ≤ (9 : Int32)) → (rd_refusal_8 = 0 → r_5 ≤ (40 : Int32)) → ok (j9 rd_refusal_8) Q9) ?_ (fun j33 h_j33 => ?_)
  · intro rd_refusal_8 q_19 q_20
    refine ok_ex (fun k9 => lp (f_Reader_readAll_F_L35 cb_count cb_bytes k9) FU ((0 : Int32), rd_place_6, rd_refusal_8, la_ways_4)) (fun j9 => ∀ (rd_place_13 : Int32) (rd_refusal_14 : Int32) (la_ways_15 : (Nat → Int32)), ((0 : Int32) ≤ rd_place_13 ∧ rd_place_13 ≤ (16000 : Int32)) → ((0 : Int32) ≤ rd_refusal_14 ∧ rd_refusal_14 ≤ (9 : Int32)) → R la_ways_15 (0 : Int32) (7 : Int32) → (rd_refusal_14 = 0 → r_5 ≤ (40 : Int32)) → ok (j9 rd_place_13 rd_refusal_14 la_ways_15) Q9) ?_ (fun k73 h_k73 => ?_)
    · intro rd_place_13 rd_refusal_14 la_ways_15 q_21 q_22 q_23 q_24
      refine ok_gq (4 : Int32) (by decide) (by clear hQ9; first | with_reducible assumption | (simp only [xl, xt, xe, xa, xb, xm, xg, ne_eq, Int32.reduceToInt] at * <;> omega) | grind) (by clear hQ9; first | with_reducible assumption | (simp only [xl, xt, xe, xa, xb, xm, xg, ne_eq, Int32.reduceToInt] at * <;> omega) | grind) ?_
      have q_25 := (by assumption : R la_ways_15 (0 : Int32) (7 : Int32)) ((3 : Int32)).toNatClampNeg
      refine ok_gq (4 : Int32) (by decide) (by clear hQ9; first | with_reducible assumption | (simp only [xl, xt, xe, xa, xb, xm, xg, ne_eq, Int32.reduceToInt] at * <;> omega) | grind) (by clear hQ9; first | with_reducible assumption | (simp only [xl, xt, xe, xa, xb, xm, xg, ne_eq, Int32.reduceToInt] at * <;> omega) | grind) ?_
      have q_26 := Rtb_MOST_OF_WAY ((3 : Int32)).toNatClampNeg
      refine ok_jn (fun j9 => ∀ (rd_refusal_21 : Int32), ((0 : Int32) ≤ rd_refusal_21 ∧ rd_refusal_21 ≤ (9 : Int32)) → (rd_refusal_21 = 0 → r_5 ≤ (40 : Int32)) → ok (j9 rd_refusal_21) Q9) ?_ (fun j95 h_j95 => ?_)
      · intro rd_refusal_21 q_27 q_28
        refine ok_bd (s_FrontNames_readTable (by assumption)) (fun o9 h9 => ?_)
        obtain ⟨na_row_22, rfl⟩ : ∃ z9, z9 = o9 := ⟨_, rfl⟩
        have q_29 := h9
        clear h9
        refine ok_bd (s_Reader_readInstances_F (by clear hQ9; first | with_reducible assumption | (simp only [xl, xt, xe, xa, xb, xm, xg, ne_eq, Int32.reduceToInt] at * <;> omega) | grind) (by clear hQ9; first | with_reducible assumption | (simp only [xl, xt, xe, xa, xb, xm, xg, ne_eq, Int32.reduceToInt] at * <;> omega) | grind) (by clear hQ9; first | with_reducible assumption | (simp only [xl, xt, xe, xa, xb, xm, xg, ne_eq, Int32.reduceToInt] at * <;> omega) | grind) (by assumption) (by clear hQ9; first | with_reducible assumption | (simp only [xl, xt, xe, xa, xb, xm, xg, ne_eq, Int32.reduceToInt] at * <;> omega) | grind) (by clear hQ9; first | with_reducible assumption | (simp only [xl, xt, xe, xa, xb, xm, xg, ne_eq, Int32.reduceToInt] at * <;> omega) | grind) (by assumption) (by assumption) (by assumption) (by assumption) (by assumption) (by assumption) (by clear hQ9; first | with_reducible assumption | (simp only [xl, xt, xe, xa, xb, xm, xg, ne_eq, Int32.reduceToInt] at * <;> omega) | grind) (by clear hQ9; first | with_reducible assumption | (simp only [xl, xt, xe, xa, xb, xm, xg, ne_eq, Int32.reduceToInt] at * <;> omega) | grind)) (fun o9 h9 => ?_)
        obtain ⟨la_count_23, rd_place_24, rd_refusal_25, na_row_26, la_symbolOf_27, la_xs_28, la_ys_29, la_differs_30⟩ := o9
        try dsimp only at h9
        try dsimp only
        obtain ⟨q_30, q_31, q_32, q_33, q_34, q_35, q_36⟩ := h9
        refine ok_bd (s_BitReader_readEnd (by clear hQ9; first | with_reducible assumption | (simp only [xl, xt, xe, xa, xb, xm, xg, ne_eq, Int32.reduceToInt] at * <;> omega) | grind) (by clear hQ9; first | with_reducible assumption | (simp only [xl, xt, xe, xa, xb, xm, xg, ne_eq, Int32.reduceToInt] at * <;> omega) | grind) (by clear hQ9; first | with_reducible assumption | (simp only [xl, xt, xe, xa, xb, xm, xg, ne_eq, Int32.reduceToInt] at * <;> omega) | grind)) (fun o9 h9 => ?_)
        obtain ⟨rd_place_31, rd_refusal_32⟩ := o9
        try dsimp only at h9
        try dsimp only
        obtain ⟨q_37, q_38⟩ := h9
        exact ok_some (hQ9 _ ⟨by clear hQ9; first | with_reducible assumption | (simp only [xl, xt, xe, xa, xb, xm, xg, ne_eq, Int32.reduceToInt] at * <;> omega) | grind, by clear hQ9; first | with_reducible assumption | (simp only [xl, xt, xe, xa, xb, xm, xg, ne_eq, Int32.reduceToInt] at * <;> omega) | grind, by clear hQ9; first | with_reducible assumption | (simp only [xl, xt, xe, xa, xb, xm, xg, ne_eq, Int32.reduceToInt] at * <;> omega) | grind, by clear hQ9; first | with_reducible assumption | (simp only [xl, xt, xe, xa, xb, xm, xg, ne_eq, Int32.reduceToInt] at * <;> omega) | grind, by assumption, by assumption, by assumption, by assumption, by assumption⟩)
      refine ok_if (fun q_39 => ?_) (fun q_39 => ?_)
      · skip
        exact h_j95 _ (by clear hQ9 h_j95; first | with_reducible assumption | (simp only [xl, xt, xe, xa, xb, xm, xg, ne_eq, Int32.reduceToInt] at * <;> omega) | grind) (by clear hQ9 h_j95; first | with_reducible assumption | (simp only [xl, xt, xe, xa, xb, xm, xg, ne_eq, Int32.reduceToInt] at * <;> omega) | grind)
      · skip
        refine ok_bd (s_BitReader_refuse (by clear hQ9 h_j95; first | with_reducible assumption | (simp only [xl, xt, xe, xa, xb, xm, xg, ne_eq, Int32.reduceToInt] at * <;> omega) | grind) (by clear hQ9 h_j95; first | with_reducible assumption | (simp only [xl, xt, xe, xa, xb, xm, xg, ne_eq, Int32.reduceToInt] at * <;> omega) | grind)) (fun o9 h9 => ?_)
        obtain ⟨rd_refusal_33, rfl⟩ : ∃ z9, z9 = o9 := ⟨_, rfl⟩
        obtain ⟨q_40, q_41⟩ := h9
        exact h_j95 _ (by clear hQ9 h_j95; first | with_reducible assumption | (simp only [xl, xt, xe, xa, xb, xm, xg, ne_eq, Int32.reduceToInt] at * <;> omega) | grind) (by clear hQ9 h_j95; first | with_reducible assumption | (simp only [xl, xt, xe, xa, xb, xm, xg, ne_eq, Int32.reduceToInt] at * <;> omega) | grind)
    refine ok_lp (fun s9 => ((0 : Int32) ≤ s9.1 ∧ s9.1 ≤ (4 : Int32)) ∧ ((0 : Int32) ≤ s9.2.1 ∧ s9.2.1 ≤ (16000 : Int32)) ∧ ((0 : Int32) ≤ s9.2.2.1 ∧ s9.2.2.1 ≤ (9 : Int32)) ∧ R s9.2.2.2 (0 : Int32) (7 : Int32) ∧ (s9.2.2.1 = 0 → r_5 ≤ (40 : Int32))) (fun s9 => 4 - s9.1) ⟨by clear hQ9 h_k73; first | with_reducible assumption | (simp only [xl, xt, xe, xa, xb, xm, xg, ne_eq, Int32.reduceToInt] at * <;> omega) | grind, by clear hQ9 h_k73; first | with_reducible assumption | (simp only [xl, xt, xe, xa, xb, xm, xg, ne_eq, Int32.reduceToInt] at * <;> omega) | grind, by clear hQ9 h_k73; first | with_reducible assumption | (simp only [xl, xt, xe, xa, xb, xm, xg, ne_eq, Int32.reduceToInt] at * <;> omega) | grind, by assumption, by clear hQ9 h_k73; first | with_reducible assumption | (simp only [xl, xt, xe, xa, xb, xm, xg, ne_eq, Int32.reduceToInt] at * <;> omega) | grind⟩ ?_ ?_
    · intro s9 hs9; obtain ⟨v3_9, rd_place_10, rd_refusal_11, la_ways_12⟩ := s9; try dsimp only at hs9; obtain ⟨q_42, q_43, q_44, q_45, q_46⟩ := hs9; exact ⟨by clear hQ9 h_k73; (try dsimp only); first | with_reducible assumption | (simp only [xl, xt, xe, xa, xb, xm, xg, ne_eq, Int32.reduceToInt] at * <;> omega) | grind, by clear hQ9 h_k73; (try dsimp only); first | with_reducible assumption | (simp only [xl, xt, xe, xa, xb, xm, xg, ne_eq, Int32.reduceToInt] at * <;> omega) | grind⟩
    intro self35 s9 hs9 ih_self35
    obtain ⟨v3_9, rd_place_10, rd_refusal_11, la_ways_12⟩ := s9; try dsimp only at hs9; obtain ⟨q_42, q_43, q_44, q_45, q_46⟩ := hs9
    unfold f_Reader_readAll_F_L35
    try dsimp only
    try dsimp only at ih_self35
    refine ok_if (fun q_47 => ?_) (fun q_47 => ?_)
    · skip
      exact h_k73 _ _ _ (by clear hQ9 h_k73 ih_self35; first | with_reducible assumption | (simp only [xl, xt, xe, xa, xb, xm, xg, ne_eq, Int32.reduceToInt] at * <;> omega) | grind) (by clear hQ9 h_k73 ih_self35; first | with_reducible assumption | (simp only [xl, xt, xe, xa, xb, xm, xg, ne_eq, Int32.reduceToInt] at * <;> omega) | grind) (by assumption) (by clear hQ9 h_k73 ih_self35; first | with_reducible assumption | (simp only [xl, xt, xe, xa, xb, xm, xg, ne_eq, Int32.reduceToInt] at * <;> omega) | grind)
    · skip
      refine ok_gq (4 : Int32) (by decide) (by clear hQ9 h_k73 ih_self35; first | with_reducible assumption | (simp only [xl, xt, xe, xa, xb, xm, xg, ne_eq, Int32.reduceToInt] at * <;> omega) | grind) (by clear hQ9 h_k73 ih_self35; first | with_reducible assumption | (simp only [xl, xt, xe, xa, xb, xm, xg, ne_eq, Int32.reduceToInt] at * <;> omega) | grind) ?_
      have q_48 := Rtb_WAYS_AS_TOLD (v3_9).toNatClampNeg
      refine ok_nl (fun v4_16 e_v4_16 => ?_)
      refine ok_gq (4 : Int32) (by decide) (by clear hQ9 h_k73 ih_self35; first | with_reducible assumption | (simp only [xl, xt, xe, xa, xb, xm, xg, ne_eq, Int32.reduceToInt] at * <;> omega) | grind) (by clear hQ9 h_k73 ih_self35; first | with_reducible assumption | (simp only [xl, xt, xe, xa, xb, xm, xg, ne_eq, Int32.reduceToInt] at * <;> omega) | grind) ?_
      have q_49 := Rtb_BITS_OF_WAY (v4_16).toNatClampNeg
      refine ok_bd (s_BitReader_nextBits (by clear hQ9 h_k73 ih_self35; first | with_reducible assumption | (simp only [xl, xt, xe, xa, xb, xm, xg, ne_eq, Int32.reduceToInt] at * <;> omega) | grind) (by clear hQ9 h_k73 ih_self35; first | with_reducible assumption | (simp only [xl, xt, xe, xa, xb, xm, xg, ne_eq, Int32.reduceToInt] at * <;> omega) | grind) (by clear hQ9 h_k73 ih_self35; first | with_reducible assumption | (simp only [xl, xt, xe, xa, xb, xm, xg, ne_eq, Int32.reduceToInt] at * <;> omega) | grind) (by clear hQ9 h_k73 ih_self35; first | with_reducible assumption | (simp only [xl, xt, xe, xa, xb, xm, xg, ne_eq, Int32.reduceToInt] at * <;> omega) | grind)) (fun o9 h9 => ?_)
      obtain ⟨r_17, rd_place_18, rd_refusal_19⟩ := o9
      try dsimp only at h9
      try dsimp only
      obtain ⟨q_50, q_51, q_52, q_53, q_54⟩ := h9
      have q_p3 := pw_3b (tb_BITS_OF_WAY v4_16.toNatClampNeg) (by clear hQ9 h_k73 ih_self35; first | with_reducible assumption | (simp only [xl, xt, xe, xa, xb, xm, xg, ne_eq, Int32.reduceToInt] at * <;> omega) | grind) (by clear hQ9 h_k73 ih_self35; first | with_reducible assumption | (simp only [xl, xt, xe, xa, xb, xm, xg, ne_eq, Int32.reduceToInt] at * <;> omega) | grind)
      refine ok_gq (4 : Int32) (by decide) (by clear hQ9 h_k73 ih_self35; first | with_reducible assumption | (simp only [xl, xt, xe, xa, xb, xm, xg, ne_eq, Int32.reduceToInt] at * <;> omega) | grind) (by clear hQ9 h_k73 ih_self35; first | with_reducible assumption | (simp only [xl, xt, xe, xa, xb, xm, xg, ne_eq, Int32.reduceToInt] at * <;> omega) | grind) ?_
      have q_55 : R (upd la_ways_12 (v4_16).toNatClampNeg r_17) (0 : Int32) (7 : Int32) := R_upd (by assumption) _ (by clear hQ9 h_k73 ih_self35; first | with_reducible assumption | (simp only [xl, xt, xe, xa, xb, xm, xg, ne_eq, Int32.reduceToInt] at * <;> omega) | grind)
      refine ok_nl (fun v3_20 e_v3_20 => ?_)
      exact ih_self35 (v3_20, rd_place_18, rd_refusal_19, (upd la_ways_12 (v4_16).toNatClampNeg r_17)) ⟨by clear hQ9 h_k73 ih_self35; first | with_reducible assumption | (simp only [xl, xt, xe, xa, xb, xm, xg, ne_eq, Int32.reduceToInt] at * <;> omega) | grind, by clear hQ9 h_k73 ih_self35; first | with_reducible assumption | (simp only [xl, xt, xe, xa, xb, xm, xg, ne_eq, Int32.reduceToInt] at * <;> omega) | grind, by clear hQ9 h_k73 ih_self35; first | with_reducible assumption | (simp only [xl, xt, xe, xa, xb, xm, xg, ne_eq, Int32.reduceToInt] at * <;> omega) | grind, by assumption, by clear hQ9 h_k73 ih_self35; first | with_reducible assumption | (simp only [xl, xt, xe, xa, xb, xm, xg, ne_eq, Int32.reduceToInt] at * <;> omega) | grind⟩ (by clear hQ9 h_k73 ih_self35; (try dsimp only); first | with_reducible assumption | (simp only [xl, xt, xe, xa, xb, xm, xg, ne_eq, Int32.reduceToInt] at * <;> omega) | grind)
  refine ok_if (fun q_56 => ?_) (fun q_56 => ?_)
  · skip
    exact h_j33 _ (by clear hQ9 h_j33; first | with_reducible assumption | (simp only [xl, xt, xe, xa, xb, xm, xg, ne_eq, Int32.reduceToInt] at * <;> omega) | grind) (by clear hQ9 h_j33; first | with_reducible assumption | (simp only [xl, xt, xe, xa, xb, xm, xg, ne_eq, Int32.reduceToInt] at * <;> omega) | grind)
  · skip
    refine ok_bd (s_BitReader_refuse (by clear hQ9 h_j33; first | with_reducible assumption | (simp only [xl, xt, xe, xa, xb, xm, xg, ne_eq, Int32.reduceToInt] at * <;> omega) | grind) (by clear hQ9 h_j33; first | with_reducible assumption | (simp only [xl, xt, xe, xa, xb, xm, xg, ne_eq, Int32.reduceToInt] at * <;> omega) | grind)) (fun o9 h9 => ?_)
    obtain ⟨rd_refusal_34, rfl⟩ : ∃ z9, z9 = o9 := ⟨_, rfl⟩
    obtain ⟨q_57, q_58⟩ := h9
    exact h_j33 _ (by clear hQ9 h_j33; first | with_reducible assumption | (simp only [xl, xt, xe, xa, xb, xm, xg, ne_eq, Int32.reduceToInt] at * <;> omega) | grind) (by clear hQ9 h_j33; first | with_reducible assumption | (simp only [xl, xt, xe, xa, xb, xm, xg, ne_eq, Int32.reduceToInt] at * <;> omega) | grind)

