set_option maxHeartbeats 4000000 in
set_option maxRecDepth 20000 in
theorem s_FrontNames_putByNumber {na_row : (Nat → Int32)} (q_1 : R na_row (0 : Int32) (15 : Int32)) : ok (f_FrontNames_putByNumber na_row) (fun o => R o (0 : Int32) (15 : Int32)) := by
  refine ok_Q (fun Q9 hQ9 => ?_)
  unfold f_FrontNames_putByNumber
  refine ok_lp (fun s9 => ((0 : Int32) ≤ s9.1 ∧ s9.1 ≤ (16 : Int32)) ∧ R s9.2 (0 : Int32) (15 : Int32)) (fun s9 => 16 - s9.1) ⟨by clear hQ9; first | with_reducible assumption | (simp only [xl, xt, xe, xa, xb, xm, xg, ne_eq, Int32.reduceToInt] at * <;> omega) | grind, by assumption⟩ ?_ ?_
  · intro s9 hs9; obtain ⟨v1_1, na_row_2⟩ := s9; try dsimp only at hs9; obtain ⟨q_2, q_3⟩ := hs9; exact ⟨by clear hQ9; (try dsimp only); first | with_reducible assumption | (simp only [xl, xt, xe, xa, xb, xm, xg, ne_eq, Int32.reduceToInt] at * <;> omega) | grind, by clear hQ9; (try dsimp only); first | with_reducible assumption | (simp only [xl, xt, xe, xa, xb, xm, xg, ne_eq, Int32.reduceToInt] at * <;> omega) | grind⟩
  intro self2 s9 hs9 ih_self2
  obtain ⟨v1_1, na_row_2⟩ := s9; try dsimp only at hs9; obtain ⟨q_2, q_3⟩ := hs9
  unfold f_FrontNames_putByNumber_L2
  try dsimp only
  try dsimp only at ih_self2
  refine ok_if (fun q_4 => ?_) (fun q_4 => ?_)
  · skip
    exact ok_some (hQ9 _ (by assumption))
  · skip
    refine ok_gq (16 : Int32) (by decide) (by clear hQ9 ih_self2; first | with_reducible assumption | (simp only [xl, xt, xe, xa, xb, xm, xg, ne_eq, Int32.reduceToInt] at * <;> omega) | grind) (by clear hQ9 ih_self2; first | with_reducible assumption | (simp only [xl, xt, xe, xa, xb, xm, xg, ne_eq, Int32.reduceToInt] at * <;> omega) | grind) ?_
    have q_5 : R (upd na_row_2 (v1_1).toNatClampNeg v1_1) (0 : Int32) (15 : Int32) := R_upd (by assumption) _ (by clear hQ9 ih_self2; first | with_reducible assumption | (simp only [xl, xt, xe, xa, xb, xm, xg, ne_eq, Int32.reduceToInt] at * <;> omega) | grind)
    refine ok_nl (fun v1_3 e_v1_3 => ?_)
    exact ih_self2 (v1_3, (upd na_row_2 (v1_1).toNatClampNeg v1_1)) ⟨by clear hQ9 ih_self2; first | with_reducible assumption | (simp only [xl, xt, xe, xa, xb, xm, xg, ne_eq, Int32.reduceToInt] at * <;> omega) | grind, by assumption⟩ (by clear hQ9 ih_self2; (try dsimp only); first | with_reducible assumption | (simp only [xl, xt, xe, xa, xb, xm, xg, ne_eq, Int32.reduceToInt] at * <;> omega) | grind)

set_option maxHeartbeats 4000000 in
set_option maxRecDepth 20000 in
theorem s_FrontNames_toFront {na_row : (Nat → Int32)} {p0 : Int32} (q_1 : R na_row (0 : Int32) (15 : Int32)) (q_2 : ((0 : Int32) ≤ p0 ∧ p0 ≤ (15 : Int32))) : ok (f_FrontNames_toFront na_row p0) (fun o => R o (0 : Int32) (15 : Int32)) := by
  refine ok_Q (fun Q9 hQ9 => ?_)
  unfold f_FrontNames_toFront
  refine ok_gq (16 : Int32) (by decide) (by clear hQ9; first | with_reducible assumption | (simp only [xl, xt, xe, xa, xb, xm, xg, ne_eq, Int32.reduceToInt] at * <;> omega) | grind) (by clear hQ9; first | with_reducible assumption | (simp only [xl, xt, xe, xa, xb, xm, xg, ne_eq, Int32.reduceToInt] at * <;> omega) | grind) ?_
  have q_3 := (by assumption : R na_row (0 : Int32) (15 : Int32)) (p0).toNatClampNeg
  refine ok_nl (fun v2_1 e_v2_1 => ?_)
  refine ok_lp (fun s9 => ((0 : Int32) ≤ s9.1 ∧ s9.1 ≤ (15 : Int32)) ∧ R s9.2 (0 : Int32) (15 : Int32)) (fun s9 => s9.1) ⟨by clear hQ9; first | with_reducible assumption | (simp only [xl, xt, xe, xa, xb, xm, xg, ne_eq, Int32.reduceToInt] at * <;> omega) | grind, by assumption⟩ ?_ ?_
  · intro s9 hs9; obtain ⟨v3_2, na_row_3⟩ := s9; try dsimp only at hs9; obtain ⟨q_4, q_5⟩ := hs9; exact ⟨by clear hQ9; (try dsimp only); first | with_reducible assumption | (simp only [xl, xt, xe, xa, xb, xm, xg, ne_eq, Int32.reduceToInt] at * <;> omega) | grind, by clear hQ9; (try dsimp only); first | with_reducible assumption | (simp only [xl, xt, xe, xa, xb, xm, xg, ne_eq, Int32.reduceToInt] at * <;> omega) | grind⟩
  intro self9 s9 hs9 ih_self9
  obtain ⟨v3_2, na_row_3⟩ := s9; try dsimp only at hs9; obtain ⟨q_4, q_5⟩ := hs9
  unfold f_FrontNames_toFront_L9
  try dsimp only
  try dsimp only at ih_self9
  refine ok_if (fun q_6 => ?_) (fun q_6 => ?_)
  · skip
    refine ok_gq (16 : Int32) (by decide) (by clear hQ9 ih_self9; first | with_reducible assumption | (simp only [xl, xt, xe, xa, xb, xm, xg, ne_eq, Int32.reduceToInt] at * <;> omega) | grind) (by clear hQ9 ih_self9; first | with_reducible assumption | (simp only [xl, xt, xe, xa, xb, xm, xg, ne_eq, Int32.reduceToInt] at * <;> omega) | grind) ?_
    have q_7 : R (upd na_row_3 ((0 : Int32)).toNatClampNeg v2_1) (0 : Int32) (15 : Int32) := R_upd (by assumption) _ (by clear hQ9 ih_self9; first | with_reducible assumption | (simp only [xl, xt, xe, xa, xb, xm, xg, ne_eq, Int32.reduceToInt] at * <;> omega) | grind)
    exact ok_some (hQ9 _ (by assumption))
  · skip
    refine ok_gq (16 : Int32) (by decide) (by clear hQ9 ih_self9; first | with_reducible assumption | (simp only [xl, xt, xe, xa, xb, xm, xg, ne_eq, Int32.reduceToInt] at * <;> omega) | grind) (by clear hQ9 ih_self9; first | with_reducible assumption | (simp only [xl, xt, xe, xa, xb, xm, xg, ne_eq, Int32.reduceToInt] at * <;> omega) | grind) ?_
    have q_8 := (by assumption : R na_row_3 (0 : Int32) (15 : Int32)) ((v3_2 - (1 : Int32))).toNatClampNeg
    refine ok_nl (fun w_4 e_w_4 => ?_)
    refine ok_gq (16 : Int32) (by decide) (by clear hQ9 ih_self9; first | with_reducible assumption | (simp only [xl, xt, xe, xa, xb, xm, xg, ne_eq, Int32.reduceToInt] at * <;> omega) | grind) (by clear hQ9 ih_self9; first | with_reducible assumption | (simp only [xl, xt, xe, xa, xb, xm, xg, ne_eq, Int32.reduceToInt] at * <;> omega) | grind) ?_
    have q_9 : R (upd na_row_3 (v3_2).toNatClampNeg w_4) (0 : Int32) (15 : Int32) := R_upd (by assumption) _ (by clear hQ9 ih_self9; first | with_reducible assumption | (simp only [xl, xt, xe, xa, xb, xm, xg, ne_eq, Int32.reduceToInt] at * <;> omega) | grind)
    refine ok_nl (fun v3_5 e_v3_5 => ?_)
    exact ih_self9 (v3_5, (upd na_row_3 (v3_2).toNatClampNeg w_4)) ⟨by clear hQ9 ih_self9; first | with_reducible assumption | (simp only [xl, xt, xe, xa, xb, xm, xg, ne_eq, Int32.reduceToInt] at * <;> omega) | grind, by assumption⟩ (by clear hQ9 ih_self9; (try dsimp only); first | with_reducible assumption | (simp only [xl, xt, xe, xa, xb, xm, xg, ne_eq, Int32.reduceToInt] at * <;> omega) | grind)

set_option maxHeartbeats 4000000 in
set_option maxRecDepth 20000 in
theorem s_FrontNames_suit : ok (f_FrontNames_suit ) (fun o => True) := by
  refine ok_Q (fun Q9 hQ9 => ?_)
  unfold f_FrontNames_suit
  exact ok_some (hQ9 _ trivial)

set_option maxHeartbeats 4000000 in
set_option maxRecDepth 20000 in
theorem s_FrontNames_tellTable {na_row : (Nat → Int32)} (q_1 : R na_row (0 : Int32) (15 : Int32)) : ok (f_FrontNames_tellTable na_row) (fun o => R o (0 : Int32) (15 : Int32)) := by
  refine ok_Q (fun Q9 hQ9 => ?_)
  unfold f_FrontNames_tellTable
  refine ok_bd (s_FrontNames_putByNumber (by assumption)) (fun o9 h9 => ?_)
  obtain ⟨na_row_1, rfl⟩ : ∃ z9, z9 = o9 := ⟨_, rfl⟩
  have q_2 := h9
  clear h9
  exact ok_some (hQ9 _ (by assumption))

set_option maxHeartbeats 4000000 in
set_option maxRecDepth 20000 in
theorem s_FrontNames_tellName {wr_keeping : Int32} {wr_count : Int32} {di_count : Int32} {na_row : (Nat → Int32)} {tb_count : Int32} {tb_bytes : (Nat → Int32)} {p0 : Int32} (q_1 : ((0 : Int32) ≤ wr_keeping ∧ wr_keeping ≤ (1 : Int32))) (q_2 : ((0 : Int32) ≤ wr_count ∧ wr_count ≤ (1000000 : Int32))) (q_3 : ((0 : Int32) ≤ di_count ∧ di_count ≤ (16 : Int32))) (q_4 : R na_row (0 : Int32) (15 : Int32)) (q_5 : ((0 : Int32) ≤ tb_count ∧ tb_count ≤ (2000 : Int32))) (q_6 : wr_count ≤ (800000 : Int32)) : ok (f_FrontNames_tellName wr_keeping wr_count di_count na_row tb_count tb_bytes p0) (fun o => ((0 : Int32) ≤ o.1 ∧ o.1 ≤ (1000000 : Int32)) ∧ R o.2.1 (0 : Int32) (15 : Int32) ∧ ((0 : Int32) ≤ o.2.2.1 ∧ o.2.2.1 ≤ (2000 : Int32)) ∧ o.1 ≤ wr_count + 25) := by
  refine ok_Q (fun Q9 hQ9 => ?_)
  unfold f_FrontNames_tellName
  refine ok_ex (fun k9 => lp (f_FrontNames_tellName_L2 di_count na_row p0 k9) FU (0 : Int32)) (fun j9 => ∀ (v3_2 : Int32), ((0 : Int32) ≤ v3_2 ∧ v3_2 ≤ (15 : Int32)) → ok (j9 v3_2) Q9) ?_ (fun k31 h_k31 => ?_)
  · intro v3_2 q_7
    refine ok_bd (s_BitWriter_tellNumber (by clear hQ9; first | with_reducible assumption | (simp only [xl, xt, xe, xa, xb, xm, xg, ne_eq, Int32.reduceToInt] at * <;> omega) | grind) (by clear hQ9; first | with_reducible assumption | (simp only [xl, xt, xe, xa, xb, xm, xg, ne_eq, Int32.reduceToInt] at * <;> omega) | grind) (by clear hQ9; first | with_reducible assumption | (simp only [xl, xt, xe, xa, xb, xm, xg, ne_eq, Int32.reduceToInt] at * <;> omega) | grind) (by clear hQ9; first | with_reducible assumption | (simp only [xl, xt, xe, xa, xb, xm, xg, ne_eq, Int32.reduceToInt] at * <;> omega) | grind)) (fun o9 h9 => ?_)
    obtain ⟨wr_count_4, tb_count_5, tb_bytes_6⟩ := o9
    try dsimp only at h9
    try dsimp only
    obtain ⟨q_8, q_9, q_10⟩ := h9
    refine ok_bd (s_FrontNames_toFront (by assumption) (by clear hQ9; first | with_reducible assumption | (simp only [xl, xt, xe, xa, xb, xm, xg, ne_eq, Int32.reduceToInt] at * <;> omega) | grind)) (fun o9 h9 => ?_)
    obtain ⟨na_row_7, rfl⟩ : ∃ z9, z9 = o9 := ⟨_, rfl⟩
    have q_11 := h9
    clear h9
    exact ok_some (hQ9 _ ⟨by clear hQ9; first | with_reducible assumption | (simp only [xl, xt, xe, xa, xb, xm, xg, ne_eq, Int32.reduceToInt] at * <;> omega) | grind, by assumption, by clear hQ9; first | with_reducible assumption | (simp only [xl, xt, xe, xa, xb, xm, xg, ne_eq, Int32.reduceToInt] at * <;> omega) | grind, by clear hQ9; first | with_reducible assumption | (simp only [xl, xt, xe, xa, xb, xm, xg, ne_eq, Int32.reduceToInt] at * <;> omega) | grind⟩)
  refine ok_lp (fun s9 => ((0 : Int32) ≤ s9 ∧ s9 ≤ (15 : Int32))) (fun s9 => 15 - s9) (by clear hQ9 h_k31; first | with_reducible assumption | (simp only [xl, xt, xe, xa, xb, xm, xg, ne_eq, Int32.reduceToInt] at * <;> omega) | grind) ?_ ?_
  · intro s9 hs9; obtain ⟨v3_1, rfl⟩ : ∃ z9, z9 = s9 := ⟨_, rfl⟩; have q_12 := hs9; exact ⟨by clear hQ9 h_k31; (try dsimp only); first | with_reducible assumption | (simp only [xl, xt, xe, xa, xb, xm, xg, ne_eq, Int32.reduceToInt] at * <;> omega) | grind, by clear hQ9 h_k31; (try dsimp only); first | with_reducible assumption | (simp only [xl, xt, xe, xa, xb, xm, xg, ne_eq, Int32.reduceToInt] at * <;> omega) | grind⟩
  intro self2 s9 hs9 ih_self2
  obtain ⟨v3_1, rfl⟩ : ∃ z9, z9 = s9 := ⟨_, rfl⟩; have q_12 := hs9
  unfold f_FrontNames_tellName_L2
  try dsimp only
  try dsimp only at ih_self2
  refine ok_if (fun q_13 => ?_) (fun q_13 => ?_)
  · skip
    exact h_k31 _ (by clear hQ9 h_k31 ih_self2; first | with_reducible assumption | (simp only [xl, xt, xe, xa, xb, xm, xg, ne_eq, Int32.reduceToInt] at * <;> omega) | grind)
  · skip
    refine ok_gq (16 : Int32) (by decide) (by clear hQ9 h_k31 ih_self2; first | with_reducible assumption | (simp only [xl, xt, xe, xa, xb, xm, xg, ne_eq, Int32.reduceToInt] at * <;> omega) | grind) (by clear hQ9 h_k31 ih_self2; first | with_reducible assumption | (simp only [xl, xt, xe, xa, xb, xm, xg, ne_eq, Int32.reduceToInt] at * <;> omega) | grind) ?_
    have q_14 := (by assumption : R na_row (0 : Int32) (15 : Int32)) (v3_1).toNatClampNeg
    refine ok_if (fun q_15 => ?_) (fun q_15 => ?_)
    · skip
      exact h_k31 _ (by clear hQ9 h_k31 ih_self2; first | with_reducible assumption | (simp only [xl, xt, xe, xa, xb, xm, xg, ne_eq, Int32.reduceToInt] at * <;> omega) | grind)
    · skip
      refine ok_nl (fun v3_3 e_v3_3 => ?_)
      exact ih_self2 v3_3 (by clear hQ9 h_k31 ih_self2; first | with_reducible assumption | (simp only [xl, xt, xe, xa, xb, xm, xg, ne_eq, Int32.reduceToInt] at * <;> omega) | grind) (by clear hQ9 h_k31 ih_self2; (try dsimp only); first | with_reducible assumption | (simp only [xl, xt, xe, xa, xb, xm, xg, ne_eq, Int32.reduceToInt] at * <;> omega) | grind)

set_option maxHeartbeats 4000000 in
set_option maxRecDepth 20000 in
theorem s_FrontNames_readTable {na_row : (Nat → Int32)} {p1 : Int32} (q_1 : R na_row (0 : Int32) (15 : Int32)) : ok (f_FrontNames_readTable na_row p1) (fun o => R o (0 : Int32) (15 : Int32)) := by
  refine ok_Q (fun Q9 hQ9 => ?_)
  unfold f_FrontNames_readTable
  refine ok_bd (s_FrontNames_putByNumber (by assumption)) (fun o9 h9 => ?_)
  obtain ⟨na_row_1, rfl⟩ : ∃ z9, z9 = o9 := ⟨_, rfl⟩
  have q_2 := h9
  clear h9
  exact ok_some (hQ9 _ (by assumption))

set_option maxHeartbeats 4000000 in
set_option maxRecDepth 20000 in
theorem s_FrontNames_readName {rd_place : Int32} {rd_refusal : Int32} {cb_count : Int32} {cb_bytes : (Nat → Int32)} {di_count : Int32} {na_row : (Nat → Int32)} (q_1 : ((0 : Int32) ≤ rd_place ∧ rd_place ≤ (16000 : Int32))) (q_2 : ((0 : Int32) ≤ rd_refusal ∧ rd_refusal ≤ (9 : Int32))) (q_3 : ((0 : Int32) ≤ cb_count ∧ cb_count ≤ (2000 : Int32))) (q_4 : ((0 : Int32) ≤ di_count ∧ di_count ≤ (16 : Int32))) (q_5 : R na_row (0 : Int32) (15 : Int32)) : ok (f_FrontNames_readName rd_place rd_refusal cb_count cb_bytes di_count na_row) (fun o => ((0 : Int32) ≤ o.1 ∧ o.1 ≤ (15 : Int32)) ∧ ((0 : Int32) ≤ o.2.1 ∧ o.2.1 ≤ (16000 : Int32)) ∧ ((0 : Int32) ≤ o.2.2.1 ∧ o.2.2.1 ≤ (9 : Int32)) ∧ R o.2.2.2 (0 : Int32) (15 : Int32) ∧ (o.2.2.1 = 0 → rd_refusal = 0)) := by
  refine ok_Q (fun Q9 hQ9 => ?_)
  unfold f_FrontNames_readName
  refine ok_bd (s_BitReader_nextNumber (by clear hQ9; first | with_reducible assumption | (simp only [xl, xt, xe, xa, xb, xm, xg, ne_eq, Int32.reduceToInt] at * <;> omega) | grind) (by clear hQ9; first | with_reducible assumption | (simp only [xl, xt, xe, xa, xb, xm, xg, ne_eq, Int32.reduceToInt] at * <;> omega) | grind) (by clear hQ9; first | with_reducible assumption | (simp only [xl, xt, xe, xa, xb, xm, xg, ne_eq, Int32.reduceToInt] at * <;> omega) | grind)) (fun o9 h9 => ?_)
  obtain ⟨r_1, rd_place_2, rd_refusal_3⟩ := o9
  try dsimp only at h9
  try dsimp only
  obtain ⟨q_6, q_7, q_8, q_9⟩ := h9
  refine ok_bd (s_BitReader_isRefused (by clear hQ9; first | with_reducible assumption | (simp only [xl, xt, xe, xa, xb, xm, xg, ne_eq, Int32.reduceToInt] at * <;> omega) | grind)) (fun o9 h9 => ?_)
  obtain ⟨r_4, rfl⟩ : ∃ z9, z9 = o9 := ⟨_, rfl⟩
  obtain ⟨q_10, q_11⟩ := h9
  refine ok_if (fun q_12 => ?_) (fun q_12 => ?_)
  · skip
    refine ok_if (fun q_13 => ?_) (fun q_13 => ?_)
    · skip
      refine ok_bd (s_FrontNames_toFront (by assumption) (by clear hQ9; first | with_reducible assumption | (simp only [xl, xt, xe, xa, xb, xm, xg, ne_eq, Int32.reduceToInt] at * <;> omega) | grind)) (fun o9 h9 => ?_)
      obtain ⟨na_row_5, rfl⟩ : ∃ z9, z9 = o9 := ⟨_, rfl⟩
      have q_14 := h9
      clear h9
      refine ok_gq (16 : Int32) (by decide) (by clear hQ9; first | with_reducible assumption | (simp only [xl, xt, xe, xa, xb, xm, xg, ne_eq, Int32.reduceToInt] at * <;> omega) | grind) (by clear hQ9; first | with_reducible assumption | (simp only [xl, xt, xe, xa, xb, xm, xg, ne_eq, Int32.reduceToInt] at * <;> omega) | grind) ?_
      have q_15 := (by assumption : R na_row_5 (0 : Int32) (15 : Int32)) ((0 : Int32)).toNatClampNeg
      exact ok_some (hQ9 _ ⟨by clear hQ9; first | with_reducible assumption | (simp only [xl, xt, xe, xa, xb, xm, xg, ne_eq, Int32.reduceToInt] at * <;> omega) | grind, by clear hQ9; first | with_reducible assumption | (simp only [xl, xt, xe, xa, xb, xm, xg, ne_eq, Int32.reduceToInt] at * <;> omega) | grind, by clear hQ9; first | with_reducible assumption | (simp only [xl, xt, xe, xa, xb, xm, xg, ne_eq, Int32.reduceToInt] at * <;> omega) | grind, by assumption, by clear hQ9; first | with_reducible assumption | (simp only [xl, xt, xe, xa, xb, xm, xg, ne_eq, Int32.reduceToInt] at * <;> omega) | grind⟩)
    · skip
      refine ok_bd (s_BitReader_refuse (by clear hQ9; first | with_reducible assumption | (simp only [xl, xt, xe, xa, xb, xm, xg, ne_eq, Int32.reduceToInt] at * <;> omega) | grind) (by clear hQ9; first | with_reducible assumption | (simp only [xl, xt, xe, xa, xb, xm, xg, ne_eq, Int32.reduceToInt] at * <;> omega) | grind)) (fun o9 h9 => ?_)
      obtain ⟨rd_refusal_6, rfl⟩ : ∃ z9, z9 = o9 := ⟨_, rfl⟩
      obtain ⟨q_16, q_17⟩ := h9
      exact ok_some (hQ9 _ ⟨by clear hQ9; first | with_reducible assumption | (simp only [xl, xt, xe, xa, xb, xm, xg, ne_eq, Int32.reduceToInt] at * <;> omega) | grind, by clear hQ9; first | with_reducible assumption | (simp only [xl, xt, xe, xa, xb, xm, xg, ne_eq, Int32.reduceToInt] at * <;> omega) | grind, by clear hQ9; first | with_reducible assumption | (simp only [xl, xt, xe, xa, xb, xm, xg, ne_eq, Int32.reduceToInt] at * <;> omega) | grind, by assumption, by clear hQ9; first | with_reducible assumption | (simp only [xl, xt, xe, xa, xb, xm, xg, ne_eq, Int32.reduceToInt] at * <;> omega) | grind⟩)
  · skip
    exact ok_some (hQ9 _ ⟨by clear hQ9; first | with_reducible assumption | (simp only [xl, xt, xe, xa, xb, xm, xg, ne_eq, Int32.reduceToInt] at * <;> omega) | grind, by clear hQ9; first | with_reducible assumption | (simp only [xl, xt, xe, xa, xb, xm, xg, ne_eq, Int32.reduceToInt] at * <;> omega) | grind, by clear hQ9; first | with_reducible assumption | (simp only [xl, xt, xe, xa, xb, xm, xg, ne_eq, Int32.reduceToInt] at * <;> omega) | grind, by assumption, by clear hQ9; first | with_reducible assumption | (simp only [xl, xt, xe, xa, xb, xm, xg, ne_eq, Int32.reduceToInt] at * <;> omega) | grind⟩)

set_option maxHeartbeats 4000000 in
set_option maxRecDepth 20000 in
theorem s_CodeNames_symbolOf {di_count : Int32} {na_lengths : (Nat → Int32)} {na_codes : (Nat → Int32)} {p0 : Int32} {p1 : Int32} (q_1 : ((0 : Int32) ≤ di_count ∧ di_count ≤ (16 : Int32))) (q_2 : R na_lengths (0 : Int32) (15 : Int32)) : ok (f_CodeNames_symbolOf di_count na_lengths na_codes p0 p1) (fun o => ((-1 : Int32) ≤ o ∧ o ≤ (15 : Int32))) := by
  refine ok_Q (fun Q9 hQ9 => ?_)
  unfold f_CodeNames_symbolOf
  refine ok_lp (fun s9 => ((0 : Int32) ≤ s9 ∧ s9 ≤ (16 : Int32))) (fun s9 => 16 - s9) (by clear hQ9; first | with_reducible assumption | (simp only [xl, xt, xe, xa, xb, xm, xg, ne_eq, Int32.reduceToInt] at * <;> omega) | grind) ?_ ?_
  · intro s9 hs9; obtain ⟨v3_1, rfl⟩ : ∃ z9, z9 = s9 := ⟨_, rfl⟩; have q_3 := hs9; exact ⟨by clear hQ9; (try dsimp only); first | with_reducible assumption | (simp only [xl, xt, xe, xa, xb, xm, xg, ne_eq, Int32.reduceToInt] at * <;> omega) | grind, by clear hQ9; (try dsimp only); first | with_reducible assumption | (simp only [xl, xt, xe, xa, xb, xm, xg, ne_eq, Int32.reduceToInt] at * <;> omega) | grind⟩
  intro self2 s9 hs9 ih_self2
  obtain ⟨v3_1, rfl⟩ : ∃ z9, z9 = s9 := ⟨_, rfl⟩; have q_3 := hs9
  unfold f_CodeNames_symbolOf_L2
  try dsimp only
  try dsimp only at ih_self2
  refine ok_if (fun q_4 => ?_) (fun q_4 => ?_)
  · skip
    exact ok_some (hQ9 _ (by clear hQ9 ih_self2; first | with_reducible assumption | (simp only [xl, xt, xe, xa, xb, xm, xg, ne_eq, Int32.reduceToInt] at * <;> omega) | grind))
  · skip
    refine ok_gq (16 : Int32) (by decide) (by clear hQ9 ih_self2; first | with_reducible assumption | (simp only [xl, xt, xe, xa, xb, xm, xg, ne_eq, Int32.reduceToInt] at * <;> omega) | grind) (by clear hQ9 ih_self2; first | with_reducible assumption | (simp only [xl, xt, xe, xa, xb, xm, xg, ne_eq, Int32.reduceToInt] at * <;> omega) | grind) ?_
    have q_5 := (by assumption : R na_lengths (0 : Int32) (15 : Int32)) (v3_1).toNatClampNeg
    refine ok_jn (fun j9 => ∀ (_ : Unit), ok (j9 ()) Q9) ?_ (fun j35 h_j35 => ?_)
    · intro _
      refine ok_nl (fun v3_2 e_v3_2 => ?_)
      exact ih_self2 v3_2 (by clear hQ9 ih_self2; first | with_reducible assumption | (simp only [xl, xt, xe, xa, xb, xm, xg, ne_eq, Int32.reduceToInt] at * <;> omega) | grind) (by clear hQ9 ih_self2; (try dsimp only); first | with_reducible assumption | (simp only [xl, xt, xe, xa, xb, xm, xg, ne_eq, Int32.reduceToInt] at * <;> omega) | grind)
    refine ok_if (fun q_6 => ?_) (fun q_6 => ?_)
    · skip
      refine ok_gq (16 : Int32) (by decide) (by clear hQ9 ih_self2 h_j35; first | with_reducible assumption | (simp only [xl, xt, xe, xa, xb, xm, xg, ne_eq, Int32.reduceToInt] at * <;> omega) | grind) (by clear hQ9 ih_self2 h_j35; first | with_reducible assumption | (simp only [xl, xt, xe, xa, xb, xm, xg, ne_eq, Int32.reduceToInt] at * <;> omega) | grind) ?_
      refine ok_if (fun q_7 => ?_) (fun q_7 => ?_)
      · skip
        exact ok_some (hQ9 _ (by clear hQ9 ih_self2 h_j35; first | with_reducible assumption | (simp only [xl, xt, xe, xa, xb, xm, xg, ne_eq, Int32.reduceToInt] at * <;> omega) | grind))
      · skip
        exact h_j35 ()
    · skip
      exact h_j35 ()

set_option maxHeartbeats 4000000 in
set_option maxRecDepth 20000 in
theorem s_CodeNames_weigh {la_count : Int32} {na_weights : (Nat → Int32)} {na_joinedTo : (Nat → Int32)} {la_symbolOf : (Nat → Int32)} (q_1 : ((0 : Int32) ≤ la_count ∧ la_count ≤ (40 : Int32))) (q_2 : R na_joinedTo (-1 : Int32) (31 : Int32)) (q_3 : R la_symbolOf (0 : Int32) (15 : Int32)) : ok (f_CodeNames_weigh la_count na_weights na_joinedTo la_symbolOf) (fun o => R o.2 (-1 : Int32) (31 : Int32)) := by
  refine ok_Q (fun Q9 hQ9 => ?_)
  unfold f_CodeNames_weigh
  refine ok_ex (fun k9 => lp (f_CodeNames_weigh_L2 k9) FU ((0 : Int32), na_weights, na_joinedTo)) (fun j9 => ∀ (na_weights_4 : (Nat → Int32)) (na_joinedTo_5 : (Nat → Int32)), R na_joinedTo_5 (-1 : Int32) (31 : Int32) → ok (j9 na_weights_4 na_joinedTo_5) Q9) ?_ (fun k31 h_k31 => ?_)
  · intro na_weights_4 na_joinedTo_5 q_4
    refine ok_lp (fun s9 => ((0 : Int32) ≤ s9.1 ∧ s9.1 ≤ (40 : Int32))) (fun s9 => 40 - s9.1) (by clear hQ9; first | with_reducible assumption | (simp only [xl, xt, xe, xa, xb, xm, xg, ne_eq, Int32.reduceToInt] at * <;> omega) | grind) ?_ ?_
    · intro s9 hs9; obtain ⟨v2_7, na_weights_8⟩ := s9; try dsimp only at hs9; have q_5 := hs9; exact ⟨by clear hQ9; (try dsimp only); first | with_reducible assumption | (simp only [xl, xt, xe, xa, xb, xm, xg, ne_eq, Int32.reduceToInt] at * <;> omega) | grind, by clear hQ9; (try dsimp only); first | with_reducible assumption | (simp only [xl, xt, xe, xa, xb, xm, xg, ne_eq, Int32.reduceToInt] at * <;> omega) | grind⟩
    intro self33 s9 hs9 ih_self33
    obtain ⟨v2_7, na_weights_8⟩ := s9; try dsimp only at hs9; have q_5 := hs9
    unfold f_CodeNames_weigh_L33
    try dsimp only
    try dsimp only at ih_self33
    refine ok_if (fun q_6 => ?_) (fun q_6 => ?_)
    · skip
      exact ok_some (hQ9 _ (by assumption))
    · skip
      refine ok_gq (40 : Int32) (by decide) (by clear hQ9 ih_self33; first | with_reducible assumption | (simp only [xl, xt, xe, xa, xb, xm, xg, ne_eq, Int32.reduceToInt] at * <;> omega) | grind) (by clear hQ9 ih_self33; first | with_reducible assumption | (simp only [xl, xt, xe, xa, xb, xm, xg, ne_eq, Int32.reduceToInt] at * <;> omega) | grind) ?_
      have q_7 := (by assumption : R la_symbolOf (0 : Int32) (15 : Int32)) (v2_7).toNatClampNeg
      refine ok_gq (32 : Int32) (by decide) (by clear hQ9 ih_self33; first | with_reducible assumption | (simp only [xl, xt, xe, xa, xb, xm, xg, ne_eq, Int32.reduceToInt] at * <;> omega) | grind) (by clear hQ9 ih_self33; first | with_reducible assumption | (simp only [xl, xt, xe, xa, xb, xm, xg, ne_eq, Int32.reduceToInt] at * <;> omega) | grind) ?_
      refine ok_nl (fun w_9 e_w_9 => ?_)
      refine ok_gq (32 : Int32) (by decide) (by clear hQ9 ih_self33; first | with_reducible assumption | (simp only [xl, xt, xe, xa, xb, xm, xg, ne_eq, Int32.reduceToInt] at * <;> omega) | grind) (by clear hQ9 ih_self33; first | with_reducible assumption | (simp only [xl, xt, xe, xa, xb, xm, xg, ne_eq, Int32.reduceToInt] at * <;> omega) | grind) ?_
      refine ok_nl (fun v2_10 e_v2_10 => ?_)
      exact ih_self33 (v2_10, (upd na_weights_8 ((la_symbolOf (v2_7).toNatClampNeg)).toNatClampNeg w_9)) (by clear hQ9 ih_self33; first | with_reducible assumption | (simp only [xl, xt, xe, xa, xb, xm, xg, ne_eq, Int32.reduceToInt] at * <;> omega) | grind) (by clear hQ9 ih_self33; (try dsimp only); first | with_reducible assumption | (simp only [xl, xt, xe, xa, xb, xm, xg, ne_eq, Int32.reduceToInt] at * <;> omega) | grind)
  refine ok_lp (fun s9 => ((0 : Int32) ≤ s9.1 ∧ s9.1 ≤ (32 : Int32)) ∧ R s9.2.2 (-1 : Int32) (31 : Int32)) (fun s9 => 32 - s9.1) ⟨by clear hQ9 h_k31; first | with_reducible assumption | (simp only [xl, xt, xe, xa, xb, xm, xg, ne_eq, Int32.reduceToInt] at * <;> omega) | grind, by assumption⟩ ?_ ?_
  · intro s9 hs9; obtain ⟨v2_1, na_weights_2, na_joinedTo_3⟩ := s9; try dsimp only at hs9; obtain ⟨q_8, q_9⟩ := hs9; exact ⟨by clear hQ9 h_k31; (try dsimp only); first | with_reducible assumption | (simp only [xl, xt, xe, xa, xb, xm, xg, ne_eq, Int32.reduceToInt] at * <;> omega) | grind, by clear hQ9 h_k31; (try dsimp only); first | with_reducible assumption | (simp only [xl, xt, xe, xa, xb, xm, xg, ne_eq, Int32.reduceToInt] at * <;> omega) | grind⟩
  intro self2 s9 hs9 ih_self2
  obtain ⟨v2_1, na_weights_2, na_joinedTo_3⟩ := s9; try dsimp only at hs9; obtain ⟨q_8, q_9⟩ := hs9
  unfold f_CodeNames_weigh_L2
  try dsimp only
  try dsimp only at ih_self2
  refine ok_if (fun q_10 => ?_) (fun q_10 => ?_)
  · skip
    exact h_k31 _ _ (by assumption)
  · skip
    refine ok_gq (32 : Int32) (by decide) (by clear hQ9 h_k31 ih_self2; first | with_reducible assumption | (simp only [xl, xt, xe, xa, xb, xm, xg, ne_eq, Int32.reduceToInt] at * <;> omega) | grind) (by clear hQ9 h_k31 ih_self2; first | with_reducible assumption | (simp only [xl, xt, xe, xa, xb, xm, xg, ne_eq, Int32.reduceToInt] at * <;> omega) | grind) ?_
    refine ok_gq (32 : Int32) (by decide) (by clear hQ9 h_k31 ih_self2; first | with_reducible assumption | (simp only [xl, xt, xe, xa, xb, xm, xg, ne_eq, Int32.reduceToInt] at * <;> omega) | grind) (by clear hQ9 h_k31 ih_self2; first | with_reducible assumption | (simp only [xl, xt, xe, xa, xb, xm, xg, ne_eq, Int32.reduceToInt] at * <;> omega) | grind) ?_
    have q_11 : R (upd na_joinedTo_3 (v2_1).toNatClampNeg (-1 : Int32)) (-1 : Int32) (31 : Int32) := R_upd (by assumption) _ (by clear hQ9 h_k31 ih_self2; first | with_reducible assumption | (simp only [xl, xt, xe, xa, xb, xm, xg, ne_eq, Int32.reduceToInt] at * <;> omega) | grind)
    refine ok_nl (fun v2_6 e_v2_6 => ?_)
    exact ih_self2 (v2_6, (upd na_weights_2 (v2_1).toNatClampNeg (0 : Int32)), (upd na_joinedTo_3 (v2_1).toNatClampNeg (-1 : Int32))) ⟨by clear hQ9 h_k31 ih_self2; first | with_reducible assumption | (simp only [xl, xt, xe, xa, xb, xm, xg, ne_eq, Int32.reduceToInt] at * <;> omega) | grind, by assumption⟩ (by clear hQ9 h_k31 ih_self2; (try dsimp only); first | with_reducible assumption | (simp only [xl, xt, xe, xa, xb, xm, xg, ne_eq, Int32.reduceToInt] at * <;> omega) | grind)

set_option maxHeartbeats 4000000 in
set_option maxRecDepth 20000 in
theorem s_CodeNames_joinLeast {na_weights : (Nat → Int32)} {na_joinedTo : (Nat → Int32)} {p0 : Int32} (q_1 : R na_joinedTo (-1 : Int32) (31 : Int32)) (q_2 : ((16 : Int32) ≤ p0 ∧ p0 ≤ (30 : Int32))) : ok (f_CodeNames_joinLeast na_weights na_joinedTo p0) (fun o => R o.2 (-1 : Int32) (31 : Int32)) := by
  refine ok_Q (fun Q9 hQ9 => ?_)
  unfold f_CodeNames_joinLeast
  refine ok_ex (fun k9 => lp (f_CodeNames_joinLeast_L4 p0 na_weights na_joinedTo k9) FU ((0 : Int32), (-1 : Int32))) (fun j9 => ∀ (v2_3 : Int32), ((-1 : Int32) ≤ v2_3 ∧ v2_3 ≤ (30 : Int32)) → ok (j9 v2_3) Q9) ?_ (fun k56 h_k56 => ?_)
  · intro v2_3 q_3
    refine ok_if (fun q_4 => ?_) (fun q_4 => ?_)
    · skip
      exact ok_some (hQ9 _ (by assumption))
    · skip
      refine ok_gq (32 : Int32) (by decide) (by clear hQ9; first | with_reducible assumption | (simp only [xl, xt, xe, xa, xb, xm, xg, ne_eq, Int32.reduceToInt] at * <;> omega) | grind) (by clear hQ9; first | with_reducible assumption | (simp only [xl, xt, xe, xa, xb, xm, xg, ne_eq, Int32.reduceToInt] at * <;> omega) | grind) ?_
      have q_5 : R (upd na_joinedTo (v2_3).toNatClampNeg p0) (-1 : Int32) (31 : Int32) := R_upd (by assumption) _ (by clear hQ9; first | with_reducible assumption | (simp only [xl, xt, xe, xa, xb, xm, xg, ne_eq, Int32.reduceToInt] at * <;> omega) | grind)
      refine ok_gq (32 : Int32) (by decide) (by clear hQ9; first | with_reducible assumption | (simp only [xl, xt, xe, xa, xb, xm, xg, ne_eq, Int32.reduceToInt] at * <;> omega) | grind) (by clear hQ9; first | with_reducible assumption | (simp only [xl, xt, xe, xa, xb, xm, xg, ne_eq, Int32.reduceToInt] at * <;> omega) | grind) ?_
      exact ok_some (hQ9 _ (by assumption))
  refine ok_lp (fun s9 => ((0 : Int32) ≤ s9.1 ∧ s9.1 ≤ (30 : Int32)) ∧ ((-1 : Int32) ≤ s9.2 ∧ s9.2 ≤ (30 : Int32))) (fun s9 => 30 - s9.1) ⟨by clear hQ9 h_k56; first | with_reducible assumption | (simp only [xl, xt, xe, xa, xb, xm, xg, ne_eq, Int32.reduceToInt] at * <;> omega) | grind, by clear hQ9 h_k56; first | with_reducible assumption | (simp only [xl, xt, xe, xa, xb, xm, xg, ne_eq, Int32.reduceToInt] at * <;> omega) | grind⟩ ?_ ?_
  · intro s9 hs9; obtain ⟨v3_1, v2_2⟩ := s9; try dsimp only at hs9; obtain ⟨q_6, q_7⟩ := hs9; exact ⟨by clear hQ9 h_k56; (try dsimp only); first | with_reducible assumption | (simp only [xl, xt, xe, xa, xb, xm, xg, ne_eq, Int32.reduceToInt] at * <;> omega) | grind, by clear hQ9 h_k56; (try dsimp only); first | with_reducible assumption | (simp only [xl, xt, xe, xa, xb, xm, xg, ne_eq, Int32.reduceToInt] at * <;> omega) | grind⟩
  intro self4 s9 hs9 ih_self4
  obtain ⟨v3_1, v2_2⟩ := s9; try dsimp only at hs9; obtain ⟨q_6, q_7⟩ := hs9
  unfold f_CodeNames_joinLeast_L4
  try dsimp only
  try dsimp only at ih_self4
  refine ok_if (fun q_8 => ?_) (fun q_8 => ?_)
  · skip
    exact h_k56 _ (by clear hQ9 h_k56 ih_self4; first | with_reducible assumption | (simp only [xl, xt, xe, xa, xb, xm, xg, ne_eq, Int32.reduceToInt] at * <;> omega) | grind)
  · skip
    refine ok_gq (32 : Int32) (by decide) (by clear hQ9 h_k56 ih_self4; first | with_reducible assumption | (simp only [xl, xt, xe, xa, xb, xm, xg, ne_eq, Int32.reduceToInt] at * <;> omega) | grind) (by clear hQ9 h_k56 ih_self4; first | with_reducible assumption | (simp only [xl, xt, xe, xa, xb, xm, xg, ne_eq, Int32.reduceToInt] at * <;> omega) | grind) ?_
    refine ok_jn (fun j9 => ∀ (v2_4 : Int32), ((-1 : Int32) ≤ v2_4 ∧ v2_4 ≤ (30 : Int32)) → ok (j9 v2_4) Q9) ?_ (fun j50 h_j50 => ?_)
    · intro v2_4 q_9
      refine ok_nl (fun v3_5 e_v3_5 => ?_)
      exact ih_self4 (v3_5, v2_4) ⟨by clear hQ9 h_k56 ih_self4; first | with_reducible assumption | (simp only [xl, xt, xe, xa, xb, xm, xg, ne_eq, Int32.reduceToInt] at * <;> omega) | grind, by clear hQ9 h_k56 ih_self4; first | with_reducible assumption | (simp only [xl, xt, xe, xa, xb, xm, xg, ne_eq, Int32.reduceToInt] at * <;> omega) | grind⟩ (by clear hQ9 h_k56 ih_self4; (try dsimp only); first | with_reducible assumption | (simp only [xl, xt, xe, xa, xb, xm, xg, ne_eq, Int32.reduceToInt] at * <;> omega) | grind)
    refine ok_if (fun q_10 => ?_) (fun q_10 => ?_)
    · skip
      exact h_j50 _ (by clear hQ9 h_k56 ih_self4 h_j50; first | with_reducible assumption | (simp only [xl, xt, xe, xa, xb, xm, xg, ne_eq, Int32.reduceToInt] at * <;> omega) | grind)
    · skip
      refine ok_gq (32 : Int32) (by decide) (by clear hQ9 h_k56 ih_self4 h_j50; first | with_reducible assumption | (simp only [xl, xt, xe, xa, xb, xm, xg, ne_eq, Int32.reduceToInt] at * <;> omega) | grind) (by clear hQ9 h_k56 ih_self4 h_j50; first | with_reducible assumption | (simp only [xl, xt, xe, xa, xb, xm, xg, ne_eq, Int32.reduceToInt] at * <;> omega) | grind) ?_
      have q_11 := (by assumption : R na_joinedTo (-1 : Int32) (31 : Int32)) (v3_1).toNatClampNeg
      refine ok_if (fun q_12 => ?_) (fun q_12 => ?_)
      · skip
        refine ok_jn (fun j9 => ∀ (_ : Unit), ok (j9 ()) Q9) ?_ (fun j48 h_j48 => ?_)
        · intro _
          exact h_j50 _ (by clear hQ9 h_k56 ih_self4 h_j50; first | with_reducible assumption | (simp only [xl, xt, xe, xa, xb, xm, xg, ne_eq, Int32.reduceToInt] at * <;> omega) | grind)
        refine ok_if (fun q_13 => ?_) (fun q_13 => ?_)
        · skip
          exact h_j48 ()
        · skip
          refine ok_gq (32 : Int32) (by decide) (by clear hQ9 h_k56 ih_self4 h_j50 h_j48; first | with_reducible assumption | (simp only [xl, xt, xe, xa, xb, xm, xg, ne_eq, Int32.reduceToInt] at * <;> omega) | grind) (by clear hQ9 h_k56 ih_self4 h_j50 h_j48; first | with_reducible assumption | (simp only [xl, xt, xe, xa, xb, xm, xg, ne_eq, Int32.reduceToInt] at * <;> omega) | grind) ?_
          refine ok_gq (32 : Int32) (by decide) (by clear hQ9 h_k56 ih_self4 h_j50 h_j48; first | with_reducible assumption | (simp only [xl, xt, xe, xa, xb, xm, xg, ne_eq, Int32.reduceToInt] at * <;> omega) | grind) (by clear hQ9 h_k56 ih_self4 h_j50 h_j48; first | with_reducible assumption | (simp only [xl, xt, xe, xa, xb, xm, xg, ne_eq, Int32.reduceToInt] at * <;> omega) | grind) ?_
          refine ok_if (fun q_14 => ?_) (fun q_14 => ?_)
          · skip
            exact h_j50 _ (by clear hQ9 h_k56 ih_self4 h_j50 h_j48; first | with_reducible assumption | (simp only [xl, xt, xe, xa, xb, xm, xg, ne_eq, Int32.reduceToInt] at * <;> omega) | grind)
          · skip
            exact h_j48 ()
      · skip
        exact h_j50 _ (by clear hQ9 h_k56 ih_self4 h_j50; first | with_reducible assumption | (simp only [xl, xt, xe, xa, xb, xm, xg, ne_eq, Int32.reduceToInt] at * <;> omega) | grind)

set_option maxHeartbeats 4000000 in
set_option maxRecDepth 20000 in
theorem s_CodeNames_joinsOf {na_joinedTo : (Nat → Int32)} {p0 : Int32} (q_1 : R na_joinedTo (-1 : Int32) (31 : Int32)) (q_2 : ((0 : Int32) ≤ p0 ∧ p0 ≤ (15 : Int32))) : ok (f_CodeNames_joinsOf na_joinedTo p0) (fun o => ((0 : Int32) ≤ o ∧ o ≤ (15 : Int32))) := by
  refine ok_Q (fun Q9 hQ9 => ?_)
  unfold f_CodeNames_joinsOf
  refine ok_gq (32 : Int32) (by decide) (by clear hQ9; first | with_reducible assumption | (simp only [xl, xt, xe, xa, xb, xm, xg, ne_eq, Int32.reduceToInt] at * <;> omega) | grind) (by clear hQ9; first | with_reducible assumption | (simp only [xl, xt, xe, xa, xb, xm, xg, ne_eq, Int32.reduceToInt] at * <;> omega) | grind) ?_
  have q_3 := (by assumption : R na_joinedTo (-1 : Int32) (31 : Int32)) (p0).toNatClampNeg
  refine ok_nl (fun v3_1 e_v3_1 => ?_)
  refine ok_lp (fun s9 => ((-1 : Int32) ≤ s9.1 ∧ s9.1 ≤ (31 : Int32)) ∧ ((0 : Int32) ≤ s9.2 ∧ s9.2 ≤ (15 : Int32))) (fun s9 => 15 - s9.2) ⟨by clear hQ9; first | with_reducible assumption | (simp only [xl, xt, xe, xa, xb, xm, xg, ne_eq, Int32.reduceToInt] at * <;> omega) | grind, by clear hQ9; first | with_reducible assumption | (simp only [xl, xt, xe, xa, xb, xm, xg, ne_eq, Int32.reduceToInt] at * <;> omega) | grind⟩ ?_ ?_
  · intro s9 hs9; obtain ⟨v3_2, v2_3⟩ := s9; try dsimp only at hs9; obtain ⟨q_4, q_5⟩ := hs9; exact ⟨by clear hQ9; (try dsimp only); first | with_reducible assumption | (simp only [xl, xt, xe, xa, xb, xm, xg, ne_eq, Int32.reduceToInt] at * <;> omega) | grind, by clear hQ9; (try dsimp only); first | with_reducible assumption | (simp only [xl, xt, xe, xa, xb, xm, xg, ne_eq, Int32.reduceToInt] at * <;> omega) | grind⟩
  intro self9 s9 hs9 ih_self9
  obtain ⟨v3_2, v2_3⟩ := s9; try dsimp only at hs9; obtain ⟨q_4, q_5⟩ := hs9
  unfold f_CodeNames_joinsOf_L9
  try dsimp only
  try dsimp only at ih_self9
  refine ok_if (fun q_6 => ?_) (fun q_6 => ?_)
  · skip
    exact ok_some (hQ9 _ (by clear hQ9 ih_self9; first | with_reducible assumption | (simp only [xl, xt, xe, xa, xb, xm, xg, ne_eq, Int32.reduceToInt] at * <;> omega) | grind))
  · skip
    refine ok_if (fun q_7 => ?_) (fun q_7 => ?_)
    · skip
      exact ok_some (hQ9 _ (by clear hQ9 ih_self9; first | with_reducible assumption | (simp only [xl, xt, xe, xa, xb, xm, xg, ne_eq, Int32.reduceToInt] at * <;> omega) | grind))
    · skip
      refine ok_nl (fun v2_4 e_v2_4 => ?_)
      refine ok_gq (32 : Int32) (by decide) (by clear hQ9 ih_self9; first | with_reducible assumption | (simp only [xl, xt, xe, xa, xb, xm, xg, ne_eq, Int32.reduceToInt] at * <;> omega) | grind) (by clear hQ9 ih_self9; first | with_reducible assumption | (simp only [xl, xt, xe, xa, xb, xm, xg, ne_eq, Int32.reduceToInt] at * <;> omega) | grind) ?_
      have q_8 := (by assumption : R na_joinedTo (-1 : Int32) (31 : Int32)) (v3_2).toNatClampNeg
      refine ok_nl (fun v3_5 e_v3_5 => ?_)
      exact ih_self9 (v3_5, v2_4) ⟨by clear hQ9 ih_self9; first | with_reducible assumption | (simp only [xl, xt, xe, xa, xb, xm, xg, ne_eq, Int32.reduceToInt] at * <;> omega) | grind, by clear hQ9 ih_self9; first | with_reducible assumption | (simp only [xl, xt, xe, xa, xb, xm, xg, ne_eq, Int32.reduceToInt] at * <;> omega) | grind⟩ (by clear hQ9 ih_self9; (try dsimp only); first | with_reducible assumption | (simp only [xl, xt, xe, xa, xb, xm, xg, ne_eq, Int32.reduceToInt] at * <;> omega) | grind)

set_option maxHeartbeats 4000000 in
set_option maxRecDepth 20000 in
theorem s_CodeNames_areAllowed {di_count : Int32} {na_lengths : (Nat → Int32)} {p0 : Int32} (q_1 : ((0 : Int32) ≤ di_count ∧ di_count ≤ (16 : Int32))) (q_2 : R na_lengths (0 : Int32) (15 : Int32)) : ok (f_CodeNames_areAllowed di_count na_lengths p0) (fun o => ((0 : Int32) ≤ o ∧ o ≤ (1 : Int32))) := by
  refine ok_Q (fun Q9 hQ9 => ?_)
  unfold f_CodeNames_areAllowed
  refine ok_ex (fun k9 => lp (f_CodeNames_areAllowed_L11 di_count na_lengths k9) FU ((0 : Int32), (0 : Int32), (0 : Int32))) (fun j9 => ∀ (v4_4 : Int32) (v3_5 : Int32), ok (j9 v4_4 v3_5) Q9) ?_ (fun k54 h_k54 => ?_)
  · intro v4_4 v3_5
    refine ok_jn (fun j9 => ∀ (s_11 : Int32), ((0 : Int32) ≤ s_11 ∧ s_11 ≤ (1 : Int32)) → ok (j9 s_11) Q9) ?_ (fun j72 h_j72 => ?_)
    · intro s_11 q_3
      refine ok_jn (fun j9 => ∀ (_ : Unit), ok (j9 ()) Q9) ?_ (fun j93 h_j93 => ?_)
      · intro _
        exact ok_some (hQ9 _ (by clear hQ9; first | with_reducible assumption | (simp only [xl, xt, xe, xa, xb, xm, xg, ne_eq, Int32.reduceToInt] at * <;> omega) | grind))
      refine ok_if (fun q_4 => ?_) (fun q_4 => ?_)
      · skip
        exact h_j93 ()
      · skip
        refine ok_if (fun q_5 => ?_) (fun q_5 => ?_)
        · skip
          refine ok_if (fun q_6 => ?_) (fun q_6 => ?_)
          · skip
            refine ok_if (fun q_7 => ?_) (fun q_7 => ?_)
            · skip
              exact h_j93 ()
            · skip
              exact ok_some (hQ9 _ (by clear hQ9 h_j93; first | with_reducible assumption | (simp only [xl, xt, xe, xa, xb, xm, xg, ne_eq, Int32.reduceToInt] at * <;> omega) | grind))
          · skip
            exact ok_some (hQ9 _ (by clear hQ9 h_j93; first | with_reducible assumption | (simp only [xl, xt, xe, xa, xb, xm, xg, ne_eq, Int32.reduceToInt] at * <;> omega) | grind))
        · skip
          exact h_j93 ()
    refine ok_jn (fun j9 => ∀ (_ : Unit), ok (j9 ()) Q9) ?_ (fun j71 h_j71 => ?_)
    · intro _
      exact h_j72 _ (by clear hQ9 h_j72; first | with_reducible assumption | (simp only [xl, xt, xe, xa, xb, xm, xg, ne_eq, Int32.reduceToInt] at * <;> omega) | grind)
    refine ok_if (fun q_8 => ?_) (fun q_8 => ?_)
    · skip
      refine ok_if (fun q_9 => ?_) (fun q_9 => ?_)
      · skip
        exact h_j72 _ (by clear hQ9 h_j72 h_j71; first | with_reducible assumption | (simp only [xl, xt, xe, xa, xb, xm, xg, ne_eq, Int32.reduceToInt] at * <;> omega) | grind)
      · skip
        exact h_j71 ()
    · skip
      exact h_j71 ()
  refine ok_lp (fun s9 => ((0 : Int32) ≤ s9.1 ∧ s9.1 ≤ (16 : Int32))) (fun s9 => 16 - s9.1) (by clear hQ9 h_k54; first | with_reducible assumption | (simp only [xl, xt, xe, xa, xb, xm, xg, ne_eq, Int32.reduceToInt] at * <;> omega) | grind) ?_ ?_
  · intro s9 hs9; obtain ⟨v5_1, v4_2, v3_3⟩ := s9; try dsimp only at hs9; have q_10 := hs9; exact ⟨by clear hQ9 h_k54; (try dsimp only); first | with_reducible assumption | (simp only [xl, xt, xe, xa, xb, xm, xg, ne_eq, Int32.reduceToInt] at * <;> omega) | grind, by clear hQ9 h_k54; (try dsimp only); first | with_reducible assumption | (simp only [xl, xt, xe, xa, xb, xm, xg, ne_eq, Int32.reduceToInt] at * <;> omega) | grind⟩
  intro self11 s9 hs9 ih_self11
  obtain ⟨v5_1, v4_2, v3_3⟩ := s9; try dsimp only at hs9; have q_10 := hs9
  unfold f_CodeNames_areAllowed_L11
  try dsimp only
  try dsimp only at ih_self11
  refine ok_if (fun q_11 => ?_) (fun q_11 => ?_)
  · skip
    exact h_k54 _ _
  · skip
    refine ok_gq (16 : Int32) (by decide) (by clear hQ9 h_k54 ih_self11; first | with_reducible assumption | (simp only [xl, xt, xe, xa, xb, xm, xg, ne_eq, Int32.reduceToInt] at * <;> omega) | grind) (by clear hQ9 h_k54 ih_self11; first | with_reducible assumption | (simp only [xl, xt, xe, xa, xb, xm, xg, ne_eq, Int32.reduceToInt] at * <;> omega) | grind) ?_
    have q_12 := (by assumption : R na_lengths (0 : Int32) (15 : Int32)) (v5_1).toNatClampNeg
    refine ok_jn (fun j9 => ∀ (v4_6 : Int32) (v3_7 : Int32), ok (j9 v4_6 v3_7) Q9) ?_ (fun j48 h_j48 => ?_)
    · intro v4_6 v3_7
      refine ok_nl (fun v5_8 e_v5_8 => ?_)
      exact ih_self11 (v5_8, v4_6, v3_7) (by clear hQ9 h_k54 ih_self11; first | with_reducible assumption | (simp only [xl, xt, xe, xa, xb, xm, xg, ne_eq, Int32.reduceToInt] at * <;> omega) | grind) (by clear hQ9 h_k54 ih_self11; (try dsimp only); first | with_reducible assumption | (simp only [xl, xt, xe, xa, xb, xm, xg, ne_eq, Int32.reduceToInt] at * <;> omega) | grind)
    refine ok_if (fun q_13 => ?_) (fun q_13 => ?_)
    · skip
      exact h_j48 _ _
    · skip
      refine ok_gq (16 : Int32) (by decide) (by clear hQ9 h_k54 ih_self11 h_j48; first | with_reducible assumption | (simp only [xl, xt, xe, xa, xb, xm, xg, ne_eq, Int32.reduceToInt] at * <;> omega) | grind) (by clear hQ9 h_k54 ih_self11 h_j48; first | with_reducible assumption | (simp only [xl, xt, xe, xa, xb, xm, xg, ne_eq, Int32.reduceToInt] at * <;> omega) | grind) ?_
      have q_14 := (by assumption : R na_lengths (0 : Int32) (15 : Int32)) (v5_1).toNatClampNeg
      refine ok_nl (fun v3_9 e_v3_9 => ?_)
      refine ok_nl (fun v4_10 e_v4_10 => ?_)
      exact h_j48 _ _

set_option maxHeartbeats 4000000 in
set_option maxRecDepth 20000 in
theorem s_CodeNames_assignCodes {di_count : Int32} {na_lengths : (Nat → Int32)} {na_codes : (Nat → Int32)} (q_1 : ((0 : Int32) ≤ di_count ∧ di_count ≤ (16 : Int32))) (q_2 : R na_lengths (0 : Int32) (15 : Int32)) : ok (f_CodeNames_assignCodes di_count na_lengths na_codes) (fun o => True) := by
  refine ok_Q (fun Q9 hQ9 => ?_)
  unfold f_CodeNames_assignCodes
  refine ok_lp (fun s9 => ((1 : Int32) ≤ s9.1 ∧ s9.1 ≤ (16 : Int32))) (fun s9 => 16 - s9.1) (by clear hQ9; first | with_reducible assumption | (simp only [xl, xt, xe, xa, xb, xm, xg, ne_eq, Int32.reduceToInt] at * <;> omega) | grind) ?_ ?_
  · intro s9 hs9; obtain ⟨v2_1, v1_2, na_codes_3⟩ := s9; try dsimp only at hs9; have q_3 := hs9; exact ⟨by clear hQ9; (try dsimp only); first | with_reducible assumption | (simp only [xl, xt, xe, xa, xb, xm, xg, ne_eq, Int32.reduceToInt] at * <;> omega) | grind, by clear hQ9; (try dsimp only); first | with_reducible assumption | (simp only [xl, xt, xe, xa, xb, xm, xg, ne_eq, Int32.reduceToInt] at * <;> omega) | grind⟩
  intro self4 s9 hs9 ih_self4
  obtain ⟨v2_1, v1_2, na_codes_3⟩ := s9; try dsimp only at hs9; have q_3 := hs9
  unfold f_CodeNames_assignCodes_L4
  try dsimp only
  try dsimp only at ih_self4
  refine ok_if (fun q_4 => ?_) (fun q_4 => ?_)
  · skip
    exact ok_some (hQ9 _ trivial)
  · skip
    refine ok_nl (fun v1_4 e_v1_4 => ?_)
    refine ok_ex (fun k9 => lp (f_CodeNames_assignCodes_L16 di_count na_lengths v2_1 k9) FU ((0 : Int32), v1_4, na_codes_3)) (fun j9 => ∀ (v1_8 : Int32) (na_codes_9 : (Nat → Int32)), ok (j9 v1_8 na_codes_9) Q9) ?_ (fun k53 h_k53 => ?_)
    · intro v1_8 na_codes_9
      refine ok_nl (fun v2_14 e_v2_14 => ?_)
      exact ih_self4 (v2_14, v1_8, na_codes_9) (by clear hQ9 ih_self4; first | with_reducible assumption | (simp only [xl, xt, xe, xa, xb, xm, xg, ne_eq, Int32.reduceToInt] at * <;> omega) | grind) (by clear hQ9 ih_self4; (try dsimp only); first | with_reducible assumption | (simp only [xl, xt, xe, xa, xb, xm, xg, ne_eq, Int32.reduceToInt] at * <;> omega) | grind)
    refine ok_lp (fun s9 => ((0 : Int32) ≤ s9.1 ∧ s9.1 ≤ (16 : Int32))) (fun s9 => 16 - s9.1) (by clear hQ9 ih_self4 h_k53; first | with_reducible assumption | (simp only [xl, xt, xe, xa, xb, xm, xg, ne_eq, Int32.reduceToInt] at * <;> omega) | grind) ?_ ?_
    · intro s9 hs9; obtain ⟨v3_5, v1_6, na_codes_7⟩ := s9; try dsimp only at hs9; have q_5 := hs9; exact ⟨by clear hQ9 ih_self4 h_k53; (try dsimp only); first | with_reducible assumption | (simp only [xl, xt, xe, xa, xb, xm, xg, ne_eq, Int32.reduceToInt] at * <;> omega) | grind, by clear hQ9 ih_self4 h_k53; (try dsimp only); first | with_reducible assumption | (simp only [xl, xt, xe, xa, xb, xm, xg, ne_eq, Int32.reduceToInt] at * <;> omega) | grind⟩
    intro self16 s9 hs9 ih_self16
    obtain ⟨v3_5, v1_6, na_codes_7⟩ := s9; try dsimp only at hs9; have q_5 := hs9
    unfold f_CodeNames_assignCodes_L16
    try dsimp only
    try dsimp only at ih_self16
    refine ok_if (fun q_6 => ?_) (fun q_6 => ?_)
    · skip
      exact h_k53 _ _
    · skip
      refine ok_gq (16 : Int32) (by decide) (by clear hQ9 ih_self4 h_k53 ih_self16; first | with_reducible assumption | (simp only [xl, xt, xe, xa, xb, xm, xg, ne_eq, Int32.reduceToInt] at * <;> omega) | grind) (by clear hQ9 ih_self4 h_k53 ih_self16; first | with_reducible assumption | (simp only [xl, xt, xe, xa, xb, xm, xg, ne_eq, Int32.reduceToInt] at * <;> omega) | grind) ?_
      have q_7 := (by assumption : R na_lengths (0 : Int32) (15 : Int32)) (v3_5).toNatClampNeg
      refine ok_jn (fun j9 => ∀ (v1_10 : Int32) (na_codes_11 : (Nat → Int32)), ok (j9 v1_10 na_codes_11) Q9) ?_ (fun j47 h_j47 => ?_)
      · intro v1_10 na_codes_11
        refine ok_nl (fun v3_12 e_v3_12 => ?_)
        exact ih_self16 (v3_12, v1_10, na_codes_11) (by clear hQ9 ih_self4 h_k53 ih_self16; first | with_reducible assumption | (simp only [xl, xt, xe, xa, xb, xm, xg, ne_eq, Int32.reduceToInt] at * <;> omega) | grind) (by clear hQ9 ih_self4 h_k53 ih_self16; (try dsimp only); first | with_reducible assumption | (simp only [xl, xt, xe, xa, xb, xm, xg, ne_eq, Int32.reduceToInt] at * <;> omega) | grind)
      refine ok_if (fun q_8 => ?_) (fun q_8 => ?_)
      · skip
        refine ok_gq (16 : Int32) (by decide) (by clear hQ9 ih_self4 h_k53 ih_self16 h_j47; first | with_reducible assumption | (simp only [xl, xt, xe, xa, xb, xm, xg, ne_eq, Int32.reduceToInt] at * <;> omega) | grind) (by clear hQ9 ih_self4 h_k53 ih_self16 h_j47; first | with_reducible assumption | (simp only [xl, xt, xe, xa, xb, xm, xg, ne_eq, Int32.reduceToInt] at * <;> omega) | grind) ?_
        refine ok_nl (fun v1_13 e_v1_13 => ?_)
        exact h_j47 _ _
      · skip
        exact h_j47 _ _

set_option maxHeartbeats 4000000 in
set_option maxRecDepth 20000 in
theorem s_CodeNames_suit {la_count : Int32} {na_weights : (Nat → Int32)} {na_joinedTo : (Nat → Int32)} {la_symbolOf : (Nat → Int32)} {di_count : Int32} {na_lengths : (Nat → Int32)} {na_codes : (Nat → Int32)} (q_1 : ((0 : Int32) ≤ la_count ∧ la_count ≤ (40 : Int32))) (q_2 : R na_joinedTo (-1 : Int32) (31 : Int32)) (q_3 : R la_symbolOf (0 : Int32) (15 : Int32)) (q_4 : ((0 : Int32) ≤ di_count ∧ di_count ≤ (16 : Int32))) (q_5 : R na_lengths (0 : Int32) (15 : Int32)) : ok (f_CodeNames_suit la_count na_weights na_joinedTo la_symbolOf di_count na_lengths na_codes) (fun o => R o.2.1 (-1 : Int32) (31 : Int32) ∧ R o.2.2.1 (0 : Int32) (15 : Int32)) := by
  refine ok_Q (fun Q9 hQ9 => ?_)
  unfold f_CodeNames_suit
  refine ok_bd (s_CodeNames_weigh (by clear hQ9; first | with_reducible assumption | (simp only [xl, xt, xe, xa, xb, xm, xg, ne_eq, Int32.reduceToInt] at * <;> omega) | grind) (by assumption) (by assumption)) (fun o9 h9 => ?_)
  obtain ⟨na_weights_1, na_joinedTo_2⟩ := o9
  try dsimp only at h9
  try dsimp only
  have q_6 := h9
  clear h9
  refine ok_ex (fun k9 => lp (f_CodeNames_suit_L9 di_count na_weights_1 k9) FU ((0 : Int32), (0 : Int32))) (fun j9 => ∀ (v2_5 : Int32), ((0 : Int32) ≤ v2_5 ∧ v2_5 ≤ (16 : Int32)) → ok (j9 v2_5) Q9) ?_ (fun k43 h_k43 => ?_)
  · intro v2_5 q_7
    refine ok_ex (fun k9 => lp (f_CodeNames_suit_L45 v2_5 k9) FU ((0 : Int32), na_weights_1, na_joinedTo_2)) (fun j9 => ∀ (na_weights_13 : (Nat → Int32)) (na_joinedTo_14 : (Nat → Int32)), R na_joinedTo_14 (-1 : Int32) (31 : Int32) → ok (j9 na_weights_13 na_joinedTo_14) Q9) ?_ (fun k92 h_k92 => ?_)
    · intro na_weights_13 na_joinedTo_14 q_8
      refine ok_ex (fun k9 => lp (f_CodeNames_suit_L94 v2_5 na_weights_13 na_joinedTo_14 k9) FU ((0 : Int32), na_lengths)) (fun j9 => ∀ (na_lengths_24 : (Nat → Int32)), R na_lengths_24 (0 : Int32) (15 : Int32) → ok (j9 na_lengths_24) Q9) ?_ (fun k139 h_k139 => ?_)
      · intro na_lengths_24 q_9
        refine ok_bd (s_CodeNames_assignCodes (by clear hQ9; first | with_reducible assumption | (simp only [xl, xt, xe, xa, xb, xm, xg, ne_eq, Int32.reduceToInt] at * <;> omega) | grind) (by assumption)) (fun o9 h9 => ?_)
        obtain ⟨na_codes_29, rfl⟩ : ∃ z9, z9 = o9 := ⟨_, rfl⟩
        exact ok_some (hQ9 _ ⟨by assumption, by assumption⟩)
      refine ok_lp (fun s9 => ((0 : Int32) ≤ s9.1 ∧ s9.1 ≤ (16 : Int32)) ∧ R s9.2 (0 : Int32) (15 : Int32)) (fun s9 => 16 - s9.1) ⟨by clear hQ9 h_k139; first | with_reducible assumption | (simp only [xl, xt, xe, xa, xb, xm, xg, ne_eq, Int32.reduceToInt] at * <;> omega) | grind, by assumption⟩ ?_ ?_
      · intro s9 hs9; obtain ⟨v3_22, na_lengths_23⟩ := s9; try dsimp only at hs9; obtain ⟨q_10, q_11⟩ := hs9; exact ⟨by clear hQ9 h_k139; (try dsimp only); first | with_reducible assumption | (simp only [xl, xt, xe, xa, xb, xm, xg, ne_eq, Int32.reduceToInt] at * <;> omega) | grind, by clear hQ9 h_k139; (try dsimp only); first | with_reducible assumption | (simp only [xl, xt, xe, xa, xb, xm, xg, ne_eq, Int32.reduceToInt] at * <;> omega) | grind⟩
      intro self94 s9 hs9 ih_self94
      obtain ⟨v3_22, na_lengths_23⟩ := s9; try dsimp only at hs9; obtain ⟨q_10, q_11⟩ := hs9
      unfold f_CodeNames_suit_L94
      try dsimp only
      try dsimp only at ih_self94
      refine ok_if (fun q_12 => ?_) (fun q_12 => ?_)
      · skip
        exact h_k139 _ (by assumption)
      · skip
        refine ok_jn (fun j9 => ∀ (s_25 : Int32) (s_26 : Int32), ((0 : Int32) ≤ s_25 ∧ s_25 ≤ (15 : Int32)) → ((0 : Int32) ≤ s_26 ∧ s_26 ≤ (15 : Int32)) → ok (j9 s_25 s_26) Q9) ?_ (fun j132 h_j132 => ?_)
        · intro s_25 s_26 q_13 q_14
          refine ok_gq (16 : Int32) (by decide) (by clear hQ9 h_k139 ih_self94; first | with_reducible assumption | (simp only [xl, xt, xe, xa, xb, xm, xg, ne_eq, Int32.reduceToInt] at * <;> omega) | grind) (by clear hQ9 h_k139 ih_self94; first | with_reducible assumption | (simp only [xl, xt, xe, xa, xb, xm, xg, ne_eq, Int32.reduceToInt] at * <;> omega) | grind) ?_
          have q_15 : R (upd na_lengths_23 (s_25).toNatClampNeg s_26) (0 : Int32) (15 : Int32) := R_upd (by assumption) _ (by clear hQ9 h_k139 ih_self94; first | with_reducible assumption | (simp only [xl, xt, xe, xa, xb, xm, xg, ne_eq, Int32.reduceToInt] at * <;> omega) | grind)
          refine ok_nl (fun v3_27 e_v3_27 => ?_)
          exact ih_self94 (v3_27, (upd na_lengths_23 (s_25).toNatClampNeg s_26)) ⟨by clear hQ9 h_k139 ih_self94; first | with_reducible assumption | (simp only [xl, xt, xe, xa, xb, xm, xg, ne_eq, Int32.reduceToInt] at * <;> omega) | grind, by assumption⟩ (by clear hQ9 h_k139 ih_self94; (try dsimp only); first | with_reducible assumption | (simp only [xl, xt, xe, xa, xb, xm, xg, ne_eq, Int32.reduceToInt] at * <;> omega) | grind)
        refine ok_if (fun q_16 => ?_) (fun q_16 => ?_)
        · skip
          refine ok_gq (32 : Int32) (by decide) (by clear hQ9 h_k139 ih_self94 h_j132; first | with_reducible assumption | (simp only [xl, xt, xe, xa, xb, xm, xg, ne_eq, Int32.reduceToInt] at * <;> omega) | grind) (by clear hQ9 h_k139 ih_self94 h_j132; first | with_reducible assumption | (simp only [xl, xt, xe, xa, xb, xm, xg, ne_eq, Int32.reduceToInt] at * <;> omega) | grind) ?_
          refine ok_if (fun q_17 => ?_) (fun q_17 => ?_)
          · skip
            exact h_j132 _ _ (by clear hQ9 h_k139 ih_self94 h_j132; first | with_reducible assumption | (simp only [xl, xt, xe, xa, xb, xm, xg, ne_eq, Int32.reduceToInt] at * <;> omega) | grind) (by clear hQ9 h_k139 ih_self94 h_j132; first | with_reducible assumption | (simp only [xl, xt, xe, xa, xb, xm, xg, ne_eq, Int32.reduceToInt] at * <;> omega) | grind)
          · skip
            exact h_j132 _ _ (by clear hQ9 h_k139 ih_self94 h_j132; first | with_reducible assumption | (simp only [xl, xt, xe, xa, xb, xm, xg, ne_eq, Int32.reduceToInt] at * <;> omega) | grind) (by clear hQ9 h_k139 ih_self94 h_j132; first | with_reducible assumption | (simp only [xl, xt, xe, xa, xb, xm, xg, ne_eq, Int32.reduceToInt] at * <;> omega) | grind)
        · skip
          refine ok_bd (s_CodeNames_joinsOf (by assumption) (by clear hQ9 h_k139 ih_self94 h_j132; first | with_reducible assumption | (simp only [xl, xt, xe, xa, xb, xm, xg, ne_eq, Int32.reduceToInt] at * <;> omega) | grind)) (fun o9 h9 => ?_)
          obtain ⟨r_28, rfl⟩ : ∃ z9, z9 = o9 := ⟨_, rfl⟩
          have q_18 := h9
          clear h9
          exact h_j132 _ _ (by clear hQ9 h_k139 ih_self94 h_j132; first | with_reducible assumption | (simp only [xl, xt, xe, xa, xb, xm, xg, ne_eq, Int32.reduceToInt] at * <;> omega) | grind) (by clear hQ9 h_k139 ih_self94 h_j132; first | with_reducible assumption | (simp only [xl, xt, xe, xa, xb, xm, xg, ne_eq, Int32.reduceToInt] at * <;> omega) | grind)
    refine ok_lp (fun s9 => ((0 : Int32) ≤ s9.1 ∧ s9.1 ≤ (15 : Int32)) ∧ R s9.2.2 (-1 : Int32) (31 : Int32)) (fun s9 => 15 - s9.1) ⟨by clear hQ9 h_k92; first | with_reducible assumption | (simp only [xl, xt, xe, xa, xb, xm, xg, ne_eq, Int32.reduceToInt] at * <;> omega) | grind, by assumption⟩ ?_ ?_
    · intro s9 hs9; obtain ⟨v3_10, na_weights_11, na_joinedTo_12⟩ := s9; try dsimp only at hs9; obtain ⟨q_19, q_20⟩ := hs9; exact ⟨by clear hQ9 h_k92; (try dsimp only); first | with_reducible assumption | (simp only [xl, xt, xe, xa, xb, xm, xg, ne_eq, Int32.reduceToInt] at * <;> omega) | grind, by clear hQ9 h_k92; (try dsimp only); first | with_reducible assumption | (simp only [xl, xt, xe, xa, xb, xm, xg, ne_eq, Int32.reduceToInt] at * <;> omega) | grind⟩
    intro self45 s9 hs9 ih_self45
    obtain ⟨v3_10, na_weights_11, na_joinedTo_12⟩ := s9; try dsimp only at hs9; obtain ⟨q_19, q_20⟩ := hs9
    unfold f_CodeNames_suit_L45
    try dsimp only
    try dsimp only at ih_self45
    refine ok_if (fun q_21 => ?_) (fun q_21 => ?_)
    · skip
      exact h_k92 _ _ (by assumption)
    · skip
      refine ok_nl (fun v4_15 e_v4_15 => ?_)
      refine ok_bd (s_CodeNames_joinLeast (by assumption) (by clear hQ9 h_k92 ih_self45; first | with_reducible assumption | (simp only [xl, xt, xe, xa, xb, xm, xg, ne_eq, Int32.reduceToInt] at * <;> omega) | grind)) (fun o9 h9 => ?_)
      obtain ⟨r_16, na_joinedTo_17⟩ := o9
      try dsimp only at h9
      try dsimp only
      have q_22 := h9
      clear h9
      refine ok_bd (s_CodeNames_joinLeast (by assumption) (by clear hQ9 h_k92 ih_self45; first | with_reducible assumption | (simp only [xl, xt, xe, xa, xb, xm, xg, ne_eq, Int32.reduceToInt] at * <;> omega) | grind)) (fun o9 h9 => ?_)
      obtain ⟨r_18, na_joinedTo_19⟩ := o9
      try dsimp only at h9
      try dsimp only
      have q_23 := h9
      clear h9
      refine ok_nl (fun w_20 e_w_20 => ?_)
      refine ok_gq (32 : Int32) (by decide) (by clear hQ9 h_k92 ih_self45; first | with_reducible assumption | (simp only [xl, xt, xe, xa, xb, xm, xg, ne_eq, Int32.reduceToInt] at * <;> omega) | grind) (by clear hQ9 h_k92 ih_self45; first | with_reducible assumption | (simp only [xl, xt, xe, xa, xb, xm, xg, ne_eq, Int32.reduceToInt] at * <;> omega) | grind) ?_
      refine ok_nl (fun v3_21 e_v3_21 => ?_)
      exact ih_self45 (v3_21, (upd na_weights_11 (v4_15).toNatClampNeg w_20), na_joinedTo_19) ⟨by clear hQ9 h_k92 ih_self45; first | with_reducible assumption | (simp only [xl, xt, xe, xa, xb, xm, xg, ne_eq, Int32.reduceToInt] at * <;> omega) | grind, by assumption⟩ (by clear hQ9 h_k92 ih_self45; (try dsimp only); first | with_reducible assumption | (simp only [xl, xt, xe, xa, xb, xm, xg, ne_eq, Int32.reduceToInt] at * <;> omega) | grind)
  refine ok_lp (fun s9 => ((0 : Int32) ≤ s9.1 ∧ s9.1 ≤ (16 : Int32)) ∧ ((0 : Int32) ≤ s9.2 ∧ s9.2 ≤ (16 : Int32)) ∧ s9.2 ≤ s9.1) (fun s9 => 16 - s9.1) ⟨by clear hQ9 h_k43; first | with_reducible assumption | (simp only [xl, xt, xe, xa, xb, xm, xg, ne_eq, Int32.reduceToInt] at * <;> omega) | grind, by clear hQ9 h_k43; first | with_reducible assumption | (simp only [xl, xt, xe, xa, xb, xm, xg, ne_eq, Int32.reduceToInt] at * <;> omega) | grind, by clear hQ9 h_k43; first | with_reducible assumption | (simp only [xl, xt, xe, xa, xb, xm, xg, ne_eq, Int32.reduceToInt] at * <;> omega) | grind⟩ ?_ ?_
  · intro s9 hs9; obtain ⟨v3_3, v2_4⟩ := s9; try dsimp only at hs9; obtain ⟨q_24, q_25, q_26⟩ := hs9; exact ⟨by clear hQ9 h_k43; (try dsimp only); first | with_reducible assumption | (simp only [xl, xt, xe, xa, xb, xm, xg, ne_eq, Int32.reduceToInt] at * <;> omega) | grind, by clear hQ9 h_k43; (try dsimp only); first | with_reducible assumption | (simp only [xl, xt, xe, xa, xb, xm, xg, ne_eq, Int32.reduceToInt] at * <;> omega) | grind⟩
  intro self9 s9 hs9 ih_self9
  obtain ⟨v3_3, v2_4⟩ := s9; try dsimp only at hs9; obtain ⟨q_24, q_25, q_26⟩ := hs9
  unfold f_CodeNames_suit_L9
  try dsimp only
  try dsimp only at ih_self9
  refine ok_if (fun q_27 => ?_) (fun q_27 => ?_)
  · skip
    exact h_k43 _ (by clear hQ9 h_k43 ih_self9; first | with_reducible assumption | (simp only [xl, xt, xe, xa, xb, xm, xg, ne_eq, Int32.reduceToInt] at * <;> omega) | grind)
  · skip
    refine ok_gq (32 : Int32) (by decide) (by clear hQ9 h_k43 ih_self9; first | with_reducible assumption | (simp only [xl, xt, xe, xa, xb, xm, xg, ne_eq, Int32.reduceToInt] at * <;> omega) | grind) (by clear hQ9 h_k43 ih_self9; first | with_reducible assumption | (simp only [xl, xt, xe, xa, xb, xm, xg, ne_eq, Int32.reduceToInt] at * <;> omega) | grind) ?_
    refine ok_jn (fun j9 => ∀ (s_6 : Int32) (s_7 : Int32), ((0 : Int32) ≤ s_6 ∧ s_6 ≤ (16 : Int32)) → ((0 : Int32) ≤ s_7 ∧ s_7 ≤ (1 : Int32)) → s_6 ≤ v3_3 → ok (j9 s_6 s_7) Q9) ?_ (fun j35 h_j35 => ?_)
    · intro s_6 s_7 q_28 q_29 q_30
      refine ok_nl (fun v2_8 e_v2_8 => ?_)
      refine ok_nl (fun v3_9 e_v3_9 => ?_)
      exact ih_self9 (v3_9, v2_8) ⟨by clear hQ9 h_k43 ih_self9; first | with_reducible assumption | (simp only [xl, xt, xe, xa, xb, xm, xg, ne_eq, Int32.reduceToInt] at * <;> omega) | grind, by clear hQ9 h_k43 ih_self9; first | with_reducible assumption | (simp only [xl, xt, xe, xa, xb, xm, xg, ne_eq, Int32.reduceToInt] at * <;> omega) | grind, by clear hQ9 h_k43 ih_self9; first | with_reducible assumption | (simp only [xl, xt, xe, xa, xb, xm, xg, ne_eq, Int32.reduceToInt] at * <;> omega) | grind⟩ (by clear hQ9 h_k43 ih_self9; (try dsimp only); first | with_reducible assumption | (simp only [xl, xt, xe, xa, xb, xm, xg, ne_eq, Int32.reduceToInt] at * <;> omega) | grind)
    refine ok_if (fun q_31 => ?_) (fun q_31 => ?_)
    · skip
      exact h_j35 _ _ (by clear hQ9 h_k43 ih_self9 h_j35; first | with_reducible assumption | (simp only [xl, xt, xe, xa, xb, xm, xg, ne_eq, Int32.reduceToInt] at * <;> omega) | grind) (by clear hQ9 h_k43 ih_self9 h_j35; first | with_reducible assumption | (simp only [xl, xt, xe, xa, xb, xm, xg, ne_eq, Int32.reduceToInt] at * <;> omega) | grind) (by clear hQ9 h_k43 ih_self9 h_j35; first | with_reducible assumption | (simp only [xl, xt, xe, xa, xb, xm, xg, ne_eq, Int32.reduceToInt] at * <;> omega) | grind)
    · skip
      exact h_j35 _ _ (by clear hQ9 h_k43 ih_self9 h_j35; first | with_reducible assumption | (simp only [xl, xt, xe, xa, xb, xm, xg, ne_eq, Int32.reduceToInt] at * <;> omega) | grind) (by clear hQ9 h_k43 ih_self9 h_j35; first | with_reducible assumption | (simp only [xl, xt, xe, xa, xb, xm, xg, ne_eq, Int32.reduceToInt] at * <;> omega) | grind) (by clear hQ9 h_k43 ih_self9 h_j35; first | with_reducible assumption | (simp only [xl, xt, xe, xa, xb, xm, xg, ne_eq, Int32.reduceToInt] at * <;> omega) | grind)

set_option maxHeartbeats 4000000 in
set_option maxRecDepth 20000 in
theorem s_CodeNames_tellTable {wr_keeping : Int32} {wr_count : Int32} {di_count : Int32} {na_lengths : (Nat → Int32)} {tb_count : Int32} {tb_bytes : (Nat → Int32)} (q_1 : ((0 : Int32) ≤ wr_keeping ∧ wr_keeping ≤ (1 : Int32))) (q_2 : ((0 : Int32) ≤ wr_count ∧ wr_count ≤ (1000000 : Int32))) (q_3 : ((0 : Int32) ≤ di_count ∧ di_count ≤ (16 : Int32))) (q_4 : R na_lengths (0 : Int32) (15 : Int32)) (q_5 : ((0 : Int32) ≤ tb_count ∧ tb_count ≤ (2000 : Int32))) (q_6 : wr_count ≤ (700000 : Int32)) : ok (f_CodeNames_tellTable wr_keeping wr_count di_count na_lengths tb_count tb_bytes) (fun o => ((0 : Int32) ≤ o.1 ∧ o.1 ≤ (1000000 : Int32)) ∧ ((0 : Int32) ≤ o.2.1 ∧ o.2.1 ≤ (2000 : Int32)) ∧ o.1 ≤ wr_count + 64) := by
  refine ok_Q (fun Q9 hQ9 => ?_)
  unfold f_CodeNames_tellTable
  refine ok_lp (fun s9 => ((0 : Int32) ≤ s9.1 ∧ s9.1 ≤ (16 : Int32)) ∧ ((0 : Int32) ≤ s9.2.1 ∧ s9.2.1 ≤ (1000000 : Int32)) ∧ ((0 : Int32) ≤ s9.2.2.1 ∧ s9.2.2.1 ≤ (2000 : Int32)) ∧ s9.2.1 ≤ wr_count + 4 * s9.1) (fun s9 => 16 - s9.1) ⟨by clear hQ9; first | with_reducible assumption | (simp only [xl, xt, xe, xa, xb, xm, xg, ne_eq, Int32.reduceToInt] at * <;> omega) | grind, by clear hQ9; first | with_reducible assumption | (simp only [xl, xt, xe, xa, xb, xm, xg, ne_eq, Int32.reduceToInt] at * <;> omega) | grind, by clear hQ9; first | with_reducible assumption | (simp only [xl, xt, xe, xa, xb, xm, xg, ne_eq, Int32.reduceToInt] at * <;> omega) | grind, by clear hQ9; first | with_reducible assumption | (simp only [xl, xt, xe, xa, xb, xm, xg, ne_eq, Int32.reduceToInt] at * <;> omega) | grind⟩ ?_ ?_
  · intro s9 hs9; obtain ⟨v2_1, wr_count_2, tb_count_3, tb_bytes_4⟩ := s9; try dsimp only at hs9; obtain ⟨q_7, q_8, q_9, q_10⟩ := hs9; exact ⟨by clear hQ9; (try dsimp only); first | with_reducible assumption | (simp only [xl, xt, xe, xa, xb, xm, xg, ne_eq, Int32.reduceToInt] at * <;> omega) | grind, by clear hQ9; (try dsimp only); first | with_reducible assumption | (simp only [xl, xt, xe, xa, xb, xm, xg, ne_eq, Int32.reduceToInt] at * <;> omega) | grind⟩
  intro self2 s9 hs9 ih_self2
  obtain ⟨v2_1, wr_count_2, tb_count_3, tb_bytes_4⟩ := s9; try dsimp only at hs9; obtain ⟨q_7, q_8, q_9, q_10⟩ := hs9
  unfold f_CodeNames_tellTable_L2
  try dsimp only
  try dsimp only at ih_self2
  refine ok_if (fun q_11 => ?_) (fun q_11 => ?_)
  · skip
    exact ok_some (hQ9 _ ⟨by clear hQ9 ih_self2; first | with_reducible assumption | (simp only [xl, xt, xe, xa, xb, xm, xg, ne_eq, Int32.reduceToInt] at * <;> omega) | grind, by clear hQ9 ih_self2; first | with_reducible assumption | (simp only [xl, xt, xe, xa, xb, xm, xg, ne_eq, Int32.reduceToInt] at * <;> omega) | grind, by clear hQ9 ih_self2; first | with_reducible assumption | (simp only [xl, xt, xe, xa, xb, xm, xg, ne_eq, Int32.reduceToInt] at * <;> omega) | grind⟩)
  · skip
    refine ok_gq (16 : Int32) (by decide) (by clear hQ9 ih_self2; first | with_reducible assumption | (simp only [xl, xt, xe, xa, xb, xm, xg, ne_eq, Int32.reduceToInt] at * <;> omega) | grind) (by clear hQ9 ih_self2; first | with_reducible assumption | (simp only [xl, xt, xe, xa, xb, xm, xg, ne_eq, Int32.reduceToInt] at * <;> omega) | grind) ?_
    have q_12 := (by assumption : R na_lengths (0 : Int32) (15 : Int32)) (v2_1).toNatClampNeg
    refine ok_bd (s_BitWriter_tellBits (by clear hQ9 ih_self2; first | with_reducible assumption | (simp only [xl, xt, xe, xa, xb, xm, xg, ne_eq, Int32.reduceToInt] at * <;> omega) | grind) (by clear hQ9 ih_self2; first | with_reducible assumption | (simp only [xl, xt, xe, xa, xb, xm, xg, ne_eq, Int32.reduceToInt] at * <;> omega) | grind) (by clear hQ9 ih_self2; first | with_reducible assumption | (simp only [xl, xt, xe, xa, xb, xm, xg, ne_eq, Int32.reduceToInt] at * <;> omega) | grind) (by clear hQ9 ih_self2; first | with_reducible assumption | (simp only [xl, xt, xe, xa, xb, xm, xg, ne_eq, Int32.reduceToInt] at * <;> omega) | grind) (by clear hQ9 ih_self2; first | with_reducible assumption | (simp only [xl, xt, xe, xa, xb, xm, xg, ne_eq, Int32.reduceToInt] at * <;> omega) | grind)) (fun o9 h9 => ?_)
    obtain ⟨wr_count_5, tb_count_6, tb_bytes_7⟩ := o9
    try dsimp only at h9
    try dsimp only
    obtain ⟨q_13, q_14, q_15⟩ := h9
    refine ok_nl (fun v2_8 e_v2_8 => ?_)
    exact ih_self2 (v2_8, wr_count_5, tb_count_6, tb_bytes_7) ⟨by clear hQ9 ih_self2; first | with_reducible assumption | (simp only [xl, xt, xe, xa, xb, xm, xg, ne_eq, Int32.reduceToInt] at * <;> omega) | grind, by clear hQ9 ih_self2; first | with_reducible assumption | (simp only [xl, xt, xe, xa, xb, xm, xg, ne_eq, Int32.reduceToInt] at * <;> omega) | grind, by clear hQ9 ih_self2; first | with_reducible assumption | (simp only [xl, xt, xe, xa, xb, xm, xg, ne_eq, Int32.reduceToInt] at * <;> omega) | grind, by clear hQ9 ih_self2; first | with_reducible assumption | (simp only [xl, xt, xe, xa, xb, xm, xg, ne_eq, Int32.reduceToInt] at * <;> omega) | grind⟩ (by clear hQ9 ih_self2; (try dsimp only); first | with_reducible assumption | (simp only [xl, xt, xe, xa, xb, xm, xg, ne_eq, Int32.reduceToInt] at * <;> omega) | grind)

set_option maxHeartbeats 4000000 in
set_option maxRecDepth 20000 in
theorem s_CodeNames_tellName {wr_keeping : Int32} {wr_count : Int32} {na_codes : (Nat → Int32)} {na_lengths : (Nat → Int32)} {tb_count : Int32} {tb_bytes : (Nat → Int32)} {p0 : Int32} (q_1 : ((0 : Int32) ≤ wr_keeping ∧ wr_keeping ≤ (1 : Int32))) (q_2 : ((0 : Int32) ≤ wr_count ∧ wr_count ≤ (1000000 : Int32))) (q_3 : R na_lengths (0 : Int32) (15 : Int32)) (q_4 : ((0 : Int32) ≤ tb_count ∧ tb_count ≤ (2000 : Int32))) (q_5 : ((0 : Int32) ≤ p0 ∧ p0 ≤ (15 : Int32))) (q_6 : wr_count ≤ (800000 : Int32)) : ok (f_CodeNames_tellName wr_keeping wr_count na_codes na_lengths tb_count tb_bytes p0) (fun o => ((0 : Int32) ≤ o.1 ∧ o.1 ≤ (1000000 : Int32)) ∧ ((0 : Int32) ≤ o.2.1 ∧ o.2.1 ≤ (2000 : Int32)) ∧ o.1 ≤ wr_count + 25) := by
  refine ok_Q (fun Q9 hQ9 => ?_)
  unfold f_CodeNames_tellName
  refine ok_gq (16 : Int32) (by decide) (by clear hQ9; first | with_reducible assumption | (simp only [xl, xt, xe, xa, xb, xm, xg, ne_eq, Int32.reduceToInt] at * <;> omega) | grind) (by clear hQ9; first | with_reducible assumption | (simp only [xl, xt, xe, xa, xb, xm, xg, ne_eq, Int32.reduceToInt] at * <;> omega) | grind) ?_
  refine ok_gq (16 : Int32) (by decide) (by clear hQ9; first | with_reducible assumption | (simp only [xl, xt, xe, xa, xb, xm, xg, ne_eq, Int32.reduceToInt] at * <;> omega) | grind) (by clear hQ9; first | with_reducible assumption | (simp only [xl, xt, xe, xa, xb, xm, xg, ne_eq, Int32.reduceToInt] at * <;> omega) | grind) ?_
  have q_7 := (by assumption : R na_lengths (0 : Int32) (15 : Int32)) (p0).toNatClampNeg
  refine ok_bd (s_BitWriter_tellBits (by clear hQ9; first | with_reducible assumption | (simp only [xl, xt, xe, xa, xb, xm, xg, ne_eq, Int32.reduceToInt] at * <;> omega) | grind) (by clear hQ9; first | with_reducible assumption | (simp only [xl, xt, xe, xa, xb, xm, xg, ne_eq, Int32.reduceToInt] at * <;> omega) | grind) (by clear hQ9; first | with_reducible assumption | (simp only [xl, xt, xe, xa, xb, xm, xg, ne_eq, Int32.reduceToInt] at * <;> omega) | grind) (by clear hQ9; first | with_reducible assumption | (simp only [xl, xt, xe, xa, xb, xm, xg, ne_eq, Int32.reduceToInt] at * <;> omega) | grind) (by clear hQ9; first | with_reducible assumption | (simp only [xl, xt, xe, xa, xb, xm, xg, ne_eq, Int32.reduceToInt] at * <;> omega) | grind)) (fun o9 h9 => ?_)
  obtain ⟨wr_count_1, tb_count_2, tb_bytes_3⟩ := o9
  try dsimp only at h9
  try dsimp only
  obtain ⟨q_8, q_9, q_10⟩ := h9
  exact ok_some (hQ9 _ ⟨by clear hQ9; first | with_reducible assumption | (simp only [xl, xt, xe, xa, xb, xm, xg, ne_eq, Int32.reduceToInt] at * <;> omega) | grind, by clear hQ9; first | with_reducible assumption | (simp only [xl, xt, xe, xa, xb, xm, xg, ne_eq, Int32.reduceToInt] at * <;> omega) | grind, by clear hQ9; first | with_reducible assumption | (simp only [xl, xt, xe, xa, xb, xm, xg, ne_eq, Int32.reduceToInt] at * <;> omega) | grind⟩)

set_option maxHeartbeats 4000000 in
set_option maxRecDepth 20000 in
theorem s_CodeNames_readTable {rd_place : Int32} {rd_refusal : Int32} {na_lengths : (Nat → Int32)} {di_count : Int32} {cb_count : Int32} {cb_bytes : (Nat → Int32)} {na_codes : (Nat → Int32)} {p1 : Int32} (q_1 : ((0 : Int32) ≤ rd_place ∧ rd_place ≤ (16000 : Int32))) (q_2 : ((0 : Int32) ≤ rd_refusal ∧ rd_refusal ≤ (9 : Int32))) (q_3 : R na_lengths (0 : Int32) (15 : Int32)) (q_4 : ((0 : Int32) ≤ di_count ∧ di_count ≤ (16 : Int32))) (q_5 : ((0 : Int32) ≤ cb_count ∧ cb_count ≤ (2000 : Int32))) : ok (f_CodeNames_readTable rd_place rd_refusal na_lengths di_count cb_count cb_bytes na_codes p1) (fun o => ((0 : Int32) ≤ o.1 ∧ o.1 ≤ (16000 : Int32)) ∧ ((0 : Int32) ≤ o.2.1 ∧ o.2.1 ≤ (9 : Int32)) ∧ R o.2.2.1 (0 : Int32) (15 : Int32) ∧ (o.2.1 = 0 → rd_refusal = 0)) := by
  refine ok_Q (fun Q9 hQ9 => ?_)
  unfold f_CodeNames_readTable
  have q_pw4 : pw 4 = 16 := rfl
  refine ok_ex (fun k9 => lp (f_CodeNames_readTable_L2 di_count cb_count cb_bytes k9) FU ((0 : Int32), rd_place, rd_refusal, na_lengths)) (fun j9 => ∀ (rd_place_5 : Int32) (rd_refusal_6 : Int32) (na_lengths_7 : (Nat → Int32)), ((0 : Int32) ≤ rd_place_5 ∧ rd_place_5 ≤ (16000 : Int32)) → ((0 : Int32) ≤ rd_refusal_6 ∧ rd_refusal_6 ≤ (9 : Int32)) → R na_lengths_7 (0 : Int32) (15 : Int32) → (rd_refusal_6 = 0 → rd_refusal = 0) → ok (j9 rd_place_5 rd_refusal_6 na_lengths_7) Q9) ?_ (fun k40 h_k40 => ?_)
  · intro rd_place_5 rd_refusal_6 na_lengths_7 q_6 q_7 q_8 q_9
    refine ok_bd (s_CodeNames_areAllowed (by clear hQ9; first | with_reducible assumption | (simp only [xl, xt, xe, xa, xb, xm, xg, ne_eq, Int32.reduceToInt] at * <;> omega) | grind) (by assumption)) (fun o9 h9 => ?_)
    obtain ⟨r_16, rfl⟩ : ∃ z9, z9 = o9 := ⟨_, rfl⟩
    have q_10 := h9
    clear h9
    refine ok_jn (fun j9 => ∀ (rd_refusal_17 : Int32), ((0 : Int32) ≤ rd_refusal_17 ∧ rd_refusal_17 ≤ (9 : Int32)) → (rd_refusal_17 = 0 → rd_refusal = 0) → ok (j9 rd_refusal_17) Q9) ?_ (fun j53 h_j53 => ?_)
    · intro rd_refusal_17 q_11 q_12
      refine ok_bd (s_CodeNames_assignCodes (by clear hQ9; first | with_reducible assumption | (simp only [xl, xt, xe, xa, xb, xm, xg, ne_eq, Int32.reduceToInt] at * <;> omega) | grind) (by assumption)) (fun o9 h9 => ?_)
      obtain ⟨na_codes_18, rfl⟩ : ∃ z9, z9 = o9 := ⟨_, rfl⟩
      exact ok_some (hQ9 _ ⟨by clear hQ9; first | with_reducible assumption | (simp only [xl, xt, xe, xa, xb, xm, xg, ne_eq, Int32.reduceToInt] at * <;> omega) | grind, by clear hQ9; first | with_reducible assumption | (simp only [xl, xt, xe, xa, xb, xm, xg, ne_eq, Int32.reduceToInt] at * <;> omega) | grind, by assumption, by clear hQ9; first | with_reducible assumption | (simp only [xl, xt, xe, xa, xb, xm, xg, ne_eq, Int32.reduceToInt] at * <;> omega) | grind⟩)
    refine ok_if (fun q_13 => ?_) (fun q_13 => ?_)
    · skip
      refine ok_bd (s_BitReader_refuse (by clear hQ9 h_j53; first | with_reducible assumption | (simp only [xl, xt, xe, xa, xb, xm, xg, ne_eq, Int32.reduceToInt] at * <;> omega) | grind) (by clear hQ9 h_j53; first | with_reducible assumption | (simp only [xl, xt, xe, xa, xb, xm, xg, ne_eq, Int32.reduceToInt] at * <;> omega) | grind)) (fun o9 h9 => ?_)
      obtain ⟨rd_refusal_19, rfl⟩ : ∃ z9, z9 = o9 := ⟨_, rfl⟩
      obtain ⟨q_14, q_15⟩ := h9
      exact h_j53 _ (by clear hQ9 h_j53; first | with_reducible assumption | (simp only [xl, xt, xe, xa, xb, xm, xg, ne_eq, Int32.reduceToInt] at * <;> omega) | grind) (by clear hQ9 h_j53; first | with_reducible assumption | (simp only [xl, xt, xe, xa, xb, xm, xg, ne_eq, Int32.reduceToInt] at * <;> omega) | grind)
    · skip
      exact h_j53 _ (by clear hQ9 h_j53; first | with_reducible assumption | (simp only [xl, xt, xe, xa, xb, xm, xg, ne_eq, Int32.reduceToInt] at * <;> omega) | grind) (by clear hQ9 h_j53; first | with_reducible assumption | (simp only [xl, xt, xe, xa, xb, xm, xg, ne_eq, Int32.reduceToInt] at * <;> omega) | grind)
  refine ok_lp (fun s9 => ((0 : Int32) ≤ s9.1 ∧ s9.1 ≤ (16 : Int32)) ∧ ((0 : Int32) ≤ s9.2.1 ∧ s9.2.1 ≤ (16000 : Int32)) ∧ ((0 : Int32) ≤ s9.2.2.1 ∧ s9.2.2.1 ≤ (9 : Int32)) ∧ R s9.2.2.2 (0 : Int32) (15 : Int32) ∧ (s9.2.2.1 = 0 → rd_refusal = 0)) (fun s9 => 16 - s9.1) ⟨by clear hQ9 h_k40; first | with_reducible assumption | (simp only [xl, xt, xe, xa, xb, xm, xg, ne_eq, Int32.reduceToInt] at * <;> omega) | grind, by clear hQ9 h_k40; first | with_reducible assumption | (simp only [xl, xt, xe, xa, xb, xm, xg, ne_eq, Int32.reduceToInt] at * <;> omega) | grind, by clear hQ9 h_k40; first | with_reducible assumption | (simp only [xl, xt, xe, xa, xb, xm, xg, ne_eq, Int32.reduceToInt] at * <;> omega) | grind, by assumption, by clear hQ9 h_k40; first | with_reducible assumption | (simp only [xl, xt, xe, xa, xb, xm, xg, ne_eq, Int32.reduceToInt] at * <;> omega) | grind⟩ ?_ ?_
  · intro s9 hs9; obtain ⟨v3_1, rd_place_2, rd_refusal_3, na_lengths_4⟩ := s9; try dsimp only at hs9; obtain ⟨q_16, q_17, q_18, q_19, q_20⟩ := hs9; exact ⟨by clear hQ9 h_k40; (try dsimp only); first | with_reducible assumption | (simp only [xl, xt, xe, xa, xb, xm, xg, ne_eq, Int32.reduceToInt] at * <;> omega) | grind, by clear hQ9 h_k40; (try dsimp only); first | with_reducible assumption | (simp only [xl, xt, xe, xa, xb, xm, xg, ne_eq, Int32.reduceToInt] at * <;> omega) | grind⟩
  intro self2 s9 hs9 ih_self2
  obtain ⟨v3_1, rd_place_2, rd_refusal_3, na_lengths_4⟩ := s9; try dsimp only at hs9; obtain ⟨q_16, q_17, q_18, q_19, q_20⟩ := hs9
  unfold f_CodeNames_readTable_L2
  try dsimp only
  try dsimp only at ih_self2
  refine ok_if (fun q_21 => ?_) (fun q_21 => ?_)
  · skip
    exact h_k40 _ _ _ (by clear hQ9 h_k40 ih_self2; first | with_reducible assumption | (simp only [xl, xt, xe, xa, xb, xm, xg, ne_eq, Int32.reduceToInt] at * <;> omega) | grind) (by clear hQ9 h_k40 ih_self2; first | with_reducible assumption | (simp only [xl, xt, xe, xa, xb, xm, xg, ne_eq, Int32.reduceToInt] at * <;> omega) | grind) (by assumption) (by clear hQ9 h_k40 ih_self2; first | with_reducible assumption | (simp only [xl, xt, xe, xa, xb, xm, xg, ne_eq, Int32.reduceToInt] at * <;> omega) | grind)
  · skip
    refine ok_jn (fun j9 => ∀ (s_8 : Int32) (s_9 : Int32) (rd_place_10 : Int32) (rd_refusal_11 : Int32), ((0 : Int32) ≤ s_8 ∧ s_8 ≤ (15 : Int32)) → ((0 : Int32) ≤ s_9 ∧ s_9 ≤ (15 : Int32)) → ((0 : Int32) ≤ rd_place_10 ∧ rd_place_10 ≤ (16000 : Int32)) → ((0 : Int32) ≤ rd_refusal_11 ∧ rd_refusal_11 ≤ (9 : Int32)) → (rd_refusal_11 = 0 → rd_refusal = 0) → ok (j9 s_8 s_9 rd_place_10 rd_refusal_11) Q9) ?_ (fun j33 h_j33 => ?_)
    · intro s_8 s_9 rd_place_10 rd_refusal_11 q_22 q_23 q_24 q_25 q_26
      refine ok_gq (16 : Int32) (by decide) (by clear hQ9 h_k40 ih_self2; first | with_reducible assumption | (simp only [xl, xt, xe, xa, xb, xm, xg, ne_eq, Int32.reduceToInt] at * <;> omega) | grind) (by clear hQ9 h_k40 ih_self2; first | with_reducible assumption | (simp only [xl, xt, xe, xa, xb, xm, xg, ne_eq, Int32.reduceToInt] at * <;> omega) | grind) ?_
      have q_27 : R (upd na_lengths_4 (s_8).toNatClampNeg s_9) (0 : Int32) (15 : Int32) := R_upd (by assumption) _ (by clear hQ9 h_k40 ih_self2; first | with_reducible assumption | (simp only [xl, xt, xe, xa, xb, xm, xg, ne_eq, Int32.reduceToInt] at * <;> omega) | grind)
      refine ok_nl (fun v3_12 e_v3_12 => ?_)
      exact ih_self2 (v3_12, rd_place_10, rd_refusal_11, (upd na_lengths_4 (s_8).toNatClampNeg s_9)) ⟨by clear hQ9 h_k40 ih_self2; first | with_reducible assumption | (simp only [xl, xt, xe, xa, xb, xm, xg, ne_eq, Int32.reduceToInt] at * <;> omega) | grind, by clear hQ9 h_k40 ih_self2; first | with_reducible assumption | (simp only [xl, xt, xe, xa, xb, xm, xg, ne_eq, Int32.reduceToInt] at * <;> omega) | grind, by clear hQ9 h_k40 ih_self2; first | with_reducible assumption | (simp only [xl, xt, xe, xa, xb, xm, xg, ne_eq, Int32.reduceToInt] at * <;> omega) | grind, by assumption, by clear hQ9 h_k40 ih_self2; first | with_reducible assumption | (simp only [xl, xt, xe, xa, xb, xm, xg, ne_eq, Int32.reduceToInt] at * <;> omega) | grind⟩ (by clear hQ9 h_k40 ih_self2; (try dsimp only); first | with_reducible assumption | (simp only [xl, xt, xe, xa, xb, xm, xg, ne_eq, Int32.reduceToInt] at * <;> omega) | grind)
    refine ok_if (fun q_28 => ?_) (fun q_28 => ?_)
    · skip
      exact h_j33 _ _ _ _ (by clear hQ9 h_k40 ih_self2 h_j33; first | with_reducible assumption | (simp only [xl, xt, xe, xa, xb, xm, xg, ne_eq, Int32.reduceToInt] at * <;> omega) | grind) (by clear hQ9 h_k40 ih_self2 h_j33; first | with_reducible assumption | (simp only [xl, xt, xe, xa, xb, xm, xg, ne_eq, Int32.reduceToInt] at * <;> omega) | grind) (by clear hQ9 h_k40 ih_self2 h_j33; first | with_reducible assumption | (simp only [xl, xt, xe, xa, xb, xm, xg, ne_eq, Int32.reduceToInt] at * <;> omega) | grind) (by clear hQ9 h_k40 ih_self2 h_j33; first | with_reducible assumption | (simp only [xl, xt, xe, xa, xb, xm, xg, ne_eq, Int32.reduceToInt] at * <;> omega) | grind) (by clear hQ9 h_k40 ih_self2 h_j33; first | with_reducible assumption | (simp only [xl, xt, xe, xa, xb, xm, xg, ne_eq, Int32.reduceToInt] at * <;> omega) | grind)
    · skip
      refine ok_bd (s_BitReader_nextBits (by clear hQ9 h_k40 ih_self2 h_j33; first | with_reducible assumption | (simp only [xl, xt, xe, xa, xb, xm, xg, ne_eq, Int32.reduceToInt] at * <;> omega) | grind) (by clear hQ9 h_k40 ih_self2 h_j33; first | with_reducible assumption | (simp only [xl, xt, xe, xa, xb, xm, xg, ne_eq, Int32.reduceToInt] at * <;> omega) | grind) (by clear hQ9 h_k40 ih_self2 h_j33; first | with_reducible assumption | (simp only [xl, xt, xe, xa, xb, xm, xg, ne_eq, Int32.reduceToInt] at * <;> omega) | grind) (by clear hQ9 h_k40 ih_self2 h_j33; first | with_reducible assumption | (simp only [xl, xt, xe, xa, xb, xm, xg, ne_eq, Int32.reduceToInt] at * <;> omega) | grind)) (fun o9 h9 => ?_)
      obtain ⟨r_13, rd_place_14, rd_refusal_15⟩ := o9
      try dsimp only at h9
      try dsimp only
      obtain ⟨q_29, q_30, q_31, q_32, q_33⟩ := h9
      exact h_j33 _ _ _ _ (by clear hQ9 h_k40 ih_self2 h_j33; first | with_reducible assumption | (simp only [xl, xt, xe, xa, xb, xm, xg, ne_eq, Int32.reduceToInt] at * <;> omega) | grind) (by clear hQ9 h_k40 ih_self2 h_j33; first | with_reducible assumption | (simp only [xl, xt, xe, xa, xb, xm, xg, ne_eq, Int32.reduceToInt] at * <;> omega) | grind) (by clear hQ9 h_k40 ih_self2 h_j33; first | with_reducible assumption | (simp only [xl, xt, xe, xa, xb, xm, xg, ne_eq, Int32.reduceToInt] at * <;> omega) | grind) (by clear hQ9 h_k40 ih_self2 h_j33; first | with_reducible assumption | (simp only [xl, xt, xe, xa, xb, xm, xg, ne_eq, Int32.reduceToInt] at * <;> omega) | grind) (by clear hQ9 h_k40 ih_self2 h_j33; first | with_reducible assumption | (simp only [xl, xt, xe, xa, xb, xm, xg, ne_eq, Int32.reduceToInt] at * <;> omega) | grind)

set_option maxHeartbeats 4000000 in
set_option maxRecDepth 20000 in
theorem s_CodeNames_readName {rd_place : Int32} {rd_refusal : Int32} {di_count : Int32} {na_lengths : (Nat → Int32)} {cb_count : Int32} {cb_bytes : (Nat → Int32)} {na_codes : (Nat → Int32)} (q_1 : ((0 : Int32) ≤ rd_place ∧ rd_place ≤ (16000 : Int32))) (q_2 : ((0 : Int32) ≤ rd_refusal ∧ rd_refusal ≤ (9 : Int32))) (q_3 : ((0 : Int32) ≤ di_count ∧ di_count ≤ (16 : Int32))) (q_4 : R na_lengths (0 : Int32) (15 : Int32)) (q_5 : ((0 : Int32) ≤ cb_count ∧ cb_count ≤ (2000 : Int32))) : ok (f_CodeNames_readName rd_place rd_refusal di_count na_lengths cb_count cb_bytes na_codes) (fun o => ((0 : Int32) ≤ o.1 ∧ o.1 ≤ (15 : Int32)) ∧ ((0 : Int32) ≤ o.2.1 ∧ o.2.1 ≤ (16000 : Int32)) ∧ ((0 : Int32) ≤ o.2.2 ∧ o.2.2 ≤ (9 : Int32)) ∧ (o.2.2 = 0 → rd_refusal = 0)) := by
  refine ok_Q (fun Q9 hQ9 => ?_)
  unfold f_CodeNames_readName
  refine ok_ex (fun k9 => lp (f_CodeNames_readName_L4 di_count na_lengths k9) FU ((0 : Int32), (0 : Int32))) (fun j9 => ∀ (v2_3 : Int32), ((0 : Int32) ≤ v2_3 ∧ v2_3 ≤ (15 : Int32)) → ok (j9 v2_3) Q9) ?_ (fun k32 h_k32 => ?_)
  · intro v2_3 q_6
    refine ok_ex (fun k9 => lp (f_CodeNames_readName_L37 v2_3 cb_count cb_bytes di_count na_lengths na_codes k9) FU ((1 : Int32), (0 : Int32), rd_place, rd_refusal)) (fun j9 => ∀ (rd_place_10 : Int32) (rd_refusal_11 : Int32), ((0 : Int32) ≤ rd_place_10 ∧ rd_place_10 ≤ (16000 : Int32)) → ((0 : Int32) ≤ rd_refusal_11 ∧ rd_refusal_11 ≤ (9 : Int32)) → (rd_refusal_11 = 0 → rd_refusal = 0) → ok (j9 rd_place_10 rd_refusal_11) Q9) ?_ (fun k76 h_k76 => ?_)
    · intro rd_place_10 rd_refusal_11 q_7 q_8 q_9
      refine ok_bd (s_BitReader_refuse (by clear hQ9; first | with_reducible assumption | (simp only [xl, xt, xe, xa, xb, xm, xg, ne_eq, Int32.reduceToInt] at * <;> omega) | grind) (by clear hQ9; first | with_reducible assumption | (simp only [xl, xt, xe, xa, xb, xm, xg, ne_eq, Int32.reduceToInt] at * <;> omega) | grind)) (fun o9 h9 => ?_)
      obtain ⟨rd_refusal_18, rfl⟩ : ∃ z9, z9 = o9 := ⟨_, rfl⟩
      obtain ⟨q_10, q_11⟩ := h9
      exact ok_some (hQ9 _ ⟨by clear hQ9; first | with_reducible assumption | (simp only [xl, xt, xe, xa, xb, xm, xg, ne_eq, Int32.reduceToInt] at * <;> omega) | grind, by clear hQ9; first | with_reducible assumption | (simp only [xl, xt, xe, xa, xb, xm, xg, ne_eq, Int32.reduceToInt] at * <;> omega) | grind, by clear hQ9; first | with_reducible assumption | (simp only [xl, xt, xe, xa, xb, xm, xg, ne_eq, Int32.reduceToInt] at * <;> omega) | grind, by clear hQ9; first | with_reducible assumption | (simp only [xl, xt, xe, xa, xb, xm, xg, ne_eq, Int32.reduceToInt] at * <;> omega) | grind⟩)
    refine ok_lp (fun s9 => ((1 : Int32) ≤ s9.1 ∧ s9.1 ≤ (16 : Int32)) ∧ ((0 : Int32) ≤ s9.2.2.1 ∧ s9.2.2.1 ≤ (16000 : Int32)) ∧ ((0 : Int32) ≤ s9.2.2.2 ∧ s9.2.2.2 ≤ (9 : Int32)) ∧ (s9.2.2.2 = 0 → rd_refusal = 0)) (fun s9 => 16 - s9.1) ⟨by clear hQ9 h_k76; first | with_reducible assumption | (simp only [xl, xt, xe, xa, xb, xm, xg, ne_eq, Int32.reduceToInt] at * <;> omega) | grind, by clear hQ9 h_k76; first | with_reducible assumption | (simp only [xl, xt, xe, xa, xb, xm, xg, ne_eq, Int32.reduceToInt] at * <;> omega) | grind, by clear hQ9 h_k76; first | with_reducible assumption | (simp only [xl, xt, xe, xa, xb, xm, xg, ne_eq, Int32.reduceToInt] at * <;> omega) | grind, by clear hQ9 h_k76; first | with_reducible assumption | (simp only [xl, xt, xe, xa, xb, xm, xg, ne_eq, Int32.reduceToInt] at * <;> omega) | grind⟩ ?_ ?_
    · intro s9 hs9; obtain ⟨v4_6, v3_7, rd_place_8, rd_refusal_9⟩ := s9; try dsimp only at hs9; obtain ⟨q_12, q_13, q_14, q_15⟩ := hs9; exact ⟨by clear hQ9 h_k76; (try dsimp only); first | with_reducible assumption | (simp only [xl, xt, xe, xa, xb, xm, xg, ne_eq, Int32.reduceToInt] at * <;> omega) | grind, by clear hQ9 h_k76; (try dsimp only); first | with_reducible assumption | (simp only [xl, xt, xe, xa, xb, xm, xg, ne_eq, Int32.reduceToInt] at * <;> omega) | grind⟩
    intro self37 s9 hs9 ih_self37
    obtain ⟨v4_6, v3_7, rd_place_8, rd_refusal_9⟩ := s9; try dsimp only at hs9; obtain ⟨q_12, q_13, q_14, q_15⟩ := hs9
    unfold f_CodeNames_readName_L37
    try dsimp only
    try dsimp only at ih_self37
    refine ok_if (fun q_16 => ?_) (fun q_16 => ?_)
    · skip
      exact h_k76 _ _ (by clear hQ9 h_k76 ih_self37; first | with_reducible assumption | (simp only [xl, xt, xe, xa, xb, xm, xg, ne_eq, Int32.reduceToInt] at * <;> omega) | grind) (by clear hQ9 h_k76 ih_self37; first | with_reducible assumption | (simp only [xl, xt, xe, xa, xb, xm, xg, ne_eq, Int32.reduceToInt] at * <;> omega) | grind) (by clear hQ9 h_k76 ih_self37; first | with_reducible assumption | (simp only [xl, xt, xe, xa, xb, xm, xg, ne_eq, Int32.reduceToInt] at * <;> omega) | grind)
    · skip
      refine ok_bd (s_BitReader_nextBit (by clear hQ9 h_k76 ih_self37; first | with_reducible assumption | (simp only [xl, xt, xe, xa, xb, xm, xg, ne_eq, Int32.reduceToInt] at * <;> omega) | grind) (by clear hQ9 h_k76 ih_self37; first | with_reducible assumption | (simp only [xl, xt, xe, xa, xb, xm, xg, ne_eq, Int32.reduceToInt] at * <;> omega) | grind) (by clear hQ9 h_k76 ih_self37; first | with_reducible assumption | (simp only [xl, xt, xe, xa, xb, xm, xg, ne_eq, Int32.reduceToInt] at * <;> omega) | grind)) (fun o9 h9 => ?_)
      obtain ⟨r_12, rd_place_13, rd_refusal_14⟩ := o9
      try dsimp only at h9
      try dsimp only
      obtain ⟨q_17, q_18, q_19, q_20⟩ := h9
      refine ok_nl (fun v3_15 e_v3_15 => ?_)
      refine ok_bd (s_CodeNames_symbolOf (by clear hQ9 h_k76 ih_self37; first | with_reducible assumption | (simp only [xl, xt, xe, xa, xb, xm, xg, ne_eq, Int32.reduceToInt] at * <;> omega) | grind) (by assumption)) (fun o9 h9 => ?_)
      obtain ⟨r_16, rfl⟩ : ∃ z9, z9 = o9 := ⟨_, rfl⟩
      have q_21 := h9
      clear h9
      refine ok_if (fun q_22 => ?_) (fun q_22 => ?_)
      · skip
        refine ok_nl (fun v4_17 e_v4_17 => ?_)
        exact ih_self37 (v4_17, v3_15, rd_place_13, rd_refusal_14) ⟨by clear hQ9 h_k76 ih_self37; first | with_reducible assumption | (simp only [xl, xt, xe, xa, xb, xm, xg, ne_eq, Int32.reduceToInt] at * <;> omega) | grind, by clear hQ9 h_k76 ih_self37; first | with_reducible assumption | (simp only [xl, xt, xe, xa, xb, xm, xg, ne_eq, Int32.reduceToInt] at * <;> omega) | grind, by clear hQ9 h_k76 ih_self37; first | with_reducible assumption | (simp only [xl, xt, xe, xa, xb, xm, xg, ne_eq, Int32.reduceToInt] at * <;> omega) | grind, by clear hQ9 h_k76 ih_self37; first | with_reducible assumption | (simp only [xl, xt, xe, xa, xb, xm, xg, ne_eq, Int32.reduceToInt] at * <;> omega) | grind⟩ (by clear hQ9 h_k76 ih_self37; (try dsimp only); first | with_reducible assumption | (simp only [xl, xt, xe, xa, xb, xm, xg, ne_eq, Int32.reduceToInt] at * <;> omega) | grind)
      · skip
        exact ok_some (hQ9 _ ⟨by clear hQ9 h_k76 ih_self37; first | with_reducible assumption | (simp only [xl, xt, xe, xa, xb, xm, xg, ne_eq, Int32.reduceToInt] at * <;> omega) | grind, by clear hQ9 h_k76 ih_self37; first | with_reducible assumption | (simp only [xl, xt, xe, xa, xb, xm, xg, ne_eq, Int32.reduceToInt] at * <;> omega) | grind, by clear hQ9 h_k76 ih_self37; first | with_reducible assumption | (simp only [xl, xt, xe, xa, xb, xm, xg, ne_eq, Int32.reduceToInt] at * <;> omega) | grind, by clear hQ9 h_k76 ih_self37; first | with_reducible assumption | (simp only [xl, xt, xe, xa, xb, xm, xg, ne_eq, Int32.reduceToInt] at * <;> omega) | grind⟩)
  refine ok_lp (fun s9 => ((0 : Int32) ≤ s9.1 ∧ s9.1 ≤ (16 : Int32)) ∧ ((0 : Int32) ≤ s9.2 ∧ s9.2 ≤ (15 : Int32))) (fun s9 => 16 - s9.1) ⟨by clear hQ9 h_k32; first | with_reducible assumption | (simp only [xl, xt, xe, xa, xb, xm, xg, ne_eq, Int32.reduceToInt] at * <;> omega) | grind, by clear hQ9 h_k32; first | with_reducible assumption | (simp only [xl, xt, xe, xa, xb, xm, xg, ne_eq, Int32.reduceToInt] at * <;> omega) | grind⟩ ?_ ?_
  · intro s9 hs9; obtain ⟨v3_1, v2_2⟩ := s9; try dsimp only at hs9; obtain ⟨q_23, q_24⟩ := hs9; exact ⟨by clear hQ9 h_k32; (try dsimp only); first | with_reducible assumption | (simp only [xl, xt, xe, xa, xb, xm, xg, ne_eq, Int32.reduceToInt] at * <;> omega) | grind, by clear hQ9 h_k32; (try dsimp only); first | with_reducible assumption | (simp only [xl, xt, xe, xa, xb, xm, xg, ne_eq, Int32.reduceToInt] at * <;> omega) | grind⟩
  intro self4 s9 hs9 ih_self4
  obtain ⟨v3_1, v2_2⟩ := s9; try dsimp only at hs9; obtain ⟨q_23, q_24⟩ := hs9
  unfold f_CodeNames_readName_L4
  try dsimp only
  try dsimp only at ih_self4
  refine ok_if (fun q_25 => ?_) (fun q_25 => ?_)
  · skip
    exact h_k32 _ (by clear hQ9 h_k32 ih_self4; first | with_reducible assumption | (simp only [xl, xt, xe, xa, xb, xm, xg, ne_eq, Int32.reduceToInt] at * <;> omega) | grind)
  · skip
    refine ok_gq (16 : Int32) (by decide) (by clear hQ9 h_k32 ih_self4; first | with_reducible assumption | (simp only [xl, xt, xe, xa, xb, xm, xg, ne_eq, Int32.reduceToInt] at * <;> omega) | grind) (by clear hQ9 h_k32 ih_self4; first | with_reducible assumption | (simp only [xl, xt, xe, xa, xb, xm, xg, ne_eq, Int32.reduceToInt] at * <;> omega) | grind) ?_
    have q_26 := (by assumption : R na_lengths (0 : Int32) (15 : Int32)) (v3_1).toNatClampNeg
    refine ok_nl (fun v2_4 e_v2_4 => ?_)
    refine ok_nl (fun v3_5 e_v3_5 => ?_)
    exact ih_self4 (v3_5, v2_4) ⟨by clear hQ9 h_k32 ih_self4; first | with_reducible assumption | (simp only [xl, xt, xe, xa, xb, xm, xg, ne_eq, Int32.reduceToInt] at * <;> omega) | grind, by clear hQ9 h_k32 ih_self4; first | with_reducible assumption | (simp only [xl, xt, xe, xa, xb, xm, xg, ne_eq, Int32.reduceToInt] at * <;> omega) | grind⟩ (by clear hQ9 h_k32 ih_self4; (try dsimp only); first | with_reducible assumption | (simp only [xl, xt, xe, xa, xb, xm, xg, ne_eq, Int32.reduceToInt] at * <;> omega) | grind)

set_option maxHeartbeats 4000000 in
set_option maxRecDepth 20000 in
theorem s_Long_bitCount {p0 : Int64} : ok (f_Long_bitCount p0) (fun o => True) := by
  refine ok_Q (fun Q9 hQ9 => ?_)
  unfold f_Long_bitCount
  refine ok_nl (fun v0_1 e_v0_1 => ?_)
  refine ok_nl (fun v0_2 e_v0_2 => ?_)
  refine ok_nl (fun v0_3 e_v0_3 => ?_)
  refine ok_nl (fun v0_4 e_v0_4 => ?_)
  refine ok_nl (fun v0_5 e_v0_5 => ?_)
  refine ok_nl (fun v0_6 e_v0_6 => ?_)
  exact ok_some (hQ9 _ trivial)

