abbrev IT (z : TS) : Prop := ((0 : Int32) ≤ z.tr_kind ∧ z.tr_kind ≤ (1 : Int32)) ∧ ((0 : Int32) ≤ z.di_count ∧ z.di_count ≤ (16 : Int32)) ∧ ((1 : Int32) ≤ z.pg_width ∧ z.pg_width ≤ (24 : Int32)) ∧ ((1 : Int32) ≤ z.pg_height ∧ z.pg_height ≤ (24 : Int32)) ∧ ((0 : Int32) ≤ z.tb_count ∧ z.tb_count ≤ (2000 : Int32)) ∧ ((0 : Int32) ≤ z.cb_count ∧ z.cb_count ≤ (2000 : Int32)) ∧ ((0 : Int32) ≤ z.la_count ∧ z.la_count ≤ (40 : Int32)) ∧ ((0 : Int32) ≤ z.sp_count ∧ z.sp_count ≤ (40 : Int32)) ∧ R z.di_widths (0 : Int32) (8 : Int32) ∧ R z.di_heights (0 : Int32) (8 : Int32) ∧ R z.pg_dark (0 : Int32) (1 : Int32) ∧ ((0 : Int32) ≤ z.wr_keeping ∧ z.wr_keeping ≤ (1 : Int32)) ∧ ((0 : Int32) ≤ z.wr_count ∧ z.wr_count ≤ (1000000 : Int32)) ∧ ((0 : Int32) ≤ z.rd_place ∧ z.rd_place ≤ (16000 : Int32)) ∧ ((0 : Int32) ≤ z.rd_refusal ∧ z.rd_refusal ≤ (9 : Int32)) ∧ R z.la_ways (0 : Int32) (7 : Int32) ∧ R z.la_symbolOf (0 : Int32) (15 : Int32) ∧ R z.la_xs (-8 : Int32) (31 : Int32) ∧ R z.la_ys (-8 : Int32) (31 : Int32) ∧ R z.la_sequence (0 : Int32) (39 : Int32) ∧ R z.sp_ways (0 : Int32) (7 : Int32) ∧ R z.sp_symbolOf (0 : Int32) (15 : Int32) ∧ R z.sp_xs (-8 : Int32) (31 : Int32) ∧ R z.sp_ys (-8 : Int32) (31 : Int32) ∧ R z.sp_sequence (0 : Int32) (39 : Int32) ∧ R z.na_lengths (0 : Int32) (15 : Int32) ∧ R z.na_joinedTo (-1 : Int32) (31 : Int32) ∧ R z.na_row (0 : Int32) (15 : Int32)
abbrev IM (y : MS) : Prop := ((1 : Int32) ≤ y.mo_width ∧ y.mo_width ≤ (24 : Int32)) ∧ ((1 : Int32) ≤ y.mo_height ∧ y.mo_height ≤ (24 : Int32)) ∧ ((0 : Int32) ≤ y.mo_kind ∧ y.mo_kind ≤ (1 : Int32)) ∧ ((0 : Int32) ≤ y.mo_symbols ∧ y.mo_symbols ≤ (16 : Int32)) ∧ ((0 : Int32) ≤ y.mo_instances ∧ y.mo_instances ≤ (40 : Int32)) ∧ ((0 : Int32) ≤ y.mo_told ∧ y.mo_told ≤ (16000 : Int32)) ∧ ((0 : Int32) ≤ y.mo_keeps ∧ y.mo_keeps ≤ (1 : Int32)) ∧ ((0 : Int32) ≤ y.mo_toldBytes ∧ y.mo_toldBytes ≤ (2000 : Int32)) ∧ ((0 : Int32) ≤ y.mo_came ∧ y.mo_came ≤ (2000 : Int32)) ∧ ((0 : Int32) ≤ y.mo_at ∧ y.mo_at ≤ (16000 : Int32)) ∧ ((0 : Int32) ≤ y.mo_refused ∧ y.mo_refused ≤ (9 : Int32)) ∧ ((0 : Int32) ≤ y.mo_readMany ∧ y.mo_readMany ≤ (40 : Int32)) ∧ R y.mo_wide (0 : Int32) (8 : Int32) ∧ R y.mo_high (0 : Int32) (8 : Int32) ∧ R y.mo_symbolOf (0 : Int32) (15 : Int32) ∧ R y.mo_xs (-8 : Int32) (31 : Int32) ∧ R y.mo_ys (-8 : Int32) (31 : Int32) ∧ R y.mo_ways (0 : Int32) (7 : Int32) ∧ R y.mo_ordered (0 : Int32) (39 : Int32) ∧ R y.mo_page (0 : Int32) (1 : Int32) ∧ R y.mo_lengths (0 : Int32) (15 : Int32) ∧ R y.mo_used (0 : Int32) (1 : Int32) ∧ R y.mo_row (0 : Int32) (15 : Int32) ∧ R y.mo_readSymbol (0 : Int32) (15 : Int32) ∧ R y.mo_readX (-8 : Int32) (31 : Int32) ∧ R y.mo_readY (-8 : Int32) (31 : Int32) ∧ R y.mo_readWays (0 : Int32) (7 : Int32)
theorem swap_IT {z : TS} (h : IT z) : IT z.swap := by
  obtain ⟨i_tr_kind, i_di_count, i_pg_width, i_pg_height, i_tb_count, i_cb_count, i_la_count, i_sp_count, i_di_widths, i_di_heights, i_pg_dark, i_wr_keeping, i_wr_count, i_rd_place, i_rd_refusal, i_la_ways, i_la_symbolOf, i_la_xs, i_la_ys, i_la_sequence, i_sp_ways, i_sp_symbolOf, i_sp_xs, i_sp_ys, i_sp_sequence, i_na_lengths, i_na_joinedTo, i_na_row⟩ := h
  exact ⟨i_tr_kind, i_di_count, i_pg_width, i_pg_height, i_tb_count, i_cb_count, i_sp_count, i_la_count, i_di_widths, i_di_heights, i_pg_dark, i_wr_keeping, i_wr_count, i_rd_place, i_rd_refusal, i_sp_ways, i_sp_symbolOf, i_sp_xs, i_sp_ys, i_sp_sequence, i_la_ways, i_la_symbolOf, i_la_xs, i_la_ys, i_la_sequence, i_na_lengths, i_na_joinedTo, i_na_row⟩
theorem mul24 {a b : Int32} (ha : 1 ≤ a ∧ a ≤ 24) (hb : 1 ≤ b ∧ b ≤ 24) : 0 ≤ a * b ∧ a * b ≤ 576 := by
  have a0 := Int32.le_iff_toInt_le.mp ha.1
  have a1 := Int32.le_iff_toInt_le.mp ha.2
  have b0 := Int32.le_iff_toInt_le.mp hb.1
  have b1 := Int32.le_iff_toInt_le.mp hb.2
  have z : (1 : Int32).toInt = 1 := rfl
  have z0 : (0 : Int32).toInt = 0 := rfl
  have z8 : (24 : Int32).toInt = 24 := rfl
  have z64 : (576 : Int32).toInt = 576 := rfl
  rw [z] at a0 b0
  rw [z8] at a1 b1
  have m0 := Int.mul_nonneg (Int.le_trans (by decide) a0) (Int.le_trans (by decide) b0)
  have m1 : a.toInt * b.toInt ≤ 24 * 24 := Int.mul_le_mul a1 b1 (by omega) (by decide)
  have m := i_mul (a := a) (b := b) rfl rfl (by omega) (by omega)
  exact ⟨Int32.le_iff_toInt_le.mpr (by rw [z0, m]; exact m0), Int32.le_iff_toInt_le.mpr (by rw [z64, m]; exact m1)⟩
set_option maxRecDepth 20000 in
theorem gT_symbol (z : TS) (p1 : Int32) (p2 : Int32) (h : IT z) : ∃ (k : Int32) (z1 : TS), T_symbol z p1 p2 = some (k, z1) ∧ IT z1 := by
  obtain ⟨i_tr_kind, i_di_count, i_pg_width, i_pg_height, i_tb_count, i_cb_count, i_la_count, i_sp_count, i_di_widths, i_di_heights, i_pg_dark, i_wr_keeping, i_wr_count, i_rd_place, i_rd_refusal, i_la_ways, i_la_symbolOf, i_la_xs, i_la_ys, i_la_sequence, i_sp_ways, i_sp_symbolOf, i_sp_xs, i_sp_ys, i_sp_sequence, i_na_lengths, i_na_joinedTo, i_na_row⟩ := h
  obtain ⟨o9, e9, h9⟩ := s_Law_symbol (out := z.out) (di_count := z.di_count) (di_widths := z.di_widths) (di_heights := z.di_heights) (di_samples := z.di_samples) (p1 := p1) (p2 := p2) (by assumption) (by assumption) (by assumption)
  obtain ⟨r9, n_out, n_di_count, n_di_widths, n_di_heights, n_di_samples⟩ := o9
  try dsimp only at h9
  obtain ⟨p0, p1, p2⟩ := h9
  refine ⟨r9, ((z.tr_kind, z.tr_refusedAt, n_di_count, z.pg_width, z.pg_height, z.tb_count, z.cb_count, z.la_count, z.sp_count, n_di_widths, n_di_heights, n_di_samples, z.pg_dark, z.tb_bytes, z.cb_bytes, z.wr_keeping, z.wr_count, z.rd_place, z.rd_refusal, z.la_ways, z.la_symbolOf, z.la_xs, z.la_ys, z.la_differs, z.la_sequence, z.sp_ways, z.sp_symbolOf, z.sp_xs, z.sp_ys, z.sp_differs, z.sp_sequence, z.na_lengths, z.na_codes, z.na_weights, z.na_joinedTo, n_out, z.na_row) : TS), ?_, ?_⟩
  · unfold T_symbol; rw [e9]; rfl
  · exact ⟨i_tr_kind, p0, i_pg_width, i_pg_height, i_tb_count, i_cb_count, i_la_count, i_sp_count, p1, p2, i_pg_dark, i_wr_keeping, i_wr_count, i_rd_place, i_rd_refusal, i_la_ways, i_la_symbolOf, i_la_xs, i_la_ys, i_la_sequence, i_sp_ways, i_sp_symbolOf, i_sp_xs, i_sp_ys, i_sp_sequence, i_na_lengths, i_na_joinedTo, i_na_row⟩
set_option maxRecDepth 20000 in
theorem gM_symbol (y : MS) (p0 : Int32) (p1 : Int32) (h : IM y) : ∃ (k : Int32) (y1 : MS), M_symbol y p0 p1 = some (k, y1) ∧ IM y1 := by
  obtain ⟨i_mo_width, i_mo_height, i_mo_kind, i_mo_symbols, i_mo_instances, i_mo_told, i_mo_keeps, i_mo_toldBytes, i_mo_came, i_mo_at, i_mo_refused, i_mo_readMany, i_mo_wide, i_mo_high, i_mo_symbolOf, i_mo_xs, i_mo_ys, i_mo_ways, i_mo_ordered, i_mo_page, i_mo_lengths, i_mo_used, i_mo_row, i_mo_readSymbol, i_mo_readX, i_mo_readY, i_mo_readWays⟩ := h
  obtain ⟨o9, e9, h9⟩ := s_Mo_symbol (mo_symbols := y.mo_symbols) (mo_wide := y.mo_wide) (mo_high := y.mo_high) (mo_dark := y.mo_dark) (p0 := p0) (p1 := p1) (by assumption) (by assumption) (by assumption)
  obtain ⟨r9, n_mo_thrown, n_mo_symbols, n_mo_wide, n_mo_high, n_mo_dark⟩ := o9
  try dsimp only at h9
  obtain ⟨p0, p1, p2⟩ := h9
  refine ⟨r9, ((n_mo_thrown, y.mo_width, y.mo_height, y.mo_kind, n_mo_symbols, y.mo_instances, y.mo_told, y.mo_keeps, y.mo_toldBytes, y.mo_came, y.mo_at, y.mo_refused, y.mo_place, y.mo_readMany, n_mo_wide, n_mo_high, n_mo_dark, y.mo_symbolOf, y.mo_xs, y.mo_ys, y.mo_differs, y.mo_ways, y.mo_ordered, y.mo_page, y.mo_out, y.mo_counts, y.mo_lengths, y.mo_codes, y.mo_weight, y.mo_over, y.mo_used, y.mo_row, y.mo_in, y.mo_readSymbol, y.mo_readX, y.mo_readY, y.mo_readDiffers, y.mo_readWays) : MS), ?_, ?_⟩
  · unfold M_symbol; rw [e9]; rfl
  · exact ⟨i_mo_width, i_mo_height, i_mo_kind, p0, i_mo_instances, i_mo_told, i_mo_keeps, i_mo_toldBytes, i_mo_came, i_mo_at, i_mo_refused, i_mo_readMany, p1, p2, i_mo_symbolOf, i_mo_xs, i_mo_ys, i_mo_ways, i_mo_ordered, i_mo_page, i_mo_lengths, i_mo_used, i_mo_row, i_mo_readSymbol, i_mo_readX, i_mo_readY, i_mo_readWays⟩
theorem gM_thrown (y : MS) (h : IM y) : ∃ k : Int32, M_thrown y  = some k := by
  obtain ⟨i_mo_width, i_mo_height, i_mo_kind, i_mo_symbols, i_mo_instances, i_mo_told, i_mo_keeps, i_mo_toldBytes, i_mo_came, i_mo_at, i_mo_refused, i_mo_readMany, i_mo_wide, i_mo_high, i_mo_symbolOf, i_mo_xs, i_mo_ys, i_mo_ways, i_mo_ordered, i_mo_page, i_mo_lengths, i_mo_used, i_mo_row, i_mo_readSymbol, i_mo_readX, i_mo_readY, i_mo_readWays⟩ := h
  obtain ⟨o9, e9, h9⟩ := s_Mo_thrown (mo_thrown := y.mo_thrown)
  exact ⟨o9, e9⟩
set_option maxRecDepth 20000 in
theorem gT_put (z : TS) (p1 : Int32) (p2 : Int32) (p3 : Int32) (p4 : Int32) (h : IT z) : ∃ (k : Int32) (z1 : TS), T_put z p1 p2 p3 p4 = some (k, z1) ∧ IT z1 ∧ z1.di_count = z.di_count := by
  obtain ⟨i_tr_kind, i_di_count, i_pg_width, i_pg_height, i_tb_count, i_cb_count, i_la_count, i_sp_count, i_di_widths, i_di_heights, i_pg_dark, i_wr_keeping, i_wr_count, i_rd_place, i_rd_refusal, i_la_ways, i_la_symbolOf, i_la_xs, i_la_ys, i_la_sequence, i_sp_ways, i_sp_symbolOf, i_sp_xs, i_sp_ys, i_sp_sequence, i_na_lengths, i_na_joinedTo, i_na_row⟩ := h
  obtain ⟨o9, e9, h9⟩ := s_Law_put (out := z.out) (di_count := z.di_count) (di_widths := z.di_widths) (di_heights := z.di_heights) (di_samples := z.di_samples) (p1 := p1) (p2 := p2) (p3 := p3) (p4 := p4) (by assumption) (by assumption) (by assumption)
  obtain ⟨r9, n_out, n_di_samples⟩ := o9
  try dsimp only at h9
  refine ⟨r9, ((z.tr_kind, z.tr_refusedAt, z.di_count, z.pg_width, z.pg_height, z.tb_count, z.cb_count, z.la_count, z.sp_count, z.di_widths, z.di_heights, n_di_samples, z.pg_dark, z.tb_bytes, z.cb_bytes, z.wr_keeping, z.wr_count, z.rd_place, z.rd_refusal, z.la_ways, z.la_symbolOf, z.la_xs, z.la_ys, z.la_differs, z.la_sequence, z.sp_ways, z.sp_symbolOf, z.sp_xs, z.sp_ys, z.sp_differs, z.sp_sequence, z.na_lengths, z.na_codes, z.na_weights, z.na_joinedTo, n_out, z.na_row) : TS), ?_, ?_, rfl⟩
  · unfold T_put; rw [e9]; rfl
  · exact ⟨i_tr_kind, i_di_count, i_pg_width, i_pg_height, i_tb_count, i_cb_count, i_la_count, i_sp_count, i_di_widths, i_di_heights, i_pg_dark, i_wr_keeping, i_wr_count, i_rd_place, i_rd_refusal, i_la_ways, i_la_symbolOf, i_la_xs, i_la_ys, i_la_sequence, i_sp_ways, i_sp_symbolOf, i_sp_xs, i_sp_ys, i_sp_sequence, i_na_lengths, i_na_joinedTo, i_na_row⟩
set_option maxRecDepth 20000 in
theorem gM_put (y : MS) (p0 : Int32) (p1 : Int32) (p2 : Int32) (p3 : Int32) (h : IM y) : ∃ (k : Int32) (y1 : MS), M_put y p0 p1 p2 p3 = some (k, y1) ∧ IM y1 ∧ y1.mo_symbols = y.mo_symbols := by
  obtain ⟨i_mo_width, i_mo_height, i_mo_kind, i_mo_symbols, i_mo_instances, i_mo_told, i_mo_keeps, i_mo_toldBytes, i_mo_came, i_mo_at, i_mo_refused, i_mo_readMany, i_mo_wide, i_mo_high, i_mo_symbolOf, i_mo_xs, i_mo_ys, i_mo_ways, i_mo_ordered, i_mo_page, i_mo_lengths, i_mo_used, i_mo_row, i_mo_readSymbol, i_mo_readX, i_mo_readY, i_mo_readWays⟩ := h
  obtain ⟨o9, e9, h9⟩ := s_Mo_put (mo_symbols := y.mo_symbols) (mo_dark := y.mo_dark) (mo_wide := y.mo_wide) (mo_high := y.mo_high) (p0 := p0) (p1 := p1) (p2 := p2) (p3 := p3) (by assumption) (by assumption) (by assumption)
  obtain ⟨r9, n_mo_thrown, n_mo_dark⟩ := o9
  try dsimp only at h9
  have p0 := h9
  refine ⟨r9, ((n_mo_thrown, y.mo_width, y.mo_height, y.mo_kind, y.mo_symbols, y.mo_instances, y.mo_told, y.mo_keeps, y.mo_toldBytes, y.mo_came, y.mo_at, y.mo_refused, y.mo_place, y.mo_readMany, y.mo_wide, y.mo_high, n_mo_dark, y.mo_symbolOf, y.mo_xs, y.mo_ys, y.mo_differs, y.mo_ways, y.mo_ordered, y.mo_page, y.mo_out, y.mo_counts, y.mo_lengths, y.mo_codes, y.mo_weight, y.mo_over, y.mo_used, y.mo_row, y.mo_in, y.mo_readSymbol, y.mo_readX, y.mo_readY, y.mo_readDiffers, y.mo_readWays) : MS), ?_, ?_, rfl⟩
  · unfold M_put; rw [e9]; rfl
  · exact ⟨i_mo_width, i_mo_height, i_mo_kind, i_mo_symbols, i_mo_instances, i_mo_told, i_mo_keeps, i_mo_toldBytes, i_mo_came, i_mo_at, i_mo_refused, i_mo_readMany, i_mo_wide, i_mo_high, i_mo_symbolOf, i_mo_xs, i_mo_ys, i_mo_ways, i_mo_ordered, i_mo_page, i_mo_lengths, i_mo_used, i_mo_row, i_mo_readSymbol, i_mo_readX, i_mo_readY, i_mo_readWays⟩
set_option maxRecDepth 20000 in
theorem gT_instance (z : TS) (p1 : Int32) (p2 : Int32) (p3 : Int32) (h : IT z) : ∃ (k : Int32) (z1 : TS), T_instance z p1 p2 p3 = some (k, z1) ∧ IT z1 ∧ z1.di_count = z.di_count := by
  obtain ⟨i_tr_kind, i_di_count, i_pg_width, i_pg_height, i_tb_count, i_cb_count, i_la_count, i_sp_count, i_di_widths, i_di_heights, i_pg_dark, i_wr_keeping, i_wr_count, i_rd_place, i_rd_refusal, i_la_ways, i_la_symbolOf, i_la_xs, i_la_ys, i_la_sequence, i_sp_ways, i_sp_symbolOf, i_sp_xs, i_sp_ys, i_sp_sequence, i_na_lengths, i_na_joinedTo, i_na_row⟩ := h
  obtain ⟨o9, e9, h9⟩ := s_Law_instance (out := z.out) (di_count := z.di_count) (la_count := z.la_count) (la_symbolOf := z.la_symbolOf) (la_xs := z.la_xs) (la_ys := z.la_ys) (la_differs := z.la_differs) (p1 := p1) (p2 := p2) (p3 := p3) (by assumption) (by assumption) (by assumption) (by assumption) (by assumption)
  obtain ⟨r9, n_out, n_la_count, n_la_symbolOf, n_la_xs, n_la_ys, n_la_differs⟩ := o9
  try dsimp only at h9
  obtain ⟨p0, p1, p2, p3⟩ := h9
  refine ⟨r9, ((z.tr_kind, z.tr_refusedAt, z.di_count, z.pg_width, z.pg_height, z.tb_count, z.cb_count, n_la_count, z.sp_count, z.di_widths, z.di_heights, z.di_samples, z.pg_dark, z.tb_bytes, z.cb_bytes, z.wr_keeping, z.wr_count, z.rd_place, z.rd_refusal, z.la_ways, n_la_symbolOf, n_la_xs, n_la_ys, n_la_differs, z.la_sequence, z.sp_ways, z.sp_symbolOf, z.sp_xs, z.sp_ys, z.sp_differs, z.sp_sequence, z.na_lengths, z.na_codes, z.na_weights, z.na_joinedTo, n_out, z.na_row) : TS), ?_, ?_, rfl⟩
  · unfold T_instance; rw [e9]; rfl
  · exact ⟨i_tr_kind, i_di_count, i_pg_width, i_pg_height, i_tb_count, i_cb_count, p0, i_sp_count, i_di_widths, i_di_heights, i_pg_dark, i_wr_keeping, i_wr_count, i_rd_place, i_rd_refusal, i_la_ways, p1, p2, p3, i_la_sequence, i_sp_ways, i_sp_symbolOf, i_sp_xs, i_sp_ys, i_sp_sequence, i_na_lengths, i_na_joinedTo, i_na_row⟩
set_option maxRecDepth 20000 in
theorem gM_instance (y : MS) (p0 : Int32) (p1 : Int32) (p2 : Int32) (h : IM y) : ∃ (k : Int32) (y1 : MS), M_instance y p0 p1 p2 = some (k, y1) ∧ IM y1 ∧ y1.mo_symbols = y.mo_symbols := by
  obtain ⟨i_mo_width, i_mo_height, i_mo_kind, i_mo_symbols, i_mo_instances, i_mo_told, i_mo_keeps, i_mo_toldBytes, i_mo_came, i_mo_at, i_mo_refused, i_mo_readMany, i_mo_wide, i_mo_high, i_mo_symbolOf, i_mo_xs, i_mo_ys, i_mo_ways, i_mo_ordered, i_mo_page, i_mo_lengths, i_mo_used, i_mo_row, i_mo_readSymbol, i_mo_readX, i_mo_readY, i_mo_readWays⟩ := h
  obtain ⟨o9, e9, h9⟩ := s_Mo_instance (mo_symbols := y.mo_symbols) (mo_instances := y.mo_instances) (mo_symbolOf := y.mo_symbolOf) (mo_xs := y.mo_xs) (mo_ys := y.mo_ys) (mo_differs := y.mo_differs) (p0 := p0) (p1 := p1) (p2 := p2) (by assumption) (by assumption) (by assumption) (by assumption) (by assumption)
  obtain ⟨r9, n_mo_thrown, n_mo_instances, n_mo_symbolOf, n_mo_xs, n_mo_ys, n_mo_differs⟩ := o9
  try dsimp only at h9
  obtain ⟨p0, p1, p2, p3⟩ := h9
  refine ⟨r9, ((n_mo_thrown, y.mo_width, y.mo_height, y.mo_kind, y.mo_symbols, n_mo_instances, y.mo_told, y.mo_keeps, y.mo_toldBytes, y.mo_came, y.mo_at, y.mo_refused, y.mo_place, y.mo_readMany, y.mo_wide, y.mo_high, y.mo_dark, n_mo_symbolOf, n_mo_xs, n_mo_ys, n_mo_differs, y.mo_ways, y.mo_ordered, y.mo_page, y.mo_out, y.mo_counts, y.mo_lengths, y.mo_codes, y.mo_weight, y.mo_over, y.mo_used, y.mo_row, y.mo_in, y.mo_readSymbol, y.mo_readX, y.mo_readY, y.mo_readDiffers, y.mo_readWays) : MS), ?_, ?_, rfl⟩
  · unfold M_instance; rw [e9]; rfl
  · exact ⟨i_mo_width, i_mo_height, i_mo_kind, i_mo_symbols, p0, i_mo_told, i_mo_keeps, i_mo_toldBytes, i_mo_came, i_mo_at, i_mo_refused, i_mo_readMany, i_mo_wide, i_mo_high, p1, p2, p3, i_mo_ways, i_mo_ordered, i_mo_page, i_mo_lengths, i_mo_used, i_mo_row, i_mo_readSymbol, i_mo_readX, i_mo_readY, i_mo_readWays⟩
set_option maxRecDepth 20000 in
theorem gT_refine (z : TS) (p1 : Int32) (p2 : Int32) (p3 : Int32) (p4 : Int32) (h : IT z) : ∃ (k : Int32) (z1 : TS), T_refine z p1 p2 p3 p4 = some (k, z1) ∧ IT z1 ∧ z1.di_count = z.di_count := by
  obtain ⟨i_tr_kind, i_di_count, i_pg_width, i_pg_height, i_tb_count, i_cb_count, i_la_count, i_sp_count, i_di_widths, i_di_heights, i_pg_dark, i_wr_keeping, i_wr_count, i_rd_place, i_rd_refusal, i_la_ways, i_la_symbolOf, i_la_xs, i_la_ys, i_la_sequence, i_sp_ways, i_sp_symbolOf, i_sp_xs, i_sp_ys, i_sp_sequence, i_na_lengths, i_na_joinedTo, i_na_row⟩ := h
  obtain ⟨o9, e9, h9⟩ := s_Law_refine (out := z.out) (la_count := z.la_count) (la_symbolOf := z.la_symbolOf) (di_widths := z.di_widths) (di_heights := z.di_heights) (la_differs := z.la_differs) (p1 := p1) (p2 := p2) (p3 := p3) (p4 := p4) (by assumption) (by assumption) (by assumption) (by assumption)
  obtain ⟨r9, n_out, n_la_differs⟩ := o9
  try dsimp only at h9
  refine ⟨r9, ((z.tr_kind, z.tr_refusedAt, z.di_count, z.pg_width, z.pg_height, z.tb_count, z.cb_count, z.la_count, z.sp_count, z.di_widths, z.di_heights, z.di_samples, z.pg_dark, z.tb_bytes, z.cb_bytes, z.wr_keeping, z.wr_count, z.rd_place, z.rd_refusal, z.la_ways, z.la_symbolOf, z.la_xs, z.la_ys, n_la_differs, z.la_sequence, z.sp_ways, z.sp_symbolOf, z.sp_xs, z.sp_ys, z.sp_differs, z.sp_sequence, z.na_lengths, z.na_codes, z.na_weights, z.na_joinedTo, n_out, z.na_row) : TS), ?_, ?_, rfl⟩
  · unfold T_refine; rw [e9]; rfl
  · exact ⟨i_tr_kind, i_di_count, i_pg_width, i_pg_height, i_tb_count, i_cb_count, i_la_count, i_sp_count, i_di_widths, i_di_heights, i_pg_dark, i_wr_keeping, i_wr_count, i_rd_place, i_rd_refusal, i_la_ways, i_la_symbolOf, i_la_xs, i_la_ys, i_la_sequence, i_sp_ways, i_sp_symbolOf, i_sp_xs, i_sp_ys, i_sp_sequence, i_na_lengths, i_na_joinedTo, i_na_row⟩
set_option maxRecDepth 20000 in
theorem gM_refine (y : MS) (p0 : Int32) (p1 : Int32) (p2 : Int32) (p3 : Int32) (h : IM y) : ∃ (k : Int32) (y1 : MS), M_refine y p0 p1 p2 p3 = some (k, y1) ∧ IM y1 ∧ y1.mo_symbols = y.mo_symbols := by
  obtain ⟨i_mo_width, i_mo_height, i_mo_kind, i_mo_symbols, i_mo_instances, i_mo_told, i_mo_keeps, i_mo_toldBytes, i_mo_came, i_mo_at, i_mo_refused, i_mo_readMany, i_mo_wide, i_mo_high, i_mo_symbolOf, i_mo_xs, i_mo_ys, i_mo_ways, i_mo_ordered, i_mo_page, i_mo_lengths, i_mo_used, i_mo_row, i_mo_readSymbol, i_mo_readX, i_mo_readY, i_mo_readWays⟩ := h
  obtain ⟨o9, e9, h9⟩ := s_Mo_refine (mo_instances := y.mo_instances) (mo_differs := y.mo_differs) (mo_symbolOf := y.mo_symbolOf) (mo_wide := y.mo_wide) (mo_high := y.mo_high) (p0 := p0) (p1 := p1) (p2 := p2) (p3 := p3) (by assumption) (by assumption) (by assumption) (by assumption)
  obtain ⟨r9, n_mo_thrown, n_mo_differs⟩ := o9
  try dsimp only at h9
  have p0 := h9
  refine ⟨r9, ((n_mo_thrown, y.mo_width, y.mo_height, y.mo_kind, y.mo_symbols, y.mo_instances, y.mo_told, y.mo_keeps, y.mo_toldBytes, y.mo_came, y.mo_at, y.mo_refused, y.mo_place, y.mo_readMany, y.mo_wide, y.mo_high, y.mo_dark, y.mo_symbolOf, y.mo_xs, y.mo_ys, n_mo_differs, y.mo_ways, y.mo_ordered, y.mo_page, y.mo_out, y.mo_counts, y.mo_lengths, y.mo_codes, y.mo_weight, y.mo_over, y.mo_used, y.mo_row, y.mo_in, y.mo_readSymbol, y.mo_readX, y.mo_readY, y.mo_readDiffers, y.mo_readWays) : MS), ?_, ?_, rfl⟩
  · unfold M_refine; rw [e9]; rfl
  · exact ⟨i_mo_width, i_mo_height, i_mo_kind, i_mo_symbols, i_mo_instances, i_mo_told, i_mo_keeps, i_mo_toldBytes, i_mo_came, i_mo_at, i_mo_refused, i_mo_readMany, i_mo_wide, i_mo_high, i_mo_symbolOf, i_mo_xs, i_mo_ys, i_mo_ways, i_mo_ordered, i_mo_page, i_mo_lengths, i_mo_used, i_mo_row, i_mo_readSymbol, i_mo_readX, i_mo_readY, i_mo_readWays⟩
set_option maxRecDepth 20000 in
theorem gT_way (z : TS) (p1 : Int32) (p2 : Int32) (h : IT z) : ∃ (k : Int32) (z1 : TS), T_way z p1 p2 = some (k, z1) ∧ IT z1 ∧ z1.di_count = z.di_count := by
  obtain ⟨i_tr_kind, i_di_count, i_pg_width, i_pg_height, i_tb_count, i_cb_count, i_la_count, i_sp_count, i_di_widths, i_di_heights, i_pg_dark, i_wr_keeping, i_wr_count, i_rd_place, i_rd_refusal, i_la_ways, i_la_symbolOf, i_la_xs, i_la_ys, i_la_sequence, i_sp_ways, i_sp_symbolOf, i_sp_xs, i_sp_ys, i_sp_sequence, i_na_lengths, i_na_joinedTo, i_na_row⟩ := h
  obtain ⟨o9, e9, h9⟩ := s_Law_way (out := z.out) (la_ways := z.la_ways) (p1 := p1) (p2 := p2) (by assumption)
  obtain ⟨r9, n_out, n_la_ways⟩ := o9
  try dsimp only at h9
  have p0 := h9
  refine ⟨r9, ((z.tr_kind, z.tr_refusedAt, z.di_count, z.pg_width, z.pg_height, z.tb_count, z.cb_count, z.la_count, z.sp_count, z.di_widths, z.di_heights, z.di_samples, z.pg_dark, z.tb_bytes, z.cb_bytes, z.wr_keeping, z.wr_count, z.rd_place, z.rd_refusal, n_la_ways, z.la_symbolOf, z.la_xs, z.la_ys, z.la_differs, z.la_sequence, z.sp_ways, z.sp_symbolOf, z.sp_xs, z.sp_ys, z.sp_differs, z.sp_sequence, z.na_lengths, z.na_codes, z.na_weights, z.na_joinedTo, n_out, z.na_row) : TS), ?_, ?_, rfl⟩
  · unfold T_way; rw [e9]; rfl
  · exact ⟨i_tr_kind, i_di_count, i_pg_width, i_pg_height, i_tb_count, i_cb_count, i_la_count, i_sp_count, i_di_widths, i_di_heights, i_pg_dark, i_wr_keeping, i_wr_count, i_rd_place, i_rd_refusal, p0, i_la_symbolOf, i_la_xs, i_la_ys, i_la_sequence, i_sp_ways, i_sp_symbolOf, i_sp_xs, i_sp_ys, i_sp_sequence, i_na_lengths, i_na_joinedTo, i_na_row⟩
set_option maxRecDepth 20000 in
theorem gM_way (y : MS) (p0 : Int32) (p1 : Int32) (h : IM y) : ∃ (k : Int32) (y1 : MS), M_way y p0 p1 = some (k, y1) ∧ IM y1 ∧ y1.mo_symbols = y.mo_symbols := by
  obtain ⟨i_mo_width, i_mo_height, i_mo_kind, i_mo_symbols, i_mo_instances, i_mo_told, i_mo_keeps, i_mo_toldBytes, i_mo_came, i_mo_at, i_mo_refused, i_mo_readMany, i_mo_wide, i_mo_high, i_mo_symbolOf, i_mo_xs, i_mo_ys, i_mo_ways, i_mo_ordered, i_mo_page, i_mo_lengths, i_mo_used, i_mo_row, i_mo_readSymbol, i_mo_readX, i_mo_readY, i_mo_readWays⟩ := h
  obtain ⟨o9, e9, h9⟩ := s_Mo_way (mo_ways := y.mo_ways) (p0 := p0) (p1 := p1) (by assumption)
  obtain ⟨r9, n_mo_thrown, n_mo_ways⟩ := o9
  try dsimp only at h9
  have p0 := h9
  refine ⟨r9, ((n_mo_thrown, y.mo_width, y.mo_height, y.mo_kind, y.mo_symbols, y.mo_instances, y.mo_told, y.mo_keeps, y.mo_toldBytes, y.mo_came, y.mo_at, y.mo_refused, y.mo_place, y.mo_readMany, y.mo_wide, y.mo_high, y.mo_dark, y.mo_symbolOf, y.mo_xs, y.mo_ys, y.mo_differs, n_mo_ways, y.mo_ordered, y.mo_page, y.mo_out, y.mo_counts, y.mo_lengths, y.mo_codes, y.mo_weight, y.mo_over, y.mo_used, y.mo_row, y.mo_in, y.mo_readSymbol, y.mo_readX, y.mo_readY, y.mo_readDiffers, y.mo_readWays) : MS), ?_, ?_, rfl⟩
  · unfold M_way; rw [e9]; rfl
  · exact ⟨i_mo_width, i_mo_height, i_mo_kind, i_mo_symbols, i_mo_instances, i_mo_told, i_mo_keeps, i_mo_toldBytes, i_mo_came, i_mo_at, i_mo_refused, i_mo_readMany, i_mo_wide, i_mo_high, i_mo_symbolOf, i_mo_xs, i_mo_ys, p0, i_mo_ordered, i_mo_page, i_mo_lengths, i_mo_used, i_mo_row, i_mo_readSymbol, i_mo_readX, i_mo_readY, i_mo_readWays⟩
set_option maxRecDepth 20000 in
theorem gT_order_C (z : TS) (p1 : Int32) (h : IT z) : ∃ (k : Int32) (z1 : TS), T_order_C z p1 = some (k, z1) ∧ IT z1 ∧ z1.di_count = z.di_count := by
  obtain ⟨i_tr_kind, i_di_count, i_pg_width, i_pg_height, i_tb_count, i_cb_count, i_la_count, i_sp_count, i_di_widths, i_di_heights, i_pg_dark, i_wr_keeping, i_wr_count, i_rd_place, i_rd_refusal, i_la_ways, i_la_symbolOf, i_la_xs, i_la_ys, i_la_sequence, i_sp_ways, i_sp_symbolOf, i_sp_xs, i_sp_ys, i_sp_sequence, i_na_lengths, i_na_joinedTo, i_na_row⟩ := h
  obtain ⟨o9, e9, h9⟩ := s_Law_order_C (out := z.out) (la_count := z.la_count) (la_ways := z.la_ways) (la_ys := z.la_ys) (la_symbolOf := z.la_symbolOf) (di_count := z.di_count) (di_heights := z.di_heights) (la_xs := z.la_xs) (di_widths := z.di_widths) (la_sequence := z.la_sequence) (na_weights := z.na_weights) (na_joinedTo := z.na_joinedTo) (na_lengths := z.na_lengths) (na_codes := z.na_codes) (wr_keeping := z.wr_keeping) (wr_count := z.wr_count) (tb_count := z.tb_count) (tb_bytes := z.tb_bytes) (la_differs := z.la_differs) (p1 := p1) (by assumption) (by assumption) (by assumption) (by assumption) (by assumption) (by assumption) (by assumption) (by assumption) (by assumption) (by assumption) (by assumption) (by assumption) (by assumption) (by assumption)
  obtain ⟨r9, n_out, n_la_ys, n_la_symbolOf, n_la_xs, n_la_sequence, n_na_weights, n_na_joinedTo, n_na_lengths, n_na_codes, n_wr_keeping, n_wr_count, n_tb_count, n_tb_bytes, n_la_differs⟩ := o9
  try dsimp only at h9
  obtain ⟨p0, p1, p2, p3, p4, p5, p6, p7, p8⟩ := h9
  refine ⟨r9, ((z.tr_kind, z.tr_refusedAt, z.di_count, z.pg_width, z.pg_height, n_tb_count, z.cb_count, z.la_count, z.sp_count, z.di_widths, z.di_heights, z.di_samples, z.pg_dark, n_tb_bytes, z.cb_bytes, n_wr_keeping, n_wr_count, z.rd_place, z.rd_refusal, z.la_ways, n_la_symbolOf, n_la_xs, n_la_ys, n_la_differs, n_la_sequence, z.sp_ways, z.sp_symbolOf, z.sp_xs, z.sp_ys, z.sp_differs, z.sp_sequence, n_na_lengths, n_na_codes, n_na_weights, n_na_joinedTo, n_out, z.na_row) : TS), ?_, ?_, rfl⟩
  · unfold T_order_C; rw [e9]; rfl
  · exact ⟨i_tr_kind, i_di_count, i_pg_width, i_pg_height, p8, i_cb_count, i_la_count, i_sp_count, i_di_widths, i_di_heights, i_pg_dark, p6, p7, i_rd_place, i_rd_refusal, i_la_ways, p1, p2, p0, p3, i_sp_ways, i_sp_symbolOf, i_sp_xs, i_sp_ys, i_sp_sequence, p5, p4, i_na_row⟩
set_option maxRecDepth 20000 in
theorem gT_order_F (z : TS) (p1 : Int32) (h : IT z) : ∃ (k : Int32) (z1 : TS), T_order_F z p1 = some (k, z1) ∧ IT z1 ∧ z1.di_count = z.di_count := by
  obtain ⟨i_tr_kind, i_di_count, i_pg_width, i_pg_height, i_tb_count, i_cb_count, i_la_count, i_sp_count, i_di_widths, i_di_heights, i_pg_dark, i_wr_keeping, i_wr_count, i_rd_place, i_rd_refusal, i_la_ways, i_la_symbolOf, i_la_xs, i_la_ys, i_la_sequence, i_sp_ways, i_sp_symbolOf, i_sp_xs, i_sp_ys, i_sp_sequence, i_na_lengths, i_na_joinedTo, i_na_row⟩ := h
  obtain ⟨o9, e9, h9⟩ := s_Law_order_F (out := z.out) (la_count := z.la_count) (la_ways := z.la_ways) (la_ys := z.la_ys) (la_symbolOf := z.la_symbolOf) (di_count := z.di_count) (di_heights := z.di_heights) (la_xs := z.la_xs) (di_widths := z.di_widths) (la_sequence := z.la_sequence) (wr_keeping := z.wr_keeping) (wr_count := z.wr_count) (tb_count := z.tb_count) (tb_bytes := z.tb_bytes) (na_row := z.na_row) (la_differs := z.la_differs) (p1 := p1) (by assumption) (by assumption) (by assumption) (by assumption) (by assumption) (by assumption) (by assumption) (by assumption) (by assumption) (by assumption) (by assumption) (by assumption) (by assumption)
  obtain ⟨r9, n_out, n_la_ys, n_la_symbolOf, n_la_xs, n_la_sequence, n_wr_keeping, n_wr_count, n_tb_count, n_tb_bytes, n_na_row, n_la_differs⟩ := o9
  try dsimp only at h9
  obtain ⟨p0, p1, p2, p3, p4, p5, p6, p7⟩ := h9
  refine ⟨r9, ((z.tr_kind, z.tr_refusedAt, z.di_count, z.pg_width, z.pg_height, n_tb_count, z.cb_count, z.la_count, z.sp_count, z.di_widths, z.di_heights, z.di_samples, z.pg_dark, n_tb_bytes, z.cb_bytes, n_wr_keeping, n_wr_count, z.rd_place, z.rd_refusal, z.la_ways, n_la_symbolOf, n_la_xs, n_la_ys, n_la_differs, n_la_sequence, z.sp_ways, z.sp_symbolOf, z.sp_xs, z.sp_ys, z.sp_differs, z.sp_sequence, z.na_lengths, z.na_codes, z.na_weights, z.na_joinedTo, n_out, n_na_row) : TS), ?_, ?_, rfl⟩
  · unfold T_order_F; rw [e9]; rfl
  · exact ⟨i_tr_kind, i_di_count, i_pg_width, i_pg_height, p6, i_cb_count, i_la_count, i_sp_count, i_di_widths, i_di_heights, i_pg_dark, p4, p5, i_rd_place, i_rd_refusal, i_la_ways, p1, p2, p0, p3, i_sp_ways, i_sp_symbolOf, i_sp_xs, i_sp_ys, i_sp_sequence, i_na_lengths, i_na_joinedTo, p7⟩
set_option maxRecDepth 20000 in
theorem gM_order (y : MS) (p0 : Int32) (h : IM y) : ∃ (k : Int32) (y1 : MS), M_order y p0 = some (k, y1) ∧ IM y1 ∧ y1.mo_symbols = y.mo_symbols := by
  obtain ⟨i_mo_width, i_mo_height, i_mo_kind, i_mo_symbols, i_mo_instances, i_mo_told, i_mo_keeps, i_mo_toldBytes, i_mo_came, i_mo_at, i_mo_refused, i_mo_readMany, i_mo_wide, i_mo_high, i_mo_symbolOf, i_mo_xs, i_mo_ys, i_mo_ways, i_mo_ordered, i_mo_page, i_mo_lengths, i_mo_used, i_mo_row, i_mo_readSymbol, i_mo_readX, i_mo_readY, i_mo_readWays⟩ := h
  obtain ⟨o9, e9, h9⟩ := s_Mo_order (mo_kind := y.mo_kind) (mo_symbols := y.mo_symbols) (mo_instances := y.mo_instances) (mo_told := y.mo_told) (mo_keeps := y.mo_keeps) (mo_ordered := y.mo_ordered) (mo_ways := y.mo_ways) (mo_ys := y.mo_ys) (mo_high := y.mo_high) (mo_symbolOf := y.mo_symbolOf) (mo_xs := y.mo_xs) (mo_wide := y.mo_wide) (mo_out := y.mo_out) (mo_row := y.mo_row) (mo_codes := y.mo_codes) (mo_lengths := y.mo_lengths) (mo_differs := y.mo_differs) (mo_weight := y.mo_weight) (mo_used := y.mo_used) (mo_over := y.mo_over) (p0 := p0) (by assumption) (by assumption) (by assumption) (by assumption) (by assumption) (by assumption) (by assumption) (by assumption) (by assumption) (by assumption) (by assumption) (by assumption) (by assumption) (by assumption) (by assumption)
  obtain ⟨r9, n_mo_thrown, n_mo_told, n_mo_keeps, n_mo_ordered, n_mo_ys, n_mo_symbolOf, n_mo_xs, n_mo_out, n_mo_row, n_mo_codes, n_mo_lengths, n_mo_differs, n_mo_weight, n_mo_used, n_mo_over⟩ := o9
  try dsimp only at h9
  obtain ⟨p0, p1, p2, p3, p4, p5, p6, p7, p8⟩ := h9
  refine ⟨r9, ((n_mo_thrown, y.mo_width, y.mo_height, y.mo_kind, y.mo_symbols, y.mo_instances, n_mo_told, n_mo_keeps, y.mo_toldBytes, y.mo_came, y.mo_at, y.mo_refused, y.mo_place, y.mo_readMany, y.mo_wide, y.mo_high, y.mo_dark, n_mo_symbolOf, n_mo_xs, n_mo_ys, n_mo_differs, y.mo_ways, n_mo_ordered, y.mo_page, n_mo_out, y.mo_counts, n_mo_lengths, n_mo_codes, n_mo_weight, n_mo_over, n_mo_used, n_mo_row, y.mo_in, y.mo_readSymbol, y.mo_readX, y.mo_readY, y.mo_readDiffers, y.mo_readWays) : MS), ?_, ?_, rfl⟩
  · unfold M_order; rw [e9]; rfl
  · exact ⟨i_mo_width, i_mo_height, i_mo_kind, i_mo_symbols, i_mo_instances, p0, p1, i_mo_toldBytes, i_mo_came, i_mo_at, i_mo_refused, i_mo_readMany, i_mo_wide, i_mo_high, p4, p5, p3, i_mo_ways, p2, i_mo_page, p7, p8, p6, i_mo_readSymbol, i_mo_readX, i_mo_readY, i_mo_readWays⟩
set_option maxRecDepth 20000 in
theorem gT_compose (z : TS) (h : IT z) : ∃ (k : Int32) (z1 : TS), T_compose z  = some (k, z1) ∧ IT z1 ∧ z1.di_count = z.di_count := by
  obtain ⟨i_tr_kind, i_di_count, i_pg_width, i_pg_height, i_tb_count, i_cb_count, i_la_count, i_sp_count, i_di_widths, i_di_heights, i_pg_dark, i_wr_keeping, i_wr_count, i_rd_place, i_rd_refusal, i_la_ways, i_la_symbolOf, i_la_xs, i_la_ys, i_la_sequence, i_sp_ways, i_sp_symbolOf, i_sp_xs, i_sp_ys, i_sp_sequence, i_na_lengths, i_na_joinedTo, i_na_row⟩ := h
  obtain ⟨o9, e9, h9⟩ := s_Top_compose (la_count := z.la_count) (la_ways := z.la_ways) (la_ys := z.la_ys) (la_symbolOf := z.la_symbolOf) (di_heights := z.di_heights) (la_xs := z.la_xs) (di_widths := z.di_widths) (la_sequence := z.la_sequence) (pg_width := z.pg_width) (pg_height := z.pg_height) (n_pg_dark := (z.pg_width * z.pg_height).toNatClampNeg) (pg_dark := z.pg_dark) (di_samples := z.di_samples) (la_differs := z.la_differs) (N9 := z.pg_width * z.pg_height) (nat_of (mul24 i_pg_width i_pg_height).1) (mul24 i_pg_width i_pg_height) rfl (by assumption) (by assumption) (by assumption) (by assumption) (by assumption) (by assumption) (by assumption) (by assumption) (by assumption) (by assumption) (by assumption)
  obtain ⟨r9, n_la_sequence, n_pg_dark⟩ := o9
  try dsimp only at h9
  obtain ⟨p0, p1⟩ := h9
  refine ⟨r9, ((z.tr_kind, z.tr_refusedAt, z.di_count, z.pg_width, z.pg_height, z.tb_count, z.cb_count, z.la_count, z.sp_count, z.di_widths, z.di_heights, z.di_samples, n_pg_dark, z.tb_bytes, z.cb_bytes, z.wr_keeping, z.wr_count, z.rd_place, z.rd_refusal, z.la_ways, z.la_symbolOf, z.la_xs, z.la_ys, z.la_differs, n_la_sequence, z.sp_ways, z.sp_symbolOf, z.sp_xs, z.sp_ys, z.sp_differs, z.sp_sequence, z.na_lengths, z.na_codes, z.na_weights, z.na_joinedTo, z.out, z.na_row) : TS), ?_, ?_, rfl⟩
  · unfold T_compose; rw [e9]; rfl
  · exact ⟨i_tr_kind, i_di_count, i_pg_width, i_pg_height, i_tb_count, i_cb_count, i_la_count, i_sp_count, i_di_widths, i_di_heights, p1, i_wr_keeping, i_wr_count, i_rd_place, i_rd_refusal, i_la_ways, i_la_symbolOf, i_la_xs, i_la_ys, p0, i_sp_ways, i_sp_symbolOf, i_sp_xs, i_sp_ys, i_sp_sequence, i_na_lengths, i_na_joinedTo, i_na_row⟩
set_option maxRecDepth 20000 in
theorem gM_compose (y : MS) (h : IM y) : ∃ (k : Int32) (y1 : MS), M_compose y  = some (k, y1) ∧ IM y1 ∧ y1.mo_symbols = y.mo_symbols := by
  obtain ⟨i_mo_width, i_mo_height, i_mo_kind, i_mo_symbols, i_mo_instances, i_mo_told, i_mo_keeps, i_mo_toldBytes, i_mo_came, i_mo_at, i_mo_refused, i_mo_readMany, i_mo_wide, i_mo_high, i_mo_symbolOf, i_mo_xs, i_mo_ys, i_mo_ways, i_mo_ordered, i_mo_page, i_mo_lengths, i_mo_used, i_mo_row, i_mo_readSymbol, i_mo_readX, i_mo_readY, i_mo_readWays⟩ := h
  obtain ⟨o9, e9, h9⟩ := s_Mo_compose (mo_width := y.mo_width) (mo_height := y.mo_height) (mo_instances := y.mo_instances) (mo_page := y.mo_page) (mo_ordered := y.mo_ordered) (mo_ways := y.mo_ways) (mo_ys := y.mo_ys) (mo_high := y.mo_high) (mo_symbolOf := y.mo_symbolOf) (mo_xs := y.mo_xs) (mo_wide := y.mo_wide) (mo_dark := y.mo_dark) (mo_differs := y.mo_differs) (by assumption) (by assumption) (by assumption) (by assumption) (by assumption) (by assumption) (by assumption) (by assumption) (by assumption) (by assumption) (by assumption)
  obtain ⟨r9, n_mo_thrown, n_mo_page, n_mo_ordered⟩ := o9
  try dsimp only at h9
  obtain ⟨p0, p1⟩ := h9
  refine ⟨r9, ((n_mo_thrown, y.mo_width, y.mo_height, y.mo_kind, y.mo_symbols, y.mo_instances, y.mo_told, y.mo_keeps, y.mo_toldBytes, y.mo_came, y.mo_at, y.mo_refused, y.mo_place, y.mo_readMany, y.mo_wide, y.mo_high, y.mo_dark, y.mo_symbolOf, y.mo_xs, y.mo_ys, y.mo_differs, y.mo_ways, n_mo_ordered, n_mo_page, y.mo_out, y.mo_counts, y.mo_lengths, y.mo_codes, y.mo_weight, y.mo_over, y.mo_used, y.mo_row, y.mo_in, y.mo_readSymbol, y.mo_readX, y.mo_readY, y.mo_readDiffers, y.mo_readWays) : MS), ?_, ?_, rfl⟩
  · unfold M_compose; rw [e9]; rfl
  · exact ⟨i_mo_width, i_mo_height, i_mo_kind, i_mo_symbols, i_mo_instances, i_mo_told, i_mo_keeps, i_mo_toldBytes, i_mo_came, i_mo_at, i_mo_refused, i_mo_readMany, i_mo_wide, i_mo_high, i_mo_symbolOf, i_mo_xs, i_mo_ys, i_mo_ways, p1, p0, i_mo_lengths, i_mo_used, i_mo_row, i_mo_readSymbol, i_mo_readX, i_mo_readY, i_mo_readWays⟩
set_option maxRecDepth 20000 in
theorem gT_at (z : TS) (p1 : Int32) (p2 : Int32) (h : IT z) : ∃ (k : Int32) (z1 : TS), T_at z p1 p2 = some (k, z1) ∧ IT z1 ∧ z1.di_count = z.di_count := by
  obtain ⟨i_tr_kind, i_di_count, i_pg_width, i_pg_height, i_tb_count, i_cb_count, i_la_count, i_sp_count, i_di_widths, i_di_heights, i_pg_dark, i_wr_keeping, i_wr_count, i_rd_place, i_rd_refusal, i_la_ways, i_la_symbolOf, i_la_xs, i_la_ys, i_la_sequence, i_sp_ways, i_sp_symbolOf, i_sp_xs, i_sp_ys, i_sp_sequence, i_na_lengths, i_na_joinedTo, i_na_row⟩ := h
  obtain ⟨o9, e9, h9⟩ := s_Law_at (out := z.out) (pg_width := z.pg_width) (pg_height := z.pg_height) (n_pg_dark := (z.pg_width * z.pg_height).toNatClampNeg) (pg_dark := z.pg_dark) (p1 := p1) (p2 := p2) (N9 := z.pg_width * z.pg_height) (nat_of (mul24 i_pg_width i_pg_height).1) (mul24 i_pg_width i_pg_height) rfl (by assumption) (by assumption) (by assumption)
  obtain ⟨r9, n_out⟩ := o9
  try dsimp only at h9
  refine ⟨r9, ((z.tr_kind, z.tr_refusedAt, z.di_count, z.pg_width, z.pg_height, z.tb_count, z.cb_count, z.la_count, z.sp_count, z.di_widths, z.di_heights, z.di_samples, z.pg_dark, z.tb_bytes, z.cb_bytes, z.wr_keeping, z.wr_count, z.rd_place, z.rd_refusal, z.la_ways, z.la_symbolOf, z.la_xs, z.la_ys, z.la_differs, z.la_sequence, z.sp_ways, z.sp_symbolOf, z.sp_xs, z.sp_ys, z.sp_differs, z.sp_sequence, z.na_lengths, z.na_codes, z.na_weights, z.na_joinedTo, n_out, z.na_row) : TS), ?_, ?_, rfl⟩
  · unfold T_at; rw [e9]; rfl
  · exact ⟨i_tr_kind, i_di_count, i_pg_width, i_pg_height, i_tb_count, i_cb_count, i_la_count, i_sp_count, i_di_widths, i_di_heights, i_pg_dark, i_wr_keeping, i_wr_count, i_rd_place, i_rd_refusal, i_la_ways, i_la_symbolOf, i_la_xs, i_la_ys, i_la_sequence, i_sp_ways, i_sp_symbolOf, i_sp_xs, i_sp_ys, i_sp_sequence, i_na_lengths, i_na_joinedTo, i_na_row⟩
set_option maxRecDepth 20000 in
theorem gM_at (y : MS) (p0 : Int32) (p1 : Int32) (h : IM y) : ∃ (k : Int32) (y1 : MS), M_at y p0 p1 = some (k, y1) ∧ IM y1 ∧ y1.mo_symbols = y.mo_symbols := by
  obtain ⟨i_mo_width, i_mo_height, i_mo_kind, i_mo_symbols, i_mo_instances, i_mo_told, i_mo_keeps, i_mo_toldBytes, i_mo_came, i_mo_at, i_mo_refused, i_mo_readMany, i_mo_wide, i_mo_high, i_mo_symbolOf, i_mo_xs, i_mo_ys, i_mo_ways, i_mo_ordered, i_mo_page, i_mo_lengths, i_mo_used, i_mo_row, i_mo_readSymbol, i_mo_readX, i_mo_readY, i_mo_readWays⟩ := h
  obtain ⟨o9, e9, h9⟩ := s_Mo_at (mo_width := y.mo_width) (mo_height := y.mo_height) (mo_page := y.mo_page) (p0 := p0) (p1 := p1) (by assumption) (by assumption) (by assumption)
  obtain ⟨r9, n_mo_thrown⟩ := o9
  try dsimp only at h9
  have p0 := h9
  refine ⟨r9, ((n_mo_thrown, y.mo_width, y.mo_height, y.mo_kind, y.mo_symbols, y.mo_instances, y.mo_told, y.mo_keeps, y.mo_toldBytes, y.mo_came, y.mo_at, y.mo_refused, y.mo_place, y.mo_readMany, y.mo_wide, y.mo_high, y.mo_dark, y.mo_symbolOf, y.mo_xs, y.mo_ys, y.mo_differs, y.mo_ways, y.mo_ordered, y.mo_page, y.mo_out, y.mo_counts, y.mo_lengths, y.mo_codes, y.mo_weight, y.mo_over, y.mo_used, y.mo_row, y.mo_in, y.mo_readSymbol, y.mo_readX, y.mo_readY, y.mo_readDiffers, y.mo_readWays) : MS), ?_, ?_, rfl⟩
  · unfold M_at; rw [e9]; rfl
  · exact ⟨i_mo_width, i_mo_height, i_mo_kind, i_mo_symbols, i_mo_instances, i_mo_told, i_mo_keeps, i_mo_toldBytes, i_mo_came, i_mo_at, i_mo_refused, i_mo_readMany, i_mo_wide, i_mo_high, i_mo_symbolOf, i_mo_xs, i_mo_ys, i_mo_ways, i_mo_ordered, i_mo_page, i_mo_lengths, i_mo_used, i_mo_row, i_mo_readSymbol, i_mo_readX, i_mo_readY, i_mo_readWays⟩
set_option maxRecDepth 20000 in
theorem gT_write_C (z : TS) (h : IT z) : ∃ (k : Int32) (z1 : TS), T_write_C z  = some (k, z1) ∧ IT z1 ∧ z1.di_count = z.di_count := by
  obtain ⟨i_tr_kind, i_di_count, i_pg_width, i_pg_height, i_tb_count, i_cb_count, i_la_count, i_sp_count, i_di_widths, i_di_heights, i_pg_dark, i_wr_keeping, i_wr_count, i_rd_place, i_rd_refusal, i_la_ways, i_la_symbolOf, i_la_xs, i_la_ys, i_la_sequence, i_sp_ways, i_sp_symbolOf, i_sp_xs, i_sp_ys, i_sp_sequence, i_na_lengths, i_na_joinedTo, i_na_row⟩ := h
  obtain ⟨o9, e9, h9⟩ := s_Top_write_C (la_count := z.la_count) (la_ways := z.la_ways) (la_ys := z.la_ys) (la_symbolOf := z.la_symbolOf) (di_count := z.di_count) (di_heights := z.di_heights) (la_xs := z.la_xs) (di_widths := z.di_widths) (la_sequence := z.la_sequence) (na_weights := z.na_weights) (na_joinedTo := z.na_joinedTo) (na_lengths := z.na_lengths) (na_codes := z.na_codes) (tb_count := z.tb_count) (tb_bytes := z.tb_bytes) (la_differs := z.la_differs) (by assumption) (by assumption) (by assumption) (by assumption) (by assumption) (by assumption) (by assumption) (by assumption) (by assumption) (by assumption) (by assumption) (by assumption)
  obtain ⟨r9, n_la_sequence, n_na_weights, n_na_joinedTo, n_na_lengths, n_na_codes, n_wr_keeping, n_wr_count, n_tb_count, n_tb_bytes⟩ := o9
  try dsimp only at h9
  obtain ⟨p0, p1, p2, p3, p4, p5⟩ := h9
  refine ⟨r9, ((z.tr_kind, z.tr_refusedAt, z.di_count, z.pg_width, z.pg_height, n_tb_count, z.cb_count, z.la_count, z.sp_count, z.di_widths, z.di_heights, z.di_samples, z.pg_dark, n_tb_bytes, z.cb_bytes, n_wr_keeping, n_wr_count, z.rd_place, z.rd_refusal, z.la_ways, z.la_symbolOf, z.la_xs, z.la_ys, z.la_differs, n_la_sequence, z.sp_ways, z.sp_symbolOf, z.sp_xs, z.sp_ys, z.sp_differs, z.sp_sequence, n_na_lengths, n_na_codes, n_na_weights, n_na_joinedTo, z.out, z.na_row) : TS), ?_, ?_, rfl⟩
  · unfold T_write_C; rw [e9]; rfl
  · exact ⟨i_tr_kind, i_di_count, i_pg_width, i_pg_height, p5, i_cb_count, i_la_count, i_sp_count, i_di_widths, i_di_heights, i_pg_dark, p3, p4, i_rd_place, i_rd_refusal, i_la_ways, i_la_symbolOf, i_la_xs, i_la_ys, p0, i_sp_ways, i_sp_symbolOf, i_sp_xs, i_sp_ys, i_sp_sequence, p2, p1, i_na_row⟩
set_option maxRecDepth 20000 in
theorem gT_write_F (z : TS) (h : IT z) : ∃ (k : Int32) (z1 : TS), T_write_F z  = some (k, z1) ∧ IT z1 ∧ z1.di_count = z.di_count := by
  obtain ⟨i_tr_kind, i_di_count, i_pg_width, i_pg_height, i_tb_count, i_cb_count, i_la_count, i_sp_count, i_di_widths, i_di_heights, i_pg_dark, i_wr_keeping, i_wr_count, i_rd_place, i_rd_refusal, i_la_ways, i_la_symbolOf, i_la_xs, i_la_ys, i_la_sequence, i_sp_ways, i_sp_symbolOf, i_sp_xs, i_sp_ys, i_sp_sequence, i_na_lengths, i_na_joinedTo, i_na_row⟩ := h
  obtain ⟨o9, e9, h9⟩ := s_Top_write_F (la_count := z.la_count) (la_ways := z.la_ways) (la_ys := z.la_ys) (la_symbolOf := z.la_symbolOf) (di_count := z.di_count) (di_heights := z.di_heights) (la_xs := z.la_xs) (di_widths := z.di_widths) (la_sequence := z.la_sequence) (tb_count := z.tb_count) (tb_bytes := z.tb_bytes) (na_row := z.na_row) (la_differs := z.la_differs) (by assumption) (by assumption) (by assumption) (by assumption) (by assumption) (by assumption) (by assumption) (by assumption) (by assumption) (by assumption) (by assumption)
  obtain ⟨r9, n_la_sequence, n_wr_keeping, n_wr_count, n_tb_count, n_tb_bytes, n_na_row⟩ := o9
  try dsimp only at h9
  obtain ⟨p0, p1, p2, p3, p4⟩ := h9
  refine ⟨r9, ((z.tr_kind, z.tr_refusedAt, z.di_count, z.pg_width, z.pg_height, n_tb_count, z.cb_count, z.la_count, z.sp_count, z.di_widths, z.di_heights, z.di_samples, z.pg_dark, n_tb_bytes, z.cb_bytes, n_wr_keeping, n_wr_count, z.rd_place, z.rd_refusal, z.la_ways, z.la_symbolOf, z.la_xs, z.la_ys, z.la_differs, n_la_sequence, z.sp_ways, z.sp_symbolOf, z.sp_xs, z.sp_ys, z.sp_differs, z.sp_sequence, z.na_lengths, z.na_codes, z.na_weights, z.na_joinedTo, z.out, n_na_row) : TS), ?_, ?_, rfl⟩
  · unfold T_write_F; rw [e9]; rfl
  · exact ⟨i_tr_kind, i_di_count, i_pg_width, i_pg_height, p3, i_cb_count, i_la_count, i_sp_count, i_di_widths, i_di_heights, i_pg_dark, p1, p2, i_rd_place, i_rd_refusal, i_la_ways, i_la_symbolOf, i_la_xs, i_la_ys, p0, i_sp_ways, i_sp_symbolOf, i_sp_xs, i_sp_ys, i_sp_sequence, i_na_lengths, i_na_joinedTo, p4⟩
set_option maxRecDepth 20000 in
theorem gM_write (y : MS) (h : IM y) : ∃ (k : Int32) (y1 : MS), M_write y  = some (k, y1) ∧ IM y1 ∧ y1.mo_symbols = y.mo_symbols := by
  obtain ⟨i_mo_width, i_mo_height, i_mo_kind, i_mo_symbols, i_mo_instances, i_mo_told, i_mo_keeps, i_mo_toldBytes, i_mo_came, i_mo_at, i_mo_refused, i_mo_readMany, i_mo_wide, i_mo_high, i_mo_symbolOf, i_mo_xs, i_mo_ys, i_mo_ways, i_mo_ordered, i_mo_page, i_mo_lengths, i_mo_used, i_mo_row, i_mo_readSymbol, i_mo_readX, i_mo_readY, i_mo_readWays⟩ := h
  obtain ⟨o9, e9, h9⟩ := s_Mo_write (mo_kind := y.mo_kind) (mo_symbols := y.mo_symbols) (mo_instances := y.mo_instances) (mo_ordered := y.mo_ordered) (mo_ways := y.mo_ways) (mo_ys := y.mo_ys) (mo_high := y.mo_high) (mo_symbolOf := y.mo_symbolOf) (mo_xs := y.mo_xs) (mo_wide := y.mo_wide) (mo_out := y.mo_out) (mo_row := y.mo_row) (mo_codes := y.mo_codes) (mo_lengths := y.mo_lengths) (mo_differs := y.mo_differs) (mo_weight := y.mo_weight) (mo_used := y.mo_used) (mo_over := y.mo_over) (by assumption) (by assumption) (by assumption) (by assumption) (by assumption) (by assumption) (by assumption) (by assumption) (by assumption) (by assumption) (by assumption) (by assumption) (by assumption)
  obtain ⟨r9, n_mo_thrown, n_mo_told, n_mo_keeps, n_mo_toldBytes, n_mo_ordered, n_mo_out, n_mo_row, n_mo_codes, n_mo_lengths, n_mo_weight, n_mo_used, n_mo_over⟩ := o9
  try dsimp only at h9
  obtain ⟨p0, p1, p2, p3, p4, p5, p6⟩ := h9
  refine ⟨r9, ((n_mo_thrown, y.mo_width, y.mo_height, y.mo_kind, y.mo_symbols, y.mo_instances, n_mo_told, n_mo_keeps, n_mo_toldBytes, y.mo_came, y.mo_at, y.mo_refused, y.mo_place, y.mo_readMany, y.mo_wide, y.mo_high, y.mo_dark, y.mo_symbolOf, y.mo_xs, y.mo_ys, y.mo_differs, y.mo_ways, n_mo_ordered, y.mo_page, n_mo_out, y.mo_counts, n_mo_lengths, n_mo_codes, n_mo_weight, n_mo_over, n_mo_used, n_mo_row, y.mo_in, y.mo_readSymbol, y.mo_readX, y.mo_readY, y.mo_readDiffers, y.mo_readWays) : MS), ?_, ?_, rfl⟩
  · unfold M_write; rw [e9]; rfl
  · exact ⟨i_mo_width, i_mo_height, i_mo_kind, i_mo_symbols, i_mo_instances, p0, p1, p2, i_mo_came, i_mo_at, i_mo_refused, i_mo_readMany, i_mo_wide, i_mo_high, i_mo_symbolOf, i_mo_xs, i_mo_ys, i_mo_ways, p3, i_mo_page, p5, p6, p4, i_mo_readSymbol, i_mo_readX, i_mo_readY, i_mo_readWays⟩
set_option maxRecDepth 20000 in
theorem gT_byteAt (z : TS) (p1 : Int32) (h : IT z) : ∃ (k : Int32) (z1 : TS), T_byteAt z p1 = some (k, z1) ∧ IT z1 ∧ z1.di_count = z.di_count := by
  obtain ⟨i_tr_kind, i_di_count, i_pg_width, i_pg_height, i_tb_count, i_cb_count, i_la_count, i_sp_count, i_di_widths, i_di_heights, i_pg_dark, i_wr_keeping, i_wr_count, i_rd_place, i_rd_refusal, i_la_ways, i_la_symbolOf, i_la_xs, i_la_ys, i_la_sequence, i_sp_ways, i_sp_symbolOf, i_sp_xs, i_sp_ys, i_sp_sequence, i_na_lengths, i_na_joinedTo, i_na_row⟩ := h
  obtain ⟨o9, e9, h9⟩ := s_Law_byteAt (out := z.out) (tb_count := z.tb_count) (tb_bytes := z.tb_bytes) (p1 := p1) (by assumption)
  obtain ⟨r9, n_out⟩ := o9
  try dsimp only at h9
  refine ⟨r9, ((z.tr_kind, z.tr_refusedAt, z.di_count, z.pg_width, z.pg_height, z.tb_count, z.cb_count, z.la_count, z.sp_count, z.di_widths, z.di_heights, z.di_samples, z.pg_dark, z.tb_bytes, z.cb_bytes, z.wr_keeping, z.wr_count, z.rd_place, z.rd_refusal, z.la_ways, z.la_symbolOf, z.la_xs, z.la_ys, z.la_differs, z.la_sequence, z.sp_ways, z.sp_symbolOf, z.sp_xs, z.sp_ys, z.sp_differs, z.sp_sequence, z.na_lengths, z.na_codes, z.na_weights, z.na_joinedTo, n_out, z.na_row) : TS), ?_, ?_, rfl⟩
  · unfold T_byteAt; rw [e9]; rfl
  · exact ⟨i_tr_kind, i_di_count, i_pg_width, i_pg_height, i_tb_count, i_cb_count, i_la_count, i_sp_count, i_di_widths, i_di_heights, i_pg_dark, i_wr_keeping, i_wr_count, i_rd_place, i_rd_refusal, i_la_ways, i_la_symbolOf, i_la_xs, i_la_ys, i_la_sequence, i_sp_ways, i_sp_symbolOf, i_sp_xs, i_sp_ys, i_sp_sequence, i_na_lengths, i_na_joinedTo, i_na_row⟩
set_option maxRecDepth 20000 in
theorem gM_byteAt (y : MS) (p0 : Int32) (h : IM y) : ∃ (k : Int32) (y1 : MS), M_byteAt y p0 = some (k, y1) ∧ IM y1 ∧ y1.mo_symbols = y.mo_symbols := by
  obtain ⟨i_mo_width, i_mo_height, i_mo_kind, i_mo_symbols, i_mo_instances, i_mo_told, i_mo_keeps, i_mo_toldBytes, i_mo_came, i_mo_at, i_mo_refused, i_mo_readMany, i_mo_wide, i_mo_high, i_mo_symbolOf, i_mo_xs, i_mo_ys, i_mo_ways, i_mo_ordered, i_mo_page, i_mo_lengths, i_mo_used, i_mo_row, i_mo_readSymbol, i_mo_readX, i_mo_readY, i_mo_readWays⟩ := h
  obtain ⟨o9, e9, h9⟩ := s_Mo_byteAt (mo_toldBytes := y.mo_toldBytes) (mo_out := y.mo_out) (p0 := p0) (by assumption)
  obtain ⟨r9, n_mo_thrown⟩ := o9
  try dsimp only at h9
  refine ⟨r9, ((n_mo_thrown, y.mo_width, y.mo_height, y.mo_kind, y.mo_symbols, y.mo_instances, y.mo_told, y.mo_keeps, y.mo_toldBytes, y.mo_came, y.mo_at, y.mo_refused, y.mo_place, y.mo_readMany, y.mo_wide, y.mo_high, y.mo_dark, y.mo_symbolOf, y.mo_xs, y.mo_ys, y.mo_differs, y.mo_ways, y.mo_ordered, y.mo_page, y.mo_out, y.mo_counts, y.mo_lengths, y.mo_codes, y.mo_weight, y.mo_over, y.mo_used, y.mo_row, y.mo_in, y.mo_readSymbol, y.mo_readX, y.mo_readY, y.mo_readDiffers, y.mo_readWays) : MS), ?_, ?_, rfl⟩
  · unfold M_byteAt; rw [e9]; rfl
  · exact ⟨i_mo_width, i_mo_height, i_mo_kind, i_mo_symbols, i_mo_instances, i_mo_told, i_mo_keeps, i_mo_toldBytes, i_mo_came, i_mo_at, i_mo_refused, i_mo_readMany, i_mo_wide, i_mo_high, i_mo_symbolOf, i_mo_xs, i_mo_ys, i_mo_ways, i_mo_ordered, i_mo_page, i_mo_lengths, i_mo_used, i_mo_row, i_mo_readSymbol, i_mo_readX, i_mo_readY, i_mo_readWays⟩
set_option maxRecDepth 20000 in
theorem gT_feed (z : TS) (p1 : Int32) (h : IT z) : ∃ (k : Int32) (z1 : TS), T_feed z p1 = some (k, z1) ∧ IT z1 ∧ z1.di_count = z.di_count := by
  obtain ⟨i_tr_kind, i_di_count, i_pg_width, i_pg_height, i_tb_count, i_cb_count, i_la_count, i_sp_count, i_di_widths, i_di_heights, i_pg_dark, i_wr_keeping, i_wr_count, i_rd_place, i_rd_refusal, i_la_ways, i_la_symbolOf, i_la_xs, i_la_ys, i_la_sequence, i_sp_ways, i_sp_symbolOf, i_sp_xs, i_sp_ys, i_sp_sequence, i_na_lengths, i_na_joinedTo, i_na_row⟩ := h
  obtain ⟨o9, e9, h9⟩ := s_Law_feed (out := z.out) (cb_count := z.cb_count) (cb_bytes := z.cb_bytes) (p1 := p1) (by assumption)
  obtain ⟨r9, n_out, n_cb_count, n_cb_bytes⟩ := o9
  try dsimp only at h9
  have p0 := h9
  refine ⟨r9, ((z.tr_kind, z.tr_refusedAt, z.di_count, z.pg_width, z.pg_height, z.tb_count, n_cb_count, z.la_count, z.sp_count, z.di_widths, z.di_heights, z.di_samples, z.pg_dark, z.tb_bytes, n_cb_bytes, z.wr_keeping, z.wr_count, z.rd_place, z.rd_refusal, z.la_ways, z.la_symbolOf, z.la_xs, z.la_ys, z.la_differs, z.la_sequence, z.sp_ways, z.sp_symbolOf, z.sp_xs, z.sp_ys, z.sp_differs, z.sp_sequence, z.na_lengths, z.na_codes, z.na_weights, z.na_joinedTo, n_out, z.na_row) : TS), ?_, ?_, rfl⟩
  · unfold T_feed; rw [e9]; rfl
  · exact ⟨i_tr_kind, i_di_count, i_pg_width, i_pg_height, i_tb_count, p0, i_la_count, i_sp_count, i_di_widths, i_di_heights, i_pg_dark, i_wr_keeping, i_wr_count, i_rd_place, i_rd_refusal, i_la_ways, i_la_symbolOf, i_la_xs, i_la_ys, i_la_sequence, i_sp_ways, i_sp_symbolOf, i_sp_xs, i_sp_ys, i_sp_sequence, i_na_lengths, i_na_joinedTo, i_na_row⟩
set_option maxRecDepth 20000 in
theorem gM_feed (y : MS) (p0 : Int32) (h : IM y) : ∃ (k : Int32) (y1 : MS), M_feed y p0 = some (k, y1) ∧ IM y1 ∧ y1.mo_symbols = y.mo_symbols := by
  obtain ⟨i_mo_width, i_mo_height, i_mo_kind, i_mo_symbols, i_mo_instances, i_mo_told, i_mo_keeps, i_mo_toldBytes, i_mo_came, i_mo_at, i_mo_refused, i_mo_readMany, i_mo_wide, i_mo_high, i_mo_symbolOf, i_mo_xs, i_mo_ys, i_mo_ways, i_mo_ordered, i_mo_page, i_mo_lengths, i_mo_used, i_mo_row, i_mo_readSymbol, i_mo_readX, i_mo_readY, i_mo_readWays⟩ := h
  obtain ⟨o9, e9, h9⟩ := s_Mo_feed (mo_came := y.mo_came) (mo_in := y.mo_in) (p0 := p0) (by assumption)
  obtain ⟨r9, n_mo_thrown, n_mo_came, n_mo_in⟩ := o9
  try dsimp only at h9
  have p0 := h9
  refine ⟨r9, ((n_mo_thrown, y.mo_width, y.mo_height, y.mo_kind, y.mo_symbols, y.mo_instances, y.mo_told, y.mo_keeps, y.mo_toldBytes, n_mo_came, y.mo_at, y.mo_refused, y.mo_place, y.mo_readMany, y.mo_wide, y.mo_high, y.mo_dark, y.mo_symbolOf, y.mo_xs, y.mo_ys, y.mo_differs, y.mo_ways, y.mo_ordered, y.mo_page, y.mo_out, y.mo_counts, y.mo_lengths, y.mo_codes, y.mo_weight, y.mo_over, y.mo_used, y.mo_row, n_mo_in, y.mo_readSymbol, y.mo_readX, y.mo_readY, y.mo_readDiffers, y.mo_readWays) : MS), ?_, ?_, rfl⟩
  · unfold M_feed; rw [e9]; rfl
  · exact ⟨i_mo_width, i_mo_height, i_mo_kind, i_mo_symbols, i_mo_instances, i_mo_told, i_mo_keeps, i_mo_toldBytes, p0, i_mo_at, i_mo_refused, i_mo_readMany, i_mo_wide, i_mo_high, i_mo_symbolOf, i_mo_xs, i_mo_ys, i_mo_ways, i_mo_ordered, i_mo_page, i_mo_lengths, i_mo_used, i_mo_row, i_mo_readSymbol, i_mo_readX, i_mo_readY, i_mo_readWays⟩
set_option maxRecDepth 20000 in
theorem gT_pass (z : TS) (h : IT z) : ∃ (k : Int32) (z1 : TS), T_pass z  = some (k, z1) ∧ IT z1 ∧ z1.di_count = z.di_count := by
  obtain ⟨i_tr_kind, i_di_count, i_pg_width, i_pg_height, i_tb_count, i_cb_count, i_la_count, i_sp_count, i_di_widths, i_di_heights, i_pg_dark, i_wr_keeping, i_wr_count, i_rd_place, i_rd_refusal, i_la_ways, i_la_symbolOf, i_la_xs, i_la_ys, i_la_sequence, i_sp_ways, i_sp_symbolOf, i_sp_xs, i_sp_ys, i_sp_sequence, i_na_lengths, i_na_joinedTo, i_na_row⟩ := h
  obtain ⟨o9, e9, h9⟩ := s_Law_pass (out := z.out) (tb_count := z.tb_count) (cb_count := z.cb_count) (tb_bytes := z.tb_bytes) (cb_bytes := z.cb_bytes) (by assumption) (by assumption)
  obtain ⟨r9, n_out, n_cb_count, n_cb_bytes⟩ := o9
  try dsimp only at h9
  have p0 := h9
  refine ⟨r9, ((z.tr_kind, z.tr_refusedAt, z.di_count, z.pg_width, z.pg_height, z.tb_count, n_cb_count, z.la_count, z.sp_count, z.di_widths, z.di_heights, z.di_samples, z.pg_dark, z.tb_bytes, n_cb_bytes, z.wr_keeping, z.wr_count, z.rd_place, z.rd_refusal, z.la_ways, z.la_symbolOf, z.la_xs, z.la_ys, z.la_differs, z.la_sequence, z.sp_ways, z.sp_symbolOf, z.sp_xs, z.sp_ys, z.sp_differs, z.sp_sequence, z.na_lengths, z.na_codes, z.na_weights, z.na_joinedTo, n_out, z.na_row) : TS), ?_, ?_, rfl⟩
  · unfold T_pass; rw [e9]; rfl
  · exact ⟨i_tr_kind, i_di_count, i_pg_width, i_pg_height, i_tb_count, p0, i_la_count, i_sp_count, i_di_widths, i_di_heights, i_pg_dark, i_wr_keeping, i_wr_count, i_rd_place, i_rd_refusal, i_la_ways, i_la_symbolOf, i_la_xs, i_la_ys, i_la_sequence, i_sp_ways, i_sp_symbolOf, i_sp_xs, i_sp_ys, i_sp_sequence, i_na_lengths, i_na_joinedTo, i_na_row⟩
set_option maxRecDepth 20000 in
theorem gM_pass (y : MS) (h : IM y) : ∃ (k : Int32) (y1 : MS), M_pass y  = some (k, y1) ∧ IM y1 ∧ y1.mo_symbols = y.mo_symbols := by
  obtain ⟨i_mo_width, i_mo_height, i_mo_kind, i_mo_symbols, i_mo_instances, i_mo_told, i_mo_keeps, i_mo_toldBytes, i_mo_came, i_mo_at, i_mo_refused, i_mo_readMany, i_mo_wide, i_mo_high, i_mo_symbolOf, i_mo_xs, i_mo_ys, i_mo_ways, i_mo_ordered, i_mo_page, i_mo_lengths, i_mo_used, i_mo_row, i_mo_readSymbol, i_mo_readX, i_mo_readY, i_mo_readWays⟩ := h
  obtain ⟨o9, e9, h9⟩ := s_Mo_pass (mo_toldBytes := y.mo_toldBytes) (mo_came := y.mo_came) (mo_in := y.mo_in) (mo_out := y.mo_out) (by assumption) (by assumption)
  obtain ⟨r9, n_mo_thrown, n_mo_came, n_mo_in⟩ := o9
  try dsimp only at h9
  have p0 := h9
  refine ⟨r9, ((n_mo_thrown, y.mo_width, y.mo_height, y.mo_kind, y.mo_symbols, y.mo_instances, y.mo_told, y.mo_keeps, y.mo_toldBytes, n_mo_came, y.mo_at, y.mo_refused, y.mo_place, y.mo_readMany, y.mo_wide, y.mo_high, y.mo_dark, y.mo_symbolOf, y.mo_xs, y.mo_ys, y.mo_differs, y.mo_ways, y.mo_ordered, y.mo_page, y.mo_out, y.mo_counts, y.mo_lengths, y.mo_codes, y.mo_weight, y.mo_over, y.mo_used, y.mo_row, n_mo_in, y.mo_readSymbol, y.mo_readX, y.mo_readY, y.mo_readDiffers, y.mo_readWays) : MS), ?_, ?_, rfl⟩
  · unfold M_pass; rw [e9]; rfl
  · exact ⟨i_mo_width, i_mo_height, i_mo_kind, i_mo_symbols, i_mo_instances, i_mo_told, i_mo_keeps, i_mo_toldBytes, p0, i_mo_at, i_mo_refused, i_mo_readMany, i_mo_wide, i_mo_high, i_mo_symbolOf, i_mo_xs, i_mo_ys, i_mo_ways, i_mo_ordered, i_mo_page, i_mo_lengths, i_mo_used, i_mo_row, i_mo_readSymbol, i_mo_readX, i_mo_readY, i_mo_readWays⟩
set_option maxRecDepth 20000 in
theorem gT_read_C (z : TS) (h : IT z) : ∃ (k : Int32) (sw : Nat) (z1 : TS), T_read_C z  = some (k, sw, z1) ∧ IT z1 ∧ z1.di_count = z.di_count := by
  obtain ⟨i_tr_kind, i_di_count, i_pg_width, i_pg_height, i_tb_count, i_cb_count, i_la_count, i_sp_count, i_di_widths, i_di_heights, i_pg_dark, i_wr_keeping, i_wr_count, i_rd_place, i_rd_refusal, i_la_ways, i_la_symbolOf, i_la_xs, i_la_ys, i_la_sequence, i_sp_ways, i_sp_symbolOf, i_sp_xs, i_sp_ys, i_sp_sequence, i_na_lengths, i_na_joinedTo, i_na_row⟩ := h
  obtain ⟨o9, e9, h9⟩ := s_Top_read_C (h_la := 0) (h_sp := 1) (sp_ways := z.sp_ways) (cb_count := z.cb_count) (cb_bytes := z.cb_bytes) (na_lengths := z.na_lengths) (di_count := z.di_count) (na_codes := z.na_codes) (di_widths := z.di_widths) (di_heights := z.di_heights) (sp_symbolOf := z.sp_symbolOf) (sp_xs := z.sp_xs) (sp_ys := z.sp_ys) (sp_differs := z.sp_differs) (by assumption) (by assumption) (by assumption) (by assumption) (by assumption) (by assumption) (by assumption) (by assumption) (by assumption)
  obtain ⟨r9, n_tr_layout, n_tr_spare, n_tr_refusedAt, n_sp_count, n_rd_place, n_rd_refusal, n_sp_ways, n_cb_count, n_na_lengths, n_na_codes, n_sp_symbolOf, n_sp_xs, n_sp_ys, n_sp_differs⟩ := o9
  try dsimp only at h9
  obtain ⟨p0, p1, p2, p3, p4, p5, p6, p7, p8⟩ := h9
  refine ⟨r9, n_tr_layout, ((z.tr_kind, n_tr_refusedAt, z.di_count, z.pg_width, z.pg_height, z.tb_count, n_cb_count, z.la_count, n_sp_count, z.di_widths, z.di_heights, z.di_samples, z.pg_dark, z.tb_bytes, z.cb_bytes, z.wr_keeping, z.wr_count, n_rd_place, n_rd_refusal, z.la_ways, z.la_symbolOf, z.la_xs, z.la_ys, z.la_differs, z.la_sequence, n_sp_ways, n_sp_symbolOf, n_sp_xs, n_sp_ys, n_sp_differs, z.sp_sequence, n_na_lengths, n_na_codes, z.na_weights, z.na_joinedTo, z.out, z.na_row) : TS), ?_, ?_, rfl⟩
  · unfold T_read_C; rw [e9]; rfl
  · exact ⟨i_tr_kind, i_di_count, i_pg_width, i_pg_height, i_tb_count, p4, i_la_count, p0, i_di_widths, i_di_heights, i_pg_dark, i_wr_keeping, i_wr_count, p1, p2, i_la_ways, i_la_symbolOf, i_la_xs, i_la_ys, i_la_sequence, p3, p6, p7, p8, i_sp_sequence, p5, i_na_joinedTo, i_na_row⟩
set_option maxRecDepth 20000 in
theorem gT_read_F (z : TS) (h : IT z) : ∃ (k : Int32) (sw : Nat) (z1 : TS), T_read_F z  = some (k, sw, z1) ∧ IT z1 ∧ z1.di_count = z.di_count := by
  obtain ⟨i_tr_kind, i_di_count, i_pg_width, i_pg_height, i_tb_count, i_cb_count, i_la_count, i_sp_count, i_di_widths, i_di_heights, i_pg_dark, i_wr_keeping, i_wr_count, i_rd_place, i_rd_refusal, i_la_ways, i_la_symbolOf, i_la_xs, i_la_ys, i_la_sequence, i_sp_ways, i_sp_symbolOf, i_sp_xs, i_sp_ys, i_sp_sequence, i_na_lengths, i_na_joinedTo, i_na_row⟩ := h
  obtain ⟨o9, e9, h9⟩ := s_Top_read_F (h_la := 0) (h_sp := 1) (sp_ways := z.sp_ways) (cb_count := z.cb_count) (cb_bytes := z.cb_bytes) (na_row := z.na_row) (di_count := z.di_count) (di_widths := z.di_widths) (di_heights := z.di_heights) (sp_symbolOf := z.sp_symbolOf) (sp_xs := z.sp_xs) (sp_ys := z.sp_ys) (sp_differs := z.sp_differs) (by assumption) (by assumption) (by assumption) (by assumption) (by assumption) (by assumption) (by assumption) (by assumption) (by assumption)
  obtain ⟨r9, n_tr_layout, n_tr_spare, n_tr_refusedAt, n_sp_count, n_rd_place, n_rd_refusal, n_sp_ways, n_cb_count, n_na_row, n_sp_symbolOf, n_sp_xs, n_sp_ys, n_sp_differs⟩ := o9
  try dsimp only at h9
  obtain ⟨p0, p1, p2, p3, p4, p5, p6, p7, p8⟩ := h9
  refine ⟨r9, n_tr_layout, ((z.tr_kind, n_tr_refusedAt, z.di_count, z.pg_width, z.pg_height, z.tb_count, n_cb_count, z.la_count, n_sp_count, z.di_widths, z.di_heights, z.di_samples, z.pg_dark, z.tb_bytes, z.cb_bytes, z.wr_keeping, z.wr_count, n_rd_place, n_rd_refusal, z.la_ways, z.la_symbolOf, z.la_xs, z.la_ys, z.la_differs, z.la_sequence, n_sp_ways, n_sp_symbolOf, n_sp_xs, n_sp_ys, n_sp_differs, z.sp_sequence, z.na_lengths, z.na_codes, z.na_weights, z.na_joinedTo, z.out, n_na_row) : TS), ?_, ?_, rfl⟩
  · unfold T_read_F; rw [e9]; rfl
  · exact ⟨i_tr_kind, i_di_count, i_pg_width, i_pg_height, i_tb_count, p4, i_la_count, p0, i_di_widths, i_di_heights, i_pg_dark, i_wr_keeping, i_wr_count, p1, p2, i_la_ways, i_la_symbolOf, i_la_xs, i_la_ys, i_la_sequence, p3, p6, p7, p8, i_sp_sequence, i_na_lengths, i_na_joinedTo, p5⟩
set_option maxRecDepth 20000 in
theorem gM_read (y : MS) (h : IM y) : ∃ (k : Int32) (y1 : MS), M_read y  = some (k, y1) ∧ IM y1 ∧ y1.mo_symbols = y.mo_symbols := by
  obtain ⟨i_mo_width, i_mo_height, i_mo_kind, i_mo_symbols, i_mo_instances, i_mo_told, i_mo_keeps, i_mo_toldBytes, i_mo_came, i_mo_at, i_mo_refused, i_mo_readMany, i_mo_wide, i_mo_high, i_mo_symbolOf, i_mo_xs, i_mo_ys, i_mo_ways, i_mo_ordered, i_mo_page, i_mo_lengths, i_mo_used, i_mo_row, i_mo_readSymbol, i_mo_readX, i_mo_readY, i_mo_readWays⟩ := h
  obtain ⟨o9, e9, h9⟩ := s_Mo_read (mo_kind := y.mo_kind) (mo_symbols := y.mo_symbols) (mo_instances := y.mo_instances) (mo_came := y.mo_came) (mo_in := y.mo_in) (mo_readWays := y.mo_readWays) (mo_row := y.mo_row) (mo_lengths := y.mo_lengths) (mo_codes := y.mo_codes) (mo_readSymbol := y.mo_readSymbol) (mo_readX := y.mo_readX) (mo_readY := y.mo_readY) (mo_readDiffers := y.mo_readDiffers) (mo_wide := y.mo_wide) (mo_high := y.mo_high) (mo_symbolOf := y.mo_symbolOf) (mo_xs := y.mo_xs) (mo_ys := y.mo_ys) (mo_differs := y.mo_differs) (mo_ways := y.mo_ways) (by assumption) (by assumption) (by assumption) (by assumption) (by assumption) (by assumption) (by assumption) (by assumption) (by assumption) (by assumption) (by assumption) (by assumption) (by assumption) (by assumption) (by assumption) (by assumption)
  obtain ⟨r9, n_mo_thrown, n_mo_instances, n_mo_came, n_mo_at, n_mo_refused, n_mo_place, n_mo_readMany, n_mo_readWays, n_mo_row, n_mo_lengths, n_mo_codes, n_mo_readSymbol, n_mo_readX, n_mo_readY, n_mo_readDiffers, n_mo_symbolOf, n_mo_xs, n_mo_ys, n_mo_differs, n_mo_ways⟩ := o9
  try dsimp only at h9
  obtain ⟨p0, p1, p2, p3, p4, p5, p6, p7, p8, p9, p10, p11, p12, p13, p14⟩ := h9
  refine ⟨r9, ((n_mo_thrown, y.mo_width, y.mo_height, y.mo_kind, y.mo_symbols, n_mo_instances, y.mo_told, y.mo_keeps, y.mo_toldBytes, n_mo_came, n_mo_at, n_mo_refused, n_mo_place, n_mo_readMany, y.mo_wide, y.mo_high, y.mo_dark, n_mo_symbolOf, n_mo_xs, n_mo_ys, n_mo_differs, n_mo_ways, y.mo_ordered, y.mo_page, y.mo_out, y.mo_counts, n_mo_lengths, n_mo_codes, y.mo_weight, y.mo_over, y.mo_used, n_mo_row, y.mo_in, n_mo_readSymbol, n_mo_readX, n_mo_readY, n_mo_readDiffers, n_mo_readWays) : MS), ?_, ?_, rfl⟩
  · unfold M_read; rw [e9]; rfl
  · exact ⟨i_mo_width, i_mo_height, i_mo_kind, i_mo_symbols, p0, i_mo_told, i_mo_keeps, i_mo_toldBytes, p1, p2, p3, p4, i_mo_wide, i_mo_high, p11, p12, p13, p14, i_mo_ordered, i_mo_page, p7, i_mo_used, p6, p8, p9, p10, p5⟩
set_option maxRecDepth 20000 in
theorem gT_place (z : TS) (p1 : Int32) (p2 : Int32) (h : IT z) : ∃ (k : Int32) (z1 : TS), T_place z p1 p2 = some (k, z1) ∧ IT z1 ∧ z1.di_count = z.di_count := by
  obtain ⟨i_tr_kind, i_di_count, i_pg_width, i_pg_height, i_tb_count, i_cb_count, i_la_count, i_sp_count, i_di_widths, i_di_heights, i_pg_dark, i_wr_keeping, i_wr_count, i_rd_place, i_rd_refusal, i_la_ways, i_la_symbolOf, i_la_xs, i_la_ys, i_la_sequence, i_sp_ways, i_sp_symbolOf, i_sp_xs, i_sp_ys, i_sp_sequence, i_na_lengths, i_na_joinedTo, i_na_row⟩ := h
  obtain ⟨o9, e9, h9⟩ := s_Law_place (out := z.out) (la_count := z.la_count) (la_symbolOf := z.la_symbolOf) (la_xs := z.la_xs) (la_ys := z.la_ys) (la_ways := z.la_ways) (di_widths := z.di_widths) (di_heights := z.di_heights) (la_differs := z.la_differs) (p1 := p1) (p2 := p2) (by assumption) (by assumption) (by assumption) (by assumption) (by assumption) (by assumption) (by assumption)
  obtain ⟨r9, n_out⟩ := o9
  try dsimp only at h9
  refine ⟨r9, ((z.tr_kind, z.tr_refusedAt, z.di_count, z.pg_width, z.pg_height, z.tb_count, z.cb_count, z.la_count, z.sp_count, z.di_widths, z.di_heights, z.di_samples, z.pg_dark, z.tb_bytes, z.cb_bytes, z.wr_keeping, z.wr_count, z.rd_place, z.rd_refusal, z.la_ways, z.la_symbolOf, z.la_xs, z.la_ys, z.la_differs, z.la_sequence, z.sp_ways, z.sp_symbolOf, z.sp_xs, z.sp_ys, z.sp_differs, z.sp_sequence, z.na_lengths, z.na_codes, z.na_weights, z.na_joinedTo, n_out, z.na_row) : TS), ?_, ?_, rfl⟩
  · unfold T_place; rw [e9]; rfl
  · exact ⟨i_tr_kind, i_di_count, i_pg_width, i_pg_height, i_tb_count, i_cb_count, i_la_count, i_sp_count, i_di_widths, i_di_heights, i_pg_dark, i_wr_keeping, i_wr_count, i_rd_place, i_rd_refusal, i_la_ways, i_la_symbolOf, i_la_xs, i_la_ys, i_la_sequence, i_sp_ways, i_sp_symbolOf, i_sp_xs, i_sp_ys, i_sp_sequence, i_na_lengths, i_na_joinedTo, i_na_row⟩
set_option maxRecDepth 20000 in
theorem gM_place (y : MS) (p0 : Int32) (p1 : Int32) (h : IM y) : ∃ (k : Int32) (y1 : MS), M_place y p0 p1 = some (k, y1) ∧ IM y1 ∧ y1.mo_symbols = y.mo_symbols := by
  obtain ⟨i_mo_width, i_mo_height, i_mo_kind, i_mo_symbols, i_mo_instances, i_mo_told, i_mo_keeps, i_mo_toldBytes, i_mo_came, i_mo_at, i_mo_refused, i_mo_readMany, i_mo_wide, i_mo_high, i_mo_symbolOf, i_mo_xs, i_mo_ys, i_mo_ways, i_mo_ordered, i_mo_page, i_mo_lengths, i_mo_used, i_mo_row, i_mo_readSymbol, i_mo_readX, i_mo_readY, i_mo_readWays⟩ := h
  obtain ⟨o9, e9, h9⟩ := s_Mo_place (mo_instances := y.mo_instances) (mo_differs := y.mo_differs) (mo_ways := y.mo_ways) (mo_ys := y.mo_ys) (mo_high := y.mo_high) (mo_symbolOf := y.mo_symbolOf) (mo_xs := y.mo_xs) (mo_wide := y.mo_wide) (p0 := p0) (p1 := p1) (by assumption) (by assumption) (by assumption) (by assumption) (by assumption) (by assumption) (by assumption)
  obtain ⟨r9, n_mo_thrown⟩ := o9
  try dsimp only at h9
  refine ⟨r9, ((n_mo_thrown, y.mo_width, y.mo_height, y.mo_kind, y.mo_symbols, y.mo_instances, y.mo_told, y.mo_keeps, y.mo_toldBytes, y.mo_came, y.mo_at, y.mo_refused, y.mo_place, y.mo_readMany, y.mo_wide, y.mo_high, y.mo_dark, y.mo_symbolOf, y.mo_xs, y.mo_ys, y.mo_differs, y.mo_ways, y.mo_ordered, y.mo_page, y.mo_out, y.mo_counts, y.mo_lengths, y.mo_codes, y.mo_weight, y.mo_over, y.mo_used, y.mo_row, y.mo_in, y.mo_readSymbol, y.mo_readX, y.mo_readY, y.mo_readDiffers, y.mo_readWays) : MS), ?_, ?_, rfl⟩
  · unfold M_place; rw [e9]; rfl
  · exact ⟨i_mo_width, i_mo_height, i_mo_kind, i_mo_symbols, i_mo_instances, i_mo_told, i_mo_keeps, i_mo_toldBytes, i_mo_came, i_mo_at, i_mo_refused, i_mo_readMany, i_mo_wide, i_mo_high, i_mo_symbolOf, i_mo_xs, i_mo_ys, i_mo_ways, i_mo_ordered, i_mo_page, i_mo_lengths, i_mo_used, i_mo_row, i_mo_readSymbol, i_mo_readX, i_mo_readY, i_mo_readWays⟩
theorem gT_told (z : TS) (p0 : Int32) (h : IT z) : ∃ k : Int32, T_told z p0 = some k := by
  obtain ⟨i_tr_kind, i_di_count, i_pg_width, i_pg_height, i_tb_count, i_cb_count, i_la_count, i_sp_count, i_di_widths, i_di_heights, i_pg_dark, i_wr_keeping, i_wr_count, i_rd_place, i_rd_refusal, i_la_ways, i_la_symbolOf, i_la_xs, i_la_ys, i_la_sequence, i_sp_ways, i_sp_symbolOf, i_sp_xs, i_sp_ys, i_sp_sequence, i_na_lengths, i_na_joinedTo, i_na_row⟩ := h
  obtain ⟨o9, e9, h9⟩ := s_Top_told (tr_kind := z.tr_kind) (tr_refusedAt := z.tr_refusedAt) (pg_width := z.pg_width) (pg_height := z.pg_height) (di_count := z.di_count) (la_count := z.la_count) (tb_count := z.tb_count) (cb_count := z.cb_count) (p0 := p0) (by assumption) (by assumption) (by assumption) (by assumption) (by assumption) (by assumption) (by assumption)
  exact ⟨o9, e9⟩
set_option maxRecDepth 20000 in
theorem gM_told (y : MS) (p0 : Int32) (h : IM y) : ∃ (k : Int32) (y1 : MS), M_told y p0 = some (k, y1) ∧ IM y1 ∧ y1.mo_symbols = y.mo_symbols := by
  obtain ⟨i_mo_width, i_mo_height, i_mo_kind, i_mo_symbols, i_mo_instances, i_mo_told, i_mo_keeps, i_mo_toldBytes, i_mo_came, i_mo_at, i_mo_refused, i_mo_readMany, i_mo_wide, i_mo_high, i_mo_symbolOf, i_mo_xs, i_mo_ys, i_mo_ways, i_mo_ordered, i_mo_page, i_mo_lengths, i_mo_used, i_mo_row, i_mo_readSymbol, i_mo_readX, i_mo_readY, i_mo_readWays⟩ := h
  obtain ⟨o9, e9, h9⟩ := s_Mo_told (mo_width := y.mo_width) (mo_height := y.mo_height) (mo_kind := y.mo_kind) (mo_symbols := y.mo_symbols) (mo_instances := y.mo_instances) (mo_toldBytes := y.mo_toldBytes) (mo_came := y.mo_came) (mo_place := y.mo_place) (p0 := p0) (by assumption) (by assumption) (by assumption) (by assumption) (by assumption) (by assumption) (by assumption)
  obtain ⟨r9, n_mo_thrown⟩ := o9
  try dsimp only at h9
  refine ⟨r9, ((n_mo_thrown, y.mo_width, y.mo_height, y.mo_kind, y.mo_symbols, y.mo_instances, y.mo_told, y.mo_keeps, y.mo_toldBytes, y.mo_came, y.mo_at, y.mo_refused, y.mo_place, y.mo_readMany, y.mo_wide, y.mo_high, y.mo_dark, y.mo_symbolOf, y.mo_xs, y.mo_ys, y.mo_differs, y.mo_ways, y.mo_ordered, y.mo_page, y.mo_out, y.mo_counts, y.mo_lengths, y.mo_codes, y.mo_weight, y.mo_over, y.mo_used, y.mo_row, y.mo_in, y.mo_readSymbol, y.mo_readX, y.mo_readY, y.mo_readDiffers, y.mo_readWays) : MS), ?_, ?_, rfl⟩
  · unfold M_told; rw [e9]; rfl
  · exact ⟨i_mo_width, i_mo_height, i_mo_kind, i_mo_symbols, i_mo_instances, i_mo_told, i_mo_keeps, i_mo_toldBytes, i_mo_came, i_mo_at, i_mo_refused, i_mo_readMany, i_mo_wide, i_mo_high, i_mo_symbolOf, i_mo_xs, i_mo_ys, i_mo_ways, i_mo_ordered, i_mo_page, i_mo_lengths, i_mo_used, i_mo_row, i_mo_readSymbol, i_mo_readX, i_mo_readY, i_mo_readWays⟩
set_option maxRecDepth 20000 in
theorem gT_clear (z : TS) (h : IT z) : ∃ (z1 : TS), T_clear z  = some z1 ∧ IT z1 := by
  obtain ⟨i_tr_kind, i_di_count, i_pg_width, i_pg_height, i_tb_count, i_cb_count, i_la_count, i_sp_count, i_di_widths, i_di_heights, i_pg_dark, i_wr_keeping, i_wr_count, i_rd_place, i_rd_refusal, i_la_ways, i_la_symbolOf, i_la_xs, i_la_ys, i_la_sequence, i_sp_ways, i_sp_symbolOf, i_sp_xs, i_sp_ys, i_sp_sequence, i_na_lengths, i_na_joinedTo, i_na_row⟩ := h
  obtain ⟨o9, e9, h9⟩ := s_Top_clear (la_ways := z.la_ways) (n_pg_dark := (z.pg_width * z.pg_height).toNatClampNeg) (pg_dark := z.pg_dark) (N9 := z.pg_width * z.pg_height) (nat_of (mul24 i_pg_width i_pg_height).1) (mul24 i_pg_width i_pg_height) (by assumption) (by assumption)
  obtain ⟨n_di_count, n_la_count, n_la_ways, n_tb_count, n_cb_count, n_pg_dark⟩ := o9
  try dsimp only at h9
  obtain ⟨p0, p1, p2, p3, p4, p5⟩ := h9
  refine ⟨((z.tr_kind, z.tr_refusedAt, n_di_count, z.pg_width, z.pg_height, n_tb_count, n_cb_count, n_la_count, z.sp_count, z.di_widths, z.di_heights, z.di_samples, n_pg_dark, z.tb_bytes, z.cb_bytes, z.wr_keeping, z.wr_count, z.rd_place, z.rd_refusal, n_la_ways, z.la_symbolOf, z.la_xs, z.la_ys, z.la_differs, z.la_sequence, z.sp_ways, z.sp_symbolOf, z.sp_xs, z.sp_ys, z.sp_differs, z.sp_sequence, z.na_lengths, z.na_codes, z.na_weights, z.na_joinedTo, z.out, z.na_row) : TS), ?_, ?_⟩
  · unfold T_clear; rw [e9]; rfl
  · exact ⟨i_tr_kind, p0, i_pg_width, i_pg_height, p3, p4, p1, i_sp_count, i_di_widths, i_di_heights, p5, i_wr_keeping, i_wr_count, i_rd_place, i_rd_refusal, p2, i_la_symbolOf, i_la_xs, i_la_ys, i_la_sequence, i_sp_ways, i_sp_symbolOf, i_sp_xs, i_sp_ys, i_sp_sequence, i_na_lengths, i_na_joinedTo, i_na_row⟩
set_option maxRecDepth 20000 in
theorem gM_clear (y : MS) (h : IM y) : ∃ (y1 : MS), M_clear y  = some y1 ∧ IM y1 := by
  obtain ⟨i_mo_width, i_mo_height, i_mo_kind, i_mo_symbols, i_mo_instances, i_mo_told, i_mo_keeps, i_mo_toldBytes, i_mo_came, i_mo_at, i_mo_refused, i_mo_readMany, i_mo_wide, i_mo_high, i_mo_symbolOf, i_mo_xs, i_mo_ys, i_mo_ways, i_mo_ordered, i_mo_page, i_mo_lengths, i_mo_used, i_mo_row, i_mo_readSymbol, i_mo_readX, i_mo_readY, i_mo_readWays⟩ := h
  obtain ⟨o9, e9, h9⟩ := s_Mo_clear (mo_ways := y.mo_ways) (mo_page := y.mo_page) (by assumption) (by assumption)
  obtain ⟨n_mo_thrown, n_mo_symbols, n_mo_instances, n_mo_toldBytes, n_mo_came, n_mo_place, n_mo_ways, n_mo_page⟩ := o9
  try dsimp only at h9
  obtain ⟨p0, p1, p2, p3, p4, p5⟩ := h9
  refine ⟨((n_mo_thrown, y.mo_width, y.mo_height, y.mo_kind, n_mo_symbols, n_mo_instances, y.mo_told, y.mo_keeps, n_mo_toldBytes, n_mo_came, y.mo_at, y.mo_refused, n_mo_place, y.mo_readMany, y.mo_wide, y.mo_high, y.mo_dark, y.mo_symbolOf, y.mo_xs, y.mo_ys, y.mo_differs, n_mo_ways, y.mo_ordered, n_mo_page, y.mo_out, y.mo_counts, y.mo_lengths, y.mo_codes, y.mo_weight, y.mo_over, y.mo_used, y.mo_row, y.mo_in, y.mo_readSymbol, y.mo_readX, y.mo_readY, y.mo_readDiffers, y.mo_readWays) : MS), ?_, ?_⟩
  · unfold M_clear; rw [e9]; rfl
  · exact ⟨i_mo_width, i_mo_height, i_mo_kind, p0, p1, i_mo_told, i_mo_keeps, p2, p3, i_mo_at, i_mo_refused, i_mo_readMany, i_mo_wide, i_mo_high, i_mo_symbolOf, i_mo_xs, i_mo_ys, p4, i_mo_ordered, p5, i_mo_lengths, i_mo_used, i_mo_row, i_mo_readSymbol, i_mo_readX, i_mo_readY, i_mo_readWays⟩
