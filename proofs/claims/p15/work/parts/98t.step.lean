/-! the relation between calls, and that every call keeps it -/
def PG (z : TS) (y : MS) : Prop := z.pg_width = y.mo_width ∧ z.pg_height = y.mo_height ∧ PP y.mo_width y.mo_height z.pg_dark y.mo_page
def RL (kd : Int32) (z : TS) (y : MS) : Prop := y.mo_kind = kd ∧ z.di_count = y.mo_symbols ∧ z.di_widths = y.mo_wide ∧ z.di_heights = y.mo_high ∧ SR z.di_widths z.di_samples y.mo_dark ∧ z.la_count = y.mo_instances ∧ LR y.mo_instances y.mo_symbols y.mo_wide y.mo_high z.la_ways z.la_symbolOf z.la_xs z.la_ys z.la_differs y.mo_ways y.mo_symbolOf y.mo_xs y.mo_ys y.mo_differs ∧ z.tb_count = y.mo_toldBytes ∧ RB y.mo_toldBytes z.tb_bytes y.mo_out ∧ z.cb_count = y.mo_came ∧ RB y.mo_came z.cb_bytes y.mo_in ∧ PG z y
abbrev II (kd : Int32) (z : TS) (y : MS) : Prop := IT z ∧ IM y ∧ RL kd z y
set_option maxRecDepth 20000 in
set_option maxHeartbeats 1000000 in
theorem st_symbol (kd : Int32) (z : TS) (y : MS) (p1 p2 : Int32) (hI : II kd z y) : ∃ (z1 : TS) (y1 : MS) (k q : Int32), T_symbol z p1 p2 = some (k, z1) ∧ M_symbol y p1 p2 = some (q, y1) ∧ some y1.mo_thrown = some k ∧ (k = 0 → z1.out (0 : Int32).toNatClampNeg = q.toInt64) ∧ II kd z1 y1 := by
  obtain ⟨hz, hy, hj⟩ := hI
  obtain ⟨jk, j1, j2, j3, j4, j5, jL, j6, jO, j7, jI, jP⟩ := hj
  obtain ⟨v, hT, iz⟩ : ∃ v : Int32 × TS, T_symbol z p1 p2 = some v ∧ IT v.2 := by
    obtain ⟨x0, x1, x2, x3, x4, x5, hT, iz⟩ := hT_symbol z p1 p2 hz
    exact ⟨_, hT, iz⟩
  obtain ⟨u, hM, iy⟩ : ∃ u : Int32 × MS, M_symbol y p1 p2 = some u ∧ IM u.2 := by
    obtain ⟨w0, w1, w2, w3, w4, w5, hM, iy⟩ := hM_symbol y p1 p2 hy
    exact ⟨_, hM, iy⟩
  have g1 := hT
  have g2 := hM
  unfold T_symbol at g1
  unfold M_symbol at g2
  obtain ⟨o, e1, f1⟩ := Option.map_eq_some_iff.mp g1
  obtain ⟨m, e2, f2⟩ := Option.map_eq_some_iff.mp g2
  clear g1 g2
  subst f1
  subst f2
  have hc : 0 ≤ z.di_count ∧ z.di_count ≤ 16 := hz.2.1
  have j4s := j4
  rw [j1] at hc
  rw [j1, j2, j3] at e1
  rcases sy_T z.out y.mo_symbols y.mo_wide y.mo_high z.di_samples p1 p2 hc with ⟨b, e⟩ | ⟨b, c, e⟩ | ⟨b, c, e⟩ <;> rcases sy_M y.mo_symbols y.mo_wide y.mo_high y.mo_dark p1 p2 hc with ⟨b9, e9⟩ | ⟨b9, c9, e9⟩ | ⟨b9, c9, e9⟩
  · have e1 := Option.some.inj (e1.symm.trans e)
    have e2 := Option.some.inj (e2.symm.trans e9)
    subst e1
    subst e2
    exact ⟨_, _, _, _, hT, hM, rfl, fun h => absurd (show (1 : Int32) = 0 from h) (by decide), iz, iy, jk, rfl, rfl, rfl, (by rw [j2] at j4; exact j4), j5, jL, j6, jO, j7, jI, jP⟩
  · exact absurd b b9
  · exact absurd b b9
  · exact absurd b9 b
  · have e1 := Option.some.inj (e1.symm.trans e)
    have e2 := Option.some.inj (e2.symm.trans e9)
    subst e1
    subst e2
    exact ⟨_, _, _, _, hT, hM, rfl, fun h => absurd (show (2 : Int32) = 0 from h) (by decide), iz, iy, jk, rfl, rfl, rfl, (by rw [j2] at j4; exact j4), j5, jL, j6, jO, j7, jI, jP⟩
  · rw [c] at c9
    exact absurd c9 (by decide)
  · exact absurd b9 b
  · rw [c9] at c
    exact absurd c (by decide)
  · have e1 := Option.some.inj (e1.symm.trans e)
    have e2 := Option.some.inj (e2.symm.trans e9)
    subst e1
    subst e2
    have c0 := (int_e hc).1
    have c1 := t_lt c
    rw [z_16] at c1
    rw [z_0] at c0
    refine ⟨_, _, _, _, hT, hM, rfl, fun _ => ?_, iz, iy, jk, rfl, rfl, rfl, ?_, j5, lr_sym c0 c1 jL, j6, jO, j7, jI, jP⟩
    · show vp_updL z.out ((0 : Int32)).toNatClampNeg y.mo_symbols.toInt64 (0 : Int32).toNatClampNeg = y.mo_symbols.toInt64
      exact out_0
    · show SR (upd y.mo_wide y.mo_symbols.toNatClampNeg p1) (vp_updL z.di_samples y.mo_symbols.toNatClampNeg 0) (vp_updL y.mo_dark y.mo_symbols.toNatClampNeg 0)
      rw [j2] at j4
      exact sr_sym j4
set_option maxRecDepth 20000 in
set_option maxHeartbeats 1000000 in
theorem st_put (kd : Int32) (z : TS) (y : MS) (p1 p2 p3 p4 : Int32) (h4 : p4 = 0 ∨ p4 = 1) (hI : II kd z y) : ∃ (z1 : TS) (y1 : MS) (k q : Int32), T_put z p1 p2 p3 p4 = some (k, z1) ∧ M_put y p1 p2 p3 p4 = some (q, y1) ∧ some y1.mo_thrown = some k ∧ (k = 0 → z1.out (0 : Int32).toNatClampNeg = (if q = 0 then 0 else 1)) ∧ II kd z1 y1 := by
  obtain ⟨hz, hy, hj⟩ := hI
  obtain ⟨jk, j1, j2, j3, j4, j5, jL, j6, jO, j7, jI, jP⟩ := hj
  obtain ⟨v, hT, iz⟩ : ∃ v : Int32 × TS, T_put z p1 p2 p3 p4 = some v ∧ IT v.2 := by
    obtain ⟨x0, x1, x2, hT, iz⟩ := hT_put z p1 p2 p3 p4 hz
    exact ⟨_, hT, iz⟩
  obtain ⟨u, hM, iy⟩ : ∃ u : Int32 × MS, M_put y p1 p2 p3 p4 = some u ∧ IM u.2 := by
    obtain ⟨w0, w1, w2, hM, iy⟩ := hM_put y p1 p2 p3 p4 hy
    exact ⟨_, hM, iy⟩
  have g1 := hT
  have g2 := hM
  unfold T_put at g1
  unfold M_put at g2
  obtain ⟨o, e1, f1⟩ := Option.map_eq_some_iff.mp g1
  obtain ⟨m, e2, f2⟩ := Option.map_eq_some_iff.mp g2
  clear g1 g2
  subst f1
  subst f2
  have hc : 0 ≤ z.di_count ∧ z.di_count ≤ 16 := hz.2.1
  obtain ⟨t_kd, t_dc, t_pw, t_ph, t_tb, t_cb, t_la, t_sp, t_w, t_h, t_pg, t_kp, t_wc, t_rp, t_rr, t_W, t_sO, t_xs, t_ys, t_sq, s_W, s_sO, s_xs, s_ys, s_sq, t_le9, t_jt, t_row⟩ := id hz
  rcases pt_TM z.out z.di_count z.di_widths z.di_heights z.di_samples y.mo_dark p1 p2 p3 p4 hc t_w t_h j4 h4 with ⟨e, e9⟩ | ⟨q, s9, d9, e, e9, j9⟩
  · rw [j1, j2, j3] at e9
    have e1 := Option.some.inj (e1.symm.trans e)
    have e2 := Option.some.inj (e2.symm.trans e9)
    subst e1
    subst e2
    exact ⟨_, _, _, _, hT, hM, rfl, fun h => absurd (show (1 : Int32) = 0 from h) (by decide), iz, iy, jk, j1, j2, j3, j4, j5, jL, j6, jO, j7, jI, jP⟩
  · rw [j1, j2, j3] at e9
    have e1 := Option.some.inj (e1.symm.trans e)
    have e2 := Option.some.inj (e2.symm.trans e9)
    subst e1
    subst e2
    exact ⟨_, _, _, _, hT, hM, rfl, fun _ => (show vp_updL z.out ((0 : Int32)).toNatClampNeg (if q = 0 then 0 else 1) ((0 : Int32)).toNatClampNeg = (if q = 0 then 0 else 1) from updL_same _ _ _), iz, iy, jk, j1, j2, j3, j9, j5, jL, j6, jO, j7, jI, jP⟩
set_option maxRecDepth 20000 in
set_option maxHeartbeats 1000000 in
theorem st_instance (kd : Int32) (z : TS) (y : MS) (p1 p2 p3 : Int32) (hI : II kd z y) : ∃ (z1 : TS) (y1 : MS) (k q : Int32), T_instance z p1 p2 p3 = some (k, z1) ∧ M_instance y p1 p2 p3 = some (q, y1) ∧ some y1.mo_thrown = some k ∧ (k = 0 → z1.out (0 : Int32).toNatClampNeg = q.toInt64) ∧ II kd z1 y1 := by
  obtain ⟨hz, hy, hj⟩ := hI
  obtain ⟨jk, j1, j2, j3, j4, j5, jL, j6, jO, j7, jI, jP⟩ := hj
  obtain ⟨v, hT, iz⟩ : ∃ v : Int32 × TS, T_instance z p1 p2 p3 = some v ∧ IT v.2 := by
    obtain ⟨x0, x1, x2, x3, x4, x5, x6, hT, iz⟩ := hT_instance z p1 p2 p3 hz
    exact ⟨_, hT, iz⟩
  obtain ⟨u, hM, iy⟩ : ∃ u : Int32 × MS, M_instance y p1 p2 p3 = some u ∧ IM u.2 := by
    obtain ⟨w0, w1, w2, w3, w4, w5, w6, hM, iy⟩ := hM_instance y p1 p2 p3 hy
    exact ⟨_, hM, iy⟩
  have g1 := hT
  have g2 := hM
  unfold T_instance at g1
  unfold M_instance at g2
  obtain ⟨o, e1, f1⟩ := Option.map_eq_some_iff.mp g1
  obtain ⟨m, e2, f2⟩ := Option.map_eq_some_iff.mp g2
  clear g1 g2
  subst f1
  subst f2
  obtain ⟨m_pw, m_ph, m_kd, m_dc, m_n, m_td, m_kp, m_tb, m_ca, m_at, m_rf, m_rm, m_w, m_h, m_sO, m_xs, m_ys, m_W, m_od, m_pg, m_le, m_us, m_row, m_rS, m_rX, m_rY, m_rW⟩ := id hy
  have hd := int_e m_dc
  rw [j1, j5] at e1
  obtain ⟨r1, r2, r3, r4⟩ := inst_TM hd.1 hd.2 jL e1 e2
  exact ⟨_, _, _, _, hT, hM, (show some _ = some _ from congrArg some r1.symm), r2, iz, iy, jk, j1, j2, j3, j4, r3, r4, j6, jO, j7, jI, jP⟩
set_option maxRecDepth 20000 in
set_option maxHeartbeats 1000000 in
theorem st_refine (kd : Int32) (z : TS) (y : MS) (p1 p2 p3 p4 : Int32) (h4 : p4 = 0 ∨ p4 = 1) (hI : II kd z y) : ∃ (z1 : TS) (y1 : MS) (k q : Int32), T_refine z p1 p2 p3 p4 = some (k, z1) ∧ M_refine y p1 p2 p3 p4 = some (q, y1) ∧ some y1.mo_thrown = some k ∧ (k = 0 → z1.out (0 : Int32).toNatClampNeg = (if q = 0 then 0 else 1)) ∧ II kd z1 y1 := by
  obtain ⟨hz, hy, hj⟩ := hI
  obtain ⟨jk, j1, j2, j3, j4, j5, jL, j6, jO, j7, jI, jP⟩ := hj
  obtain ⟨v, hT, iz⟩ : ∃ v : Int32 × TS, T_refine z p1 p2 p3 p4 = some v ∧ IT v.2 := by
    obtain ⟨x0, x1, x2, hT, iz⟩ := hT_refine z p1 p2 p3 p4 hz
    exact ⟨_, hT, iz⟩
  obtain ⟨u, hM, iy⟩ : ∃ u : Int32 × MS, M_refine y p1 p2 p3 p4 = some u ∧ IM u.2 := by
    obtain ⟨w0, w1, w2, hM, iy⟩ := hM_refine y p1 p2 p3 p4 hy
    exact ⟨_, hM, iy⟩
  have g1 := hT
  have g2 := hM
  unfold T_refine at g1
  unfold M_refine at g2
  obtain ⟨o, e1, f1⟩ := Option.map_eq_some_iff.mp g1
  obtain ⟨m, e2, f2⟩ := Option.map_eq_some_iff.mp g2
  clear g1 g2
  subst f1
  subst f2
  obtain ⟨m_pw, m_ph, m_kd, m_dc, m_n, m_td, m_kp, m_tb, m_ca, m_at, m_rf, m_rm, m_w, m_h, m_sO, m_xs, m_ys, m_W, m_od, m_pg, m_le, m_us, m_row, m_rS, m_rX, m_rY, m_rW⟩ := id hy
  rw [j5, j2, j3] at e1
  obtain ⟨r1, r2, r3⟩ := ref_TM m_w m_h h4 jL e1 e2
  exact ⟨_, _, _, _, hT, hM, (show some _ = some _ from congrArg some r1.symm), r2, iz, iy, jk, j1, j2, j3, j4, j5, r3, j6, jO, j7, jI, jP⟩
set_option maxRecDepth 20000 in
set_option maxHeartbeats 1000000 in
theorem st_way (kd : Int32) (z : TS) (y : MS) (p1 p2 : Int32) (hI : II kd z y) : ∃ (z1 : TS) (y1 : MS) (k q : Int32), T_way z p1 p2 = some (k, z1) ∧ M_way y p1 p2 = some (q, y1) ∧ some y1.mo_thrown = some k ∧ (k = 0 → z1.out (0 : Int32).toNatClampNeg = q.toInt64) ∧ II kd z1 y1 := by
  obtain ⟨hz, hy, hj⟩ := hI
  obtain ⟨jk, j1, j2, j3, j4, j5, jL, j6, jO, j7, jI, jP⟩ := hj
  obtain ⟨v, hT, iz⟩ : ∃ v : Int32 × TS, T_way z p1 p2 = some v ∧ IT v.2 := by
    obtain ⟨x0, x1, x2, hT, iz⟩ := hT_way z p1 p2 hz
    exact ⟨_, hT, iz⟩
  obtain ⟨u, hM, iy⟩ : ∃ u : Int32 × MS, M_way y p1 p2 = some u ∧ IM u.2 := by
    obtain ⟨w0, w1, w2, hM, iy⟩ := hM_way y p1 p2 hy
    exact ⟨_, hM, iy⟩
  have g1 := hT
  have g2 := hM
  unfold T_way at g1
  unfold M_way at g2
  obtain ⟨o, e1, f1⟩ := Option.map_eq_some_iff.mp g1
  obtain ⟨m, e2, f2⟩ := Option.map_eq_some_iff.mp g2
  clear g1 g2
  subst f1
  subst f2
  obtain ⟨r1, r2, r3⟩ := way_TM jL.2.2.1 e1 e2
  exact ⟨_, _, _, _, hT, hM, (show some _ = some _ from congrArg some r1.symm), r2, iz, iy, jk, j1, j2, j3, j4, j5, ⟨jL.1, jL.2.1, r3, jL.2.2.2⟩, j6, jO, j7, jI, jP⟩
set_option maxRecDepth 20000 in
set_option maxHeartbeats 1000000 in
theorem st_order_C (z : TS) (y : MS) (p1 : Int32) (hI : II 0 z y) : ∃ (z1 : TS) (y1 : MS) (k q : Int32), T_order_C z p1 = some (k, z1) ∧ M_order y p1 = some (q, y1) ∧ some y1.mo_thrown = some k ∧ (k = 0 → z1.out (0 : Int32).toNatClampNeg = q.toInt64) ∧ II 0 z1 y1 := by
  obtain ⟨hz, hy, hj⟩ := hI
  obtain ⟨jk, j1, j2, j3, j4, j5, jL, j6, jO, j7, jI, jP⟩ := hj
  obtain ⟨v, hT, iz⟩ : ∃ v : Int32 × TS, T_order_C z p1 = some v ∧ IT v.2 := by
    obtain ⟨x0, x1, x2, x3, x4, x5, x6, x7, x8, x9, x10, x11, x12, x13, x14, hT, iz⟩ := hT_order_C z p1 hz
    exact ⟨_, hT, iz⟩
  obtain ⟨u, hM, iy⟩ : ∃ u : Int32 × MS, M_order y p1 = some u ∧ IM u.2 := by
    obtain ⟨w0, w1, w2, w3, w4, w5, w6, w7, w8, w9, w10, w11, w12, w13, w14, w15, hM, iy⟩ := hM_order y p1 hy
    exact ⟨_, hM, iy⟩
  have g1 := hT
  have g2 := hM
  unfold T_order_C at g1
  unfold M_order at g2
  obtain ⟨o, e1, f1⟩ := Option.map_eq_some_iff.mp g1
  obtain ⟨m, e2, f2⟩ := Option.map_eq_some_iff.mp g2
  clear g1 g2
  subst f1
  subst f2
  obtain ⟨t_kd, t_dc, t_pw, t_ph, t_tb, t_cb, t_la, t_sp, t_w, t_h, t_pg, t_kp, t_wc, t_rp, t_rr, t_W, t_sO, t_xs, t_ys, t_sq, s_W, s_sO, s_xs, s_ys, s_sq, t_le9, t_jt, t_row⟩ := id hz
  obtain ⟨m_pw, m_ph, m_kd, m_dc, m_n, m_td, m_kp, m_tb, m_ca, m_at, m_rf, m_rm, m_w, m_h, m_sO, m_xs, m_ys, m_W, m_od, m_pg, m_le, m_us, m_row, m_rS, m_rX, m_rY, m_rW⟩ := id hy
  have hd := int_e m_dc
  rw [jk] at e2
  rw [j5, j1, j3, j2] at e1
  obtain ⟨r1, r2, r3, r4, r5, r6⟩ := ordL_C jL ⟨m_W, m_ys, m_h, m_sO, m_xs, m_w⟩ hd.2 (fun sq a1C a2C leC cdC hsq hsu => by
    obtain ⟨s9, hs9, hr9⟩ := s_Layout_arrange (la_count := z.la_count) t_la t_W t_ys t_sO t_h t_xs t_w t_sq
    rw [j2, j3, j5] at hs9
    have e9 := Option.some.inj (hsq.symm.trans hs9)
    subst e9
    obtain ⟨u9, hu9, hv9⟩ := s_CodeNames_suit (la_count := y.mo_instances) (na_weights := z.na_weights) (na_codes := z.na_codes) m_n t_jt t_sO m_dc t_le9
    have e9 := Option.some.inj (hsu.symm.trans hu9)
    subst e9
    obtain ⟨Rs, hRs, _⟩ := s_Teller_tellAll_C (la_count := y.mo_instances) (tb_bytes := z.tb_bytes) (la_differs := z.la_differs) (na_codes := cdC) m_n t_tb t_W m_dc hv9.2 hr9 t_sO t_xs m_w t_ys m_h (p1 := 0) ⟨by decide, by decide⟩
    exact ⟨Rs, hRs⟩) e1 e2
  exact ⟨_, _, _, _, hT, hM, (show some _ = some _ from congrArg some r1.symm), r2, iz, iy, jk, j1, j2, j3, j4, j5, r6, r3.trans j6, (by
    show RB y.mo_toldBytes _ _
    have q := jO
    rw [← r4, ← r5] at q
    exact q), j7, jI, jP⟩
set_option maxRecDepth 20000 in
set_option maxHeartbeats 1000000 in
theorem st_order_F (z : TS) (y : MS) (p1 : Int32) (hI : II 1 z y) : ∃ (z1 : TS) (y1 : MS) (k q : Int32), T_order_F z p1 = some (k, z1) ∧ M_order y p1 = some (q, y1) ∧ some y1.mo_thrown = some k ∧ (k = 0 → z1.out (0 : Int32).toNatClampNeg = q.toInt64) ∧ II 1 z1 y1 := by
  obtain ⟨hz, hy, hj⟩ := hI
  obtain ⟨jk, j1, j2, j3, j4, j5, jL, j6, jO, j7, jI, jP⟩ := hj
  obtain ⟨v, hT, iz⟩ : ∃ v : Int32 × TS, T_order_F z p1 = some v ∧ IT v.2 := by
    obtain ⟨x0, x1, x2, x3, x4, x5, x6, x7, x8, x9, x10, x11, hT, iz⟩ := hT_order_F z p1 hz
    exact ⟨_, hT, iz⟩
  obtain ⟨u, hM, iy⟩ : ∃ u : Int32 × MS, M_order y p1 = some u ∧ IM u.2 := by
    obtain ⟨w0, w1, w2, w3, w4, w5, w6, w7, w8, w9, w10, w11, w12, w13, w14, w15, hM, iy⟩ := hM_order y p1 hy
    exact ⟨_, hM, iy⟩
  have g1 := hT
  have g2 := hM
  unfold T_order_F at g1
  unfold M_order at g2
  obtain ⟨o, e1, f1⟩ := Option.map_eq_some_iff.mp g1
  obtain ⟨m, e2, f2⟩ := Option.map_eq_some_iff.mp g2
  clear g1 g2
  subst f1
  subst f2
  obtain ⟨t_kd, t_dc, t_pw, t_ph, t_tb, t_cb, t_la, t_sp, t_w, t_h, t_pg, t_kp, t_wc, t_rp, t_rr, t_W, t_sO, t_xs, t_ys, t_sq, s_W, s_sO, s_xs, s_ys, s_sq, t_le9, t_jt, t_row⟩ := id hz
  obtain ⟨m_pw, m_ph, m_kd, m_dc, m_n, m_td, m_kp, m_tb, m_ca, m_at, m_rf, m_rm, m_w, m_h, m_sO, m_xs, m_ys, m_W, m_od, m_pg, m_le, m_us, m_row, m_rS, m_rX, m_rY, m_rW⟩ := id hy
  have hd := int_e m_dc
  rw [jk] at e2
  rw [j5, j1, j3, j2] at e1
  obtain ⟨r1, r2, r3, r4, r5, r6⟩ := ordL_F jL ⟨m_W, m_ys, m_h, m_sO, m_xs, m_w⟩ hd.2 (fun sq hsq => by
    obtain ⟨s9, hs9, hr9⟩ := s_Layout_arrange (la_count := z.la_count) t_la t_W t_ys t_sO t_h t_xs t_w t_sq
    rw [j2, j3, j5] at hs9
    have e9 := Option.some.inj (hsq.symm.trans hs9)
    subst e9
    obtain ⟨Rs, hRs, _⟩ := s_Teller_tellAll_F (la_count := y.mo_instances) (tb_bytes := z.tb_bytes) (la_differs := z.la_differs) m_n t_tb t_W t_row hr9 t_sO t_xs m_dc m_w t_ys m_h (p1 := 0) ⟨by decide, by decide⟩
    exact ⟨Rs, hRs⟩) e1 e2
  exact ⟨_, _, _, _, hT, hM, (show some _ = some _ from congrArg some r1.symm), r2, iz, iy, jk, j1, j2, j3, j4, j5, r6, r3.trans j6, (by
    show RB y.mo_toldBytes _ _
    have q := jO
    rw [← r4, ← r5] at q
    exact q), j7, jI, jP⟩
set_option maxRecDepth 20000 in
set_option maxHeartbeats 1000000 in
theorem st_compose (kd : Int32) (z : TS) (y : MS) (hI : II kd z y) : ∃ (z1 : TS) (y1 : MS) (k q : Int32), T_compose z = some (k, z1) ∧ M_compose y = some (q, y1) ∧ k = q ∧ II kd z1 y1 := by
  obtain ⟨hz, hy, hj⟩ := hI
  obtain ⟨jk, j1, j2, j3, j4, j5, jL, j6, jO, j7, jI, jP⟩ := hj
  obtain ⟨v, hT, iz⟩ : ∃ v : Int32 × TS, T_compose z = some v ∧ IT v.2 := by
    obtain ⟨x0, x1, x2, hT, iz⟩ := hT_compose z hz
    exact ⟨_, hT, iz⟩
  obtain ⟨u, hM, iy⟩ : ∃ u : Int32 × MS, M_compose y = some u ∧ IM u.2 := by
    obtain ⟨w0, w1, w2, w3, hM, iy⟩ := hM_compose y hy
    exact ⟨_, hM, iy⟩
  have g1 := hT
  have g2 := hM
  unfold T_compose at g1
  unfold M_compose at g2
  obtain ⟨o, e1, f1⟩ := Option.map_eq_some_iff.mp g1
  obtain ⟨m, e2, f2⟩ := Option.map_eq_some_iff.mp g2
  clear g1 g2
  subst f1
  subst f2
  obtain ⟨t_kd, t_dc, t_pw, t_ph, t_tb, t_cb, t_la, t_sp, t_w, t_h, t_pg, t_kp, t_wc, t_rp, t_rr, t_W, t_sO, t_xs, t_ys, t_sq, s_W, s_sO, s_xs, s_ys, s_sq, t_le9, t_jt, t_row⟩ := id hz
  obtain ⟨m_pw, m_ph, m_kd, m_dc, m_n, m_td, m_kp, m_tb, m_ca, m_at, m_rf, m_rm, m_w, m_h, m_sO, m_xs, m_ys, m_W, m_od, m_pg, m_le, m_us, m_row, m_rS, m_rX, m_rY, m_rW⟩ := id hy
  obtain ⟨g1, g2, g3⟩ := jP
  rw [j5, j3, j2, g1, g2] at e1
  rw [j2] at j4
  obtain ⟨r1, r2⟩ := comp_TM m_pw m_ph m_w m_h jL j4 (int_e m_dc).2 e1 e2
  exact ⟨_, _, _, _, hT, hM, r1, iz, iy, jk, j1, j2, j3, (by rw [← j2] at j4; exact j4), j5, jL, j6, jO, j7, jI, g1, g2, r2⟩
set_option maxRecDepth 20000 in
set_option maxHeartbeats 1000000 in
theorem st_at (kd : Int32) (z : TS) (y : MS) (p1 p2 : Int32) (hI : II kd z y) : ∃ (z1 : TS) (y1 : MS) (k q : Int32), T_at z p1 p2 = some (k, z1) ∧ M_at y p1 p2 = some (q, y1) ∧ some y1.mo_thrown = some k ∧ (k = 0 → z1.out (0 : Int32).toNatClampNeg = (if q = 0 then 0 else 1)) ∧ II kd z1 y1 := by
  obtain ⟨hz, hy, hj⟩ := hI
  obtain ⟨jk, j1, j2, j3, j4, j5, jL, j6, jO, j7, jI, jP⟩ := hj
  obtain ⟨v, hT, iz⟩ : ∃ v : Int32 × TS, T_at z p1 p2 = some v ∧ IT v.2 := by
    obtain ⟨x0, x1, hT, iz⟩ := hT_at z p1 p2 hz
    exact ⟨_, hT, iz⟩
  obtain ⟨u, hM, iy⟩ : ∃ u : Int32 × MS, M_at y p1 p2 = some u ∧ IM u.2 := by
    obtain ⟨w0, w1, hM, iy⟩ := hM_at y p1 p2 hy
    exact ⟨_, hM, iy⟩
  have g1 := hT
  have g2 := hM
  unfold T_at at g1
  unfold M_at at g2
  obtain ⟨o, e1, f1⟩ := Option.map_eq_some_iff.mp g1
  obtain ⟨m, e2, f2⟩ := Option.map_eq_some_iff.mp g2
  clear g1 g2
  subst f1
  subst f2
  obtain ⟨m_pw, m_ph, m_kd, m_dc, m_n, m_td, m_kp, m_tb, m_ca, m_at, m_rf, m_rm, m_w, m_h, m_sO, m_xs, m_ys, m_W, m_od, m_pg, m_le, m_us, m_row, m_rS, m_rX, m_rY, m_rW⟩ := id hy
  obtain ⟨g1, g2, g3⟩ := jP
  rw [g1, g2] at e1
  obtain ⟨r1, r2⟩ := at_TM m_pw m_ph g3 e1 e2
  exact ⟨_, _, _, _, hT, hM, (show some _ = some _ from congrArg some r1.symm), r2, iz, iy, jk, j1, j2, j3, j4, j5, jL, j6, jO, j7, jI, g1, g2, g3⟩
set_option maxRecDepth 20000 in
set_option maxHeartbeats 1000000 in
theorem st_write_C (z : TS) (y : MS) (hI : II 0 z y) : ∃ (z1 : TS) (y1 : MS) (k q : Int32), T_write_C z = some (k, z1) ∧ M_write y = some (q, y1) ∧ k = q ∧ II 0 z1 y1 := by
  obtain ⟨hz, hy, hj⟩ := hI
  obtain ⟨jk, j1, j2, j3, j4, j5, jL, j6, jO, j7, jI, jP⟩ := hj
  obtain ⟨v, hT, iz⟩ : ∃ v : Int32 × TS, T_write_C z = some v ∧ IT v.2 := by
    obtain ⟨x0, x1, x2, x3, x4, x5, x6, x7, x8, x9, hT, iz⟩ := hT_write_C z hz
    exact ⟨_, hT, iz⟩
  obtain ⟨u, hM, iy⟩ : ∃ u : Int32 × MS, M_write y = some u ∧ IM u.2 := by
    obtain ⟨w0, w1, w2, w3, w4, w5, w6, w7, w8, w9, w10, w11, w12, hM, iy⟩ := hM_write y hy
    exact ⟨_, hM, iy⟩
  have g1 := hT
  have g2 := hM
  unfold T_write_C at g1
  unfold M_write at g2
  obtain ⟨o, e1, f1⟩ := Option.map_eq_some_iff.mp g1
  obtain ⟨m, e2, f2⟩ := Option.map_eq_some_iff.mp g2
  clear g1 g2
  subst f1
  subst f2
  obtain ⟨m_pw, m_ph, m_kd, m_dc, m_n, m_td, m_kp, m_tb, m_ca, m_at, m_rf, m_rm, m_w, m_h, m_sO, m_xs, m_ys, m_W, m_od, m_pg, m_le, m_us, m_row, m_rS, m_rX, m_rY, m_rW⟩ := id hy
  have hd := int_e m_dc
  rw [jk] at e2
  rw [j5, j1, j3, j2] at e1
  obtain ⟨r1, r2, r3⟩ := write_C jL ⟨m_W, m_ys, m_h, m_sO, m_xs, m_w⟩ hd.2 e1 e2
  exact ⟨_, _, _, _, hT, hM, r1, iz, iy, jk, j1, j2, j3, j4, j5, jL, r2, r3, j7, jI, jP⟩
set_option maxRecDepth 20000 in
set_option maxHeartbeats 1000000 in
theorem st_write_F (z : TS) (y : MS) (hI : II 1 z y) : ∃ (z1 : TS) (y1 : MS) (k q : Int32), T_write_F z = some (k, z1) ∧ M_write y = some (q, y1) ∧ k = q ∧ II 1 z1 y1 := by
  obtain ⟨hz, hy, hj⟩ := hI
  obtain ⟨jk, j1, j2, j3, j4, j5, jL, j6, jO, j7, jI, jP⟩ := hj
  obtain ⟨v, hT, iz⟩ : ∃ v : Int32 × TS, T_write_F z = some v ∧ IT v.2 := by
    obtain ⟨x0, x1, x2, x3, x4, x5, x6, hT, iz⟩ := hT_write_F z hz
    exact ⟨_, hT, iz⟩
  obtain ⟨u, hM, iy⟩ : ∃ u : Int32 × MS, M_write y = some u ∧ IM u.2 := by
    obtain ⟨w0, w1, w2, w3, w4, w5, w6, w7, w8, w9, w10, w11, w12, hM, iy⟩ := hM_write y hy
    exact ⟨_, hM, iy⟩
  have g1 := hT
  have g2 := hM
  unfold T_write_F at g1
  unfold M_write at g2
  obtain ⟨o, e1, f1⟩ := Option.map_eq_some_iff.mp g1
  obtain ⟨m, e2, f2⟩ := Option.map_eq_some_iff.mp g2
  clear g1 g2
  subst f1
  subst f2
  obtain ⟨m_pw, m_ph, m_kd, m_dc, m_n, m_td, m_kp, m_tb, m_ca, m_at, m_rf, m_rm, m_w, m_h, m_sO, m_xs, m_ys, m_W, m_od, m_pg, m_le, m_us, m_row, m_rS, m_rX, m_rY, m_rW⟩ := id hy
  have hd := int_e m_dc
  rw [jk] at e2
  rw [j5, j1, j3, j2] at e1
  obtain ⟨r1, r2, r3⟩ := write_F jL ⟨m_W, m_ys, m_h, m_sO, m_xs, m_w⟩ hd.2 e1 e2
  exact ⟨_, _, _, _, hT, hM, r1, iz, iy, jk, j1, j2, j3, j4, j5, jL, r2, r3, j7, jI, jP⟩
set_option maxRecDepth 20000 in
set_option maxHeartbeats 1000000 in
theorem st_byteAt (kd : Int32) (z : TS) (y : MS) (p1 : Int32) (hI : II kd z y) : ∃ (z1 : TS) (y1 : MS) (k q : Int32), T_byteAt z p1 = some (k, z1) ∧ M_byteAt y p1 = some (q, y1) ∧ some y1.mo_thrown = some k ∧ (k = 0 → z1.out (0 : Int32).toNatClampNeg = q.toInt64) ∧ II kd z1 y1 := by
  obtain ⟨hz, hy, hj⟩ := hI
  obtain ⟨jk, j1, j2, j3, j4, j5, jL, j6, jO, j7, jI, jP⟩ := hj
  obtain ⟨v, hT, iz⟩ : ∃ v : Int32 × TS, T_byteAt z p1 = some v ∧ IT v.2 := by
    obtain ⟨x0, x1, hT, iz⟩ := hT_byteAt z p1 hz
    exact ⟨_, hT, iz⟩
  obtain ⟨u, hM, iy⟩ : ∃ u : Int32 × MS, M_byteAt y p1 = some u ∧ IM u.2 := by
    obtain ⟨w0, w1, hM, iy⟩ := hM_byteAt y p1 hy
    exact ⟨_, hM, iy⟩
  have g1 := hT
  have g2 := hM
  unfold T_byteAt at g1
  unfold M_byteAt at g2
  obtain ⟨o, e1, f1⟩ := Option.map_eq_some_iff.mp g1
  obtain ⟨m, e2, f2⟩ := Option.map_eq_some_iff.mp g2
  clear g1 g2
  subst f1
  subst f2
  rw [j6] at e1
  obtain ⟨r1, r2⟩ := byte_TM jO e1 e2
  exact ⟨_, _, _, _, hT, hM, (show some _ = some _ from congrArg some r1.symm), r2, iz, iy, jk, j1, j2, j3, j4, j5, jL, j6, jO, j7, jI, jP⟩
set_option maxRecDepth 20000 in
set_option maxHeartbeats 1000000 in
theorem st_feed (kd : Int32) (z : TS) (y : MS) (p1 : Int32) (hI : II kd z y) : ∃ (z1 : TS) (y1 : MS) (k q : Int32), T_feed z p1 = some (k, z1) ∧ M_feed y p1 = some (q, y1) ∧ some y1.mo_thrown = some k ∧ (k = 0 → z1.out (0 : Int32).toNatClampNeg = q.toInt64) ∧ II kd z1 y1 := by
  obtain ⟨hz, hy, hj⟩ := hI
  obtain ⟨jk, j1, j2, j3, j4, j5, jL, j6, jO, j7, jI, jP⟩ := hj
  obtain ⟨v, hT, iz⟩ : ∃ v : Int32 × TS, T_feed z p1 = some v ∧ IT v.2 := by
    obtain ⟨x0, x1, x2, x3, hT, iz⟩ := hT_feed z p1 hz
    exact ⟨_, hT, iz⟩
  obtain ⟨u, hM, iy⟩ : ∃ u : Int32 × MS, M_feed y p1 = some u ∧ IM u.2 := by
    obtain ⟨w0, w1, w2, w3, hM, iy⟩ := hM_feed y p1 hy
    exact ⟨_, hM, iy⟩
  have g1 := hT
  have g2 := hM
  unfold T_feed at g1
  unfold M_feed at g2
  obtain ⟨o, e1, f1⟩ := Option.map_eq_some_iff.mp g1
  obtain ⟨m, e2, f2⟩ := Option.map_eq_some_iff.mp g2
  clear g1 g2
  subst f1
  subst f2
  rw [j7] at e1
  obtain ⟨r1, r2, r3, r4⟩ := feed_TM jI e1 e2
  exact ⟨_, _, _, _, hT, hM, (show some _ = some _ from congrArg some r1.symm), r2, iz, iy, jk, j1, j2, j3, j4, j5, jL, j6, jO, r3, r4, jP⟩
set_option maxRecDepth 20000 in
set_option maxHeartbeats 1000000 in
theorem st_pass (kd : Int32) (z : TS) (y : MS) (hI : II kd z y) : ∃ (z1 : TS) (y1 : MS) (k q : Int32), T_pass z = some (k, z1) ∧ M_pass y = some (q, y1) ∧ some y1.mo_thrown = some k ∧ (k = 0 → z1.out (0 : Int32).toNatClampNeg = q.toInt64) ∧ II kd z1 y1 := by
  obtain ⟨hz, hy, hj⟩ := hI
  obtain ⟨jk, j1, j2, j3, j4, j5, jL, j6, jO, j7, jI, jP⟩ := hj
  obtain ⟨v, hT, iz⟩ : ∃ v : Int32 × TS, T_pass z = some v ∧ IT v.2 := by
    obtain ⟨x0, x1, x2, x3, hT, iz⟩ := hT_pass z hz
    exact ⟨_, hT, iz⟩
  obtain ⟨u, hM, iy⟩ : ∃ u : Int32 × MS, M_pass y = some u ∧ IM u.2 := by
    obtain ⟨w0, w1, w2, w3, hM, iy⟩ := hM_pass y hy
    exact ⟨_, hM, iy⟩
  have g1 := hT
  have g2 := hM
  unfold T_pass at g1
  unfold M_pass at g2
  obtain ⟨o, e1, f1⟩ := Option.map_eq_some_iff.mp g1
  obtain ⟨m, e2, f2⟩ := Option.map_eq_some_iff.mp g2
  clear g1 g2
  subst f1
  subst f2
  rw [j6, j7] at e1
  obtain ⟨r1, r2, r3, r4⟩ := pass_TM jO jI e1 e2
  exact ⟨_, _, _, _, hT, hM, (show some _ = some _ from congrArg some r1.symm), r2, iz, iy, jk, j1, j2, j3, j4, j5, jL, j6, jO, r3, r4, jP⟩
set_option maxRecDepth 20000 in
set_option maxHeartbeats 1000000 in
theorem st_read_C (z : TS) (y : MS) (hI : II 0 z y) : ∃ (z1 : TS) (y1 : MS) (k : Int32) (sw : Nat) (q : Int32), T_read_C z = some (k, sw, z1) ∧ M_read y = some (q, y1) ∧ k = q ∧ II 0 (if sw = 0 then z1 else z1.swap) y1 := by
  obtain ⟨hz, hy, hj⟩ := hI
  obtain ⟨jk, j1, j2, j3, j4, j5, jL, j6, jO, j7, jI, jP⟩ := hj
  obtain ⟨v, hT, iz⟩ : ∃ v : Int32 × Nat × TS, T_read_C z = some v ∧ IT v.2.2 := by
    obtain ⟨x0, x1, x2, x3, x4, x5, x6, x7, x8, x9, x10, x11, x12, x13, hT, iz⟩ := hT_read_C z hz
    exact ⟨_, hT, iz⟩
  obtain ⟨u, hM, iy⟩ : ∃ u : Int32 × MS, M_read y = some u ∧ IM u.2 := by
    obtain ⟨w0, w1, w2, w3, w4, w5, w6, w7, w8, w9, w10, w11, w12, w13, w14, w15, w16, w17, w18, w19, w20, hM, iy⟩ := hM_read y hy
    exact ⟨_, hM, iy⟩
  have g1 := hT
  have g2 := hM
  unfold T_read_C at g1
  unfold M_read at g2
  obtain ⟨o, e1, f1⟩ := Option.map_eq_some_iff.mp g1
  obtain ⟨m, e2, f2⟩ := Option.map_eq_some_iff.mp g2
  clear g1 g2
  subst f1
  subst f2
  obtain ⟨m_pw, m_ph, m_kd, m_dc, m_n, m_td, m_kp, m_tb, m_ca, m_at, m_rf, m_rm, m_w, m_h, m_sO, m_xs, m_ys, m_W, m_od, m_pg, m_le, m_us, m_row, m_rS, m_rX, m_rY, m_rW⟩ := id hy
  have hd := int_e m_dc
  rw [jk] at e2
  rw [j7, j1, j2, j3] at e1
  rcases read_C jI m_w m_h hd.1 hd.2 e1 e2 with ⟨a, s, cnt, p, r, th, at9, pl, mn, W1, leR, cdR, sO1, xs1, ys1, RW1, row8, le8, cd8, rS1, rX1, rY1, df1, rD1, ea, em⟩ | ⟨s, cnt, p, r, th, at9, pl, mn, W1, leR, cdR, sO1, xs1, ys1, RW1, row8, le8, cd8, rS1, rX1, rY1, S, X, Y, V, df1, rD1, D, ea, em, hL1⟩
  · subst ea
    subst em
    refine ⟨_, _, _, _, _, hT, hM, rfl, ?_⟩
    rw [if_pos rfl]
    exact ⟨iz, iy, jk, j1, j2, j3, j4, j5, jL, j6, jO, rfl, rb_0, jP⟩
  · subst ea
    subst em
    refine ⟨_, _, _, _, _, hT, hM, rfl, ?_⟩
    rw [if_neg (show ¬ (1 : Nat) = 0 by decide)]
    exact ⟨swap_IT iz, iy, jk, j1, j2, j3, j4, rfl, hL1, j6, jO, rfl, rb_0, jP⟩
set_option maxRecDepth 20000 in
set_option maxHeartbeats 1000000 in
theorem st_read_F (z : TS) (y : MS) (hI : II 1 z y) : ∃ (z1 : TS) (y1 : MS) (k : Int32) (sw : Nat) (q : Int32), T_read_F z = some (k, sw, z1) ∧ M_read y = some (q, y1) ∧ k = q ∧ II 1 (if sw = 0 then z1 else z1.swap) y1 := by
  obtain ⟨hz, hy, hj⟩ := hI
  obtain ⟨jk, j1, j2, j3, j4, j5, jL, j6, jO, j7, jI, jP⟩ := hj
  obtain ⟨v, hT, iz⟩ : ∃ v : Int32 × Nat × TS, T_read_F z = some v ∧ IT v.2.2 := by
    obtain ⟨x0, x1, x2, x3, x4, x5, x6, x7, x8, x9, x10, x11, x12, hT, iz⟩ := hT_read_F z hz
    exact ⟨_, hT, iz⟩
  obtain ⟨u, hM, iy⟩ : ∃ u : Int32 × MS, M_read y = some u ∧ IM u.2 := by
    obtain ⟨w0, w1, w2, w3, w4, w5, w6, w7, w8, w9, w10, w11, w12, w13, w14, w15, w16, w17, w18, w19, w20, hM, iy⟩ := hM_read y hy
    exact ⟨_, hM, iy⟩
  have g1 := hT
  have g2 := hM
  unfold T_read_F at g1
  unfold M_read at g2
  obtain ⟨o, e1, f1⟩ := Option.map_eq_some_iff.mp g1
  obtain ⟨m, e2, f2⟩ := Option.map_eq_some_iff.mp g2
  clear g1 g2
  subst f1
  subst f2
  obtain ⟨m_pw, m_ph, m_kd, m_dc, m_n, m_td, m_kp, m_tb, m_ca, m_at, m_rf, m_rm, m_w, m_h, m_sO, m_xs, m_ys, m_W, m_od, m_pg, m_le, m_us, m_row, m_rS, m_rX, m_rY, m_rW⟩ := id hy
  have hd := int_e m_dc
  rw [jk] at e2
  rw [j7, j1, j2, j3] at e1
  rcases read_F jI m_w m_h hd.1 hd.2 e1 e2 with ⟨a, s, cnt, p, r, th, at9, pl, mn, W1, row1, sO1, xs1, ys1, RW1, row8, le8, cd8, rS1, rX1, rY1, df1, rD1, ea, em⟩ | ⟨s, cnt, p, r, th, at9, pl, mn, W1, row1, sO1, xs1, ys1, RW1, row8, le8, cd8, rS1, rX1, rY1, S, X, Y, V, df1, rD1, D, ea, em, hL1⟩
  · subst ea
    subst em
    refine ⟨_, _, _, _, _, hT, hM, rfl, ?_⟩
    rw [if_pos rfl]
    exact ⟨iz, iy, jk, j1, j2, j3, j4, j5, jL, j6, jO, rfl, rb_0, jP⟩
  · subst ea
    subst em
    refine ⟨_, _, _, _, _, hT, hM, rfl, ?_⟩
    rw [if_neg (show ¬ (1 : Nat) = 0 by decide)]
    exact ⟨swap_IT iz, iy, jk, j1, j2, j3, j4, rfl, hL1, j6, jO, rfl, rb_0, jP⟩
set_option maxRecDepth 20000 in
set_option maxHeartbeats 1000000 in
theorem st_place (kd : Int32) (z : TS) (y : MS) (p1 p2 : Int32) (hI : II kd z y) : ∃ (z1 : TS) (y1 : MS) (k q : Int32), T_place z p1 p2 = some (k, z1) ∧ M_place y p1 p2 = some (q, y1) ∧ some y1.mo_thrown = some k ∧ (k = 0 → z1.out (0 : Int32).toNatClampNeg = q.toInt64) ∧ II kd z1 y1 := by
  obtain ⟨hz, hy, hj⟩ := hI
  obtain ⟨jk, j1, j2, j3, j4, j5, jL, j6, jO, j7, jI, jP⟩ := hj
  obtain ⟨v, hT, iz⟩ : ∃ v : Int32 × TS, T_place z p1 p2 = some v ∧ IT v.2 := by
    obtain ⟨x0, x1, hT, iz⟩ := hT_place z p1 p2 hz
    exact ⟨_, hT, iz⟩
  obtain ⟨u, hM, iy⟩ : ∃ u : Int32 × MS, M_place y p1 p2 = some u ∧ IM u.2 := by
    obtain ⟨w0, w1, hM, iy⟩ := hM_place y p1 p2 hy
    exact ⟨_, hM, iy⟩
  have g1 := hT
  have g2 := hM
  unfold T_place at g1
  unfold M_place at g2
  obtain ⟨o, e1, f1⟩ := Option.map_eq_some_iff.mp g1
  obtain ⟨m, e2, f2⟩ := Option.map_eq_some_iff.mp g2
  clear g1 g2
  subst f1
  subst f2
  obtain ⟨m_pw, m_ph, m_kd, m_dc, m_n, m_td, m_kp, m_tb, m_ca, m_at, m_rf, m_rm, m_w, m_h, m_sO, m_xs, m_ys, m_W, m_od, m_pg, m_le, m_us, m_row, m_rS, m_rX, m_rY, m_rW⟩ := id hy
  rw [j5, j2, j3] at e1
  obtain ⟨r1, r2⟩ := place_TM m_w m_h jL e1 e2
  exact ⟨_, _, _, _, hT, hM, (show some _ = some _ from congrArg some r1.symm), r2, iz, iy, jk, j1, j2, j3, j4, j5, jL, j6, jO, j7, jI, jP⟩
set_option maxRecDepth 20000 in
theorem st_told (kd : Int32) (z : TS) (y : MS) (p1 : Int32) (hI : II kd z y) : ∃ (y1 : MS) (k q : Int32), T_told z p1 = some k ∧ M_told y p1 = some (q, y1) ∧ II kd z y1 := by
  obtain ⟨hz, hy, hj⟩ := hI
  obtain ⟨jk, j1, j2, j3, j4, j5, jL, j6, jO, j7, jI, jP⟩ := hj
  obtain ⟨k, hT⟩ := hT_told z p1 hz
  obtain ⟨w0, w1, hM, iy⟩ := hM_told y p1 hy
  exact ⟨_, _, _, hT, hM, hz, iy, jk, j1, j2, j3, j4, j5, jL, j6, jO, j7, jI, jP⟩
set_option maxRecDepth 20000 in
theorem st_clear (kd : Int32) (z : TS) (y : MS) (hI : II kd z y) : ∃ (z1 : TS) (y1 : MS), T_clear z = some z1 ∧ M_clear y = some y1 ∧ II kd z1 y1 := by
  obtain ⟨hz, hy, hj⟩ := hI
  obtain ⟨jk, j1, j2, j3, j4, j5, jL, j6, jO, j7, jI, jP⟩ := hj
  obtain ⟨v, hT, iz⟩ : ∃ v : TS, T_clear z = some v ∧ IT v := by
    obtain ⟨x0, x1, x2, x3, x4, x5, hT, iz⟩ := hT_clear z hz
    exact ⟨_, hT, iz⟩
  obtain ⟨u, hM, iy⟩ : ∃ u : MS, M_clear y = some u ∧ IM u := by
    obtain ⟨w0, w1, w2, w3, w4, w5, w6, w7, hM, iy⟩ := hM_clear y hy
    exact ⟨_, hM, iy⟩
  have g1 := hT
  have g2 := hM
  unfold T_clear at g1
  unfold M_clear at g2
  obtain ⟨o, e1, f1⟩ := Option.map_eq_some_iff.mp g1
  obtain ⟨m, e2, f2⟩ := Option.map_eq_some_iff.mp g2
  clear g1 g2
  subst f1
  subst f2
  obtain ⟨m_pw, m_ph, m_kd, m_dc, m_n, m_td, m_kp, m_tb, m_ca, m_at, m_rf, m_rm, m_w, m_h, m_sO, m_xs, m_ys, m_W, m_od, m_pg, m_le, m_us, m_row, m_rS, m_rX, m_rY, m_rW⟩ := id hy
  obtain ⟨a1, a2, a3, a4, a5, a6⟩ := clrT e1
  obtain ⟨b1, b2, b3, b4, b5, b6⟩ := clrM e2
  refine ⟨_, _, hT, hM, iz, iy, jk, a1.trans b1.symm, j2, j3, j4, a2.trans b2.symm, ?_, a4.trans b3.symm, ?_, a5.trans b4.symm, ?_, ?_⟩
  · show LR m.2.2.1 m.2.1 y.mo_wide y.mo_high o.2.2.1 z.la_symbolOf z.la_xs z.la_ys z.la_differs m.2.2.2.2.2.2.1 y.mo_symbolOf y.mo_xs y.mo_ys y.mo_differs
    rw [b2]
    exact lr_0 (wy_0 a3 b5)
  · show RB m.2.2.2.1 z.tb_bytes y.mo_out
    rw [b3]
    exact rb_0
  · show RB m.2.2.2.2.1 z.cb_bytes y.mo_in
    rw [b4]
    exact rb_0
  · obtain ⟨g1, g2, g3⟩ := jP
    refine ⟨g1, g2, ?_⟩
    rw [g1, g2] at a6
    exact pp_0 m_pw m_ph a6 b6

