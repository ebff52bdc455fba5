theorem tc_clear {w d : Nat → Int32} {n : Nat} {o : Int32 × Int32 × (Nat → Int32) × Int32 × Int32 × (Nat → Int32)} (h : f_Top_clear w n d = some o) : o.1 = 0 := by
  unfold f_Top_clear at h
  obtain ⟨a, _, h⟩ := bd_e h
  obtain ⟨b, _, h⟩ := bd_e h
  have h := Option.some.inj h
  rw [← h]
theorem lp_all {σ ρ : Type} {F : (σ → Option ρ) → σ → Option ρ} (Q : ρ → Prop) (hF : ∀ (self : σ → Option ρ), (∀ s o, self s = some o → Q o) → ∀ s o, F self s = some o → Q o) : ∀ (n : Nat) (s : σ) (o : ρ), lp F n s = some o → Q o := by
  intro n
  induction n with
  | zero => intro s o h; exact absurd h (by simp [lp])
  | succ n ih => intro s o h; exact hF (lp F n) ih s o h
theorem mc_clear {w d : Nat → Int32} {o : Int32 × Int32 × Int32 × Int32 × Int32 × Int32 × (Nat → Int32) × (Nat → Int32)} (h : f_Mo_clear w d = some o) : o.2.1 = 0 := by
  unfold f_Mo_clear at h
  refine lp_all (fun o : Int32 × Int32 × Int32 × Int32 × Int32 × Int32 × (Nat → Int32) × (Nat → Int32) => o.2.1 = 0) ?_ _ _ _ h
  intro self hs s o h
  obtain ⟨v, a⟩ := s
  unfold f_Mo_clear_L32 at h
  dsimp only at h
  by_cases c : (4 : Int32) ≤ v
  · rw [if_pos c] at h
    refine lp_all (fun o : Int32 × Int32 × Int32 × Int32 × Int32 × Int32 × (Nat → Int32) × (Nat → Int32) => o.2.1 = 0) ?_ _ _ _ h
    intro self hs s o h
    obtain ⟨v, b⟩ := s
    unfold f_Mo_clear_L52 at h
    dsimp only at h
    by_cases c : (576 : Int32) ≤ v
    · rw [if_pos c] at h
      have h := Option.some.inj h
      rw [← h]
    · rw [if_neg c] at h
      obtain ⟨_, h⟩ := gq_e h
      exact hs _ _ h
  · rw [if_neg c] at h
    obtain ⟨_, h⟩ := gq_e h
    exact hs _ _ h
theorem sc_add {c : Int32} : c + 1 - 1 = c := by
  have := Int32.add_sub_cancel c 1
  exact this
/-- symbol of the class: which answer, and what changes -/
theorem sy_T (out : Nat → Int64) (c : Int32) (w h : Nat → Int32) (s : Nat → Int64) (p1 p2 : Int32) (hc : 0 ≤ c ∧ c ≤ 16) :
    ((p1 < 1 ∨ 8 < p1 ∨ p2 < 1 ∨ 8 < p2) ∧ f_Law_symbol out c w h s p1 p2 = some (1, out, c, w, h, s)) ∨
    (¬ (p1 < 1 ∨ 8 < p1 ∨ p2 < 1 ∨ 8 < p2) ∧ c = 16 ∧ f_Law_symbol out c w h s p1 p2 = some (2, out, c, w, h, s)) ∨
    (¬ (p1 < 1 ∨ 8 < p1 ∨ p2 < 1 ∨ 8 < p2) ∧ c < 16 ∧ f_Law_symbol out c w h s p1 p2 = some (0, vp_updL out ((0 : Int32)).toNatClampNeg c.toInt64, c + 1, upd w c.toNatClampNeg p1, upd h c.toNatClampNeg p2, vp_updL s c.toNatClampNeg 0)) := by
  by_cases a1 : p1 < 1
  · exact Or.inl ⟨Or.inl a1, by simp [f_Law_symbol, f_Top_symbol, f_Top_isWithin, bd, jn, a1]⟩
  by_cases a2 : 8 < p1
  · exact Or.inl ⟨Or.inr (Or.inl a2), by simp [f_Law_symbol, f_Top_symbol, f_Top_isWithin, bd, jn, a1, a2]⟩
  by_cases a3 : p2 < 1
  · exact Or.inl ⟨Or.inr (Or.inr (Or.inl a3)), by simp [f_Law_symbol, f_Top_symbol, f_Top_isWithin, bd, jn, a1, a2, a3]⟩
  by_cases a4 : 8 < p2
  · exact Or.inl ⟨Or.inr (Or.inr (Or.inr a4)), by simp [f_Law_symbol, f_Top_symbol, f_Top_isWithin, bd, jn, a1, a2, a3, a4]⟩
  have nb : ¬ (p1 < 1 ∨ 8 < p1 ∨ p2 < 1 ∨ 8 < p2) := by
    rintro (q | q | q | q)
    · exact a1 q
    · exact a2 q
    · exact a3 q
    · exact a4 q
  by_cases a5 : c < 16
  · refine Or.inr (Or.inr ⟨nb, a5, ?_⟩)
    have g := in_gq (n := 16) (N := 16) rfl hc.1 a5
    have g0 := in_gq (i := 0) (n := 1) (N := 1) rfl (by decide) (by decide)
    have e : c + 1 - 1 = c := sc_add
    simp only [f_Law_symbol, f_Top_symbol, f_Top_isWithin, f_Dictionary_add, bd, jn, nl, gq, if_neg a1, if_neg a2, if_neg a3, if_neg a4, if_pos a5, if_neg g, if_neg g0, Option.bind_some, e]
    rfl
  · have e : c = 16 := by
      have q := Int32.not_lt.mp a5
      exact Int32.le_antisymm hc.2 q
    exact Or.inr (Or.inl ⟨nb, e, by simp [f_Law_symbol, f_Top_symbol, f_Top_isWithin, bd, jn, a1, a2, a3, a4, a5]⟩)
/-- symbol of the reference -/
theorem sy_M (c : Int32) (w h : Nat → Int32) (s : Nat → Int64) (p1 p2 : Int32) (hc : 0 ≤ c ∧ c ≤ 16) :
    ((p1 < 1 ∨ 8 < p1 ∨ p2 < 1 ∨ 8 < p2) ∧ f_Mo_symbol c w h s p1 p2 = some (0, 1, c, w, h, s)) ∨
    (¬ (p1 < 1 ∨ 8 < p1 ∨ p2 < 1 ∨ 8 < p2) ∧ c = 16 ∧ f_Mo_symbol c w h s p1 p2 = some (0, 2, c, w, h, s)) ∨
    (¬ (p1 < 1 ∨ 8 < p1 ∨ p2 < 1 ∨ 8 < p2) ∧ c < 16 ∧ f_Mo_symbol c w h s p1 p2 = some (c, 0, c + 1, upd w c.toNatClampNeg p1, upd h c.toNatClampNeg p2, vp_updL s c.toNatClampNeg 0)) := by
  by_cases a1 : p1 < 1
  · exact Or.inl ⟨Or.inl a1, by simp [f_Mo_symbol, f_Mo_isIn, bd, jn, a1]⟩
  by_cases a2 : 8 < p1
  · exact Or.inl ⟨Or.inr (Or.inl a2), by simp [f_Mo_symbol, f_Mo_isIn, bd, jn, a1, a2]⟩
  by_cases a3 : p2 < 1
  · exact Or.inl ⟨Or.inr (Or.inr (Or.inl a3)), by simp [f_Mo_symbol, f_Mo_isIn, bd, jn, a1, a2, a3]⟩
  by_cases a4 : 8 < p2
  · exact Or.inl ⟨Or.inr (Or.inr (Or.inr a4)), by simp [f_Mo_symbol, f_Mo_isIn, bd, jn, a1, a2, a3, a4]⟩
  have nb : ¬ (p1 < 1 ∨ 8 < p1 ∨ p2 < 1 ∨ 8 < p2) := by
    rintro (q | q | q | q)
    · exact a1 q
    · exact a2 q
    · exact a3 q
    · exact a4 q
  by_cases a5 : c = 16
  · exact Or.inr (Or.inl ⟨nb, a5, by simp [f_Mo_symbol, f_Mo_isIn, bd, jn, a1, a2, a3, a4, a5]⟩)
  · have a6 : c < 16 := by
      rcases Int32.lt_or_eq_of_le hc.2 with q | q
      · exact q
      · exact absurd q a5
    refine Or.inr (Or.inr ⟨nb, a6, ?_⟩)
    have g := in_gq (n := 16) (N := 16) rfl hc.1 a6
    have e : c + 1 - 1 = c := sc_add
    have z : (0 : Int32) ≤ 0 := by decide
    simp only [f_Mo_symbol, f_Mo_isIn, bd, jn, nl, gq, if_neg a1, if_neg a2, if_neg a3, if_neg a4, if_neg a5, if_neg g, if_pos z, Option.bind_some, e]
    rfl

abbrev II (z : TS) (y : MS) : Prop := IT z ∧ IM y ∧ z.di_count = y.mo_symbols
theorem cmp_self (x : Int64) : lg_cmp x x = 0 := by
  unfold lg_cmp
  rw [if_neg (Int64.lt_irrefl), if_pos rfl]
set_option maxRecDepth 20000 in
theorem st_symbol : ∀ (z : TS) (y : MS) (p1 p2 p3 p4 : Int32), II z y → ∃ (z1 : TS) (y1 : MS) (k : Int32) (q : Int32) (t : Int32), T_symbol z p1 p2 = some (k, z1) ∧ M_symbol y p1 p2 = some (q, y1) ∧ M_thrown y1  = some t ∧ (t = k → k = 0 → ¬ (lg_cmp (z1.out (0 : Int32).toNatClampNeg) q.toInt64) = 0 → False) ∧ (¬ t = k → False) ∧ II z1 y1 := by
  intro z y p1 p2 p3 p4 hI
  obtain ⟨hz, hy, hj⟩ := hI
  obtain ⟨k, z1, hT, iz⟩ := gT_symbol z p1 p2 hz
  obtain ⟨q, y1, hM, iy⟩ := gM_symbol y p1 p2 hy
  refine ⟨z1, y1, k, q, y1.mo_thrown, hT, hM, rfl, ?_⟩
  have hc := hz.2.1
  have hs := hy.2.2.2.1
  unfold T_symbol at hT
  unfold M_symbol at hM
  rcases sy_T z.out z.di_count z.di_widths z.di_heights z.di_samples p1 p2 hc with ⟨b, e⟩ | ⟨b, c, e⟩ | ⟨b, c, e⟩ <;> rcases sy_M y.mo_symbols y.mo_wide y.mo_high y.mo_dark p1 p2 hs with ⟨b9, e9⟩ | ⟨b9, c9, e9⟩ | ⟨b9, c9, e9⟩
  · rw [e] at hT
    rw [e9] at hM
    obtain ⟨a1, a2⟩ := Prod.mk.inj (Option.some.inj hT)
    obtain ⟨a3, a4⟩ := Prod.mk.inj (Option.some.inj hM)
    subst a1
    subst a2
    subst a3
    subst a4
    exact ⟨fun _ h => absurd (show (1 : Int32) = 0 from h) (by decide), fun h => h rfl, iz, iy, hj⟩
  · exact absurd b b9
  · exact absurd b b9
  · exact absurd b9 b
  · rw [e] at hT
    rw [e9] at hM
    obtain ⟨a1, a2⟩ := Prod.mk.inj (Option.some.inj hT)
    obtain ⟨a3, a4⟩ := Prod.mk.inj (Option.some.inj hM)
    subst a1
    subst a2
    subst a3
    subst a4
    exact ⟨fun _ h => absurd (show (2 : Int32) = 0 from h) (by decide), fun h => h rfl, iz, iy, hj⟩
  · rw [← hj, c] at c9
    exact absurd c9 (by decide)
  · exact absurd b9 b
  · rw [hj, c9] at c
    exact absurd c (by decide)
  · rw [e] at hT
    rw [e9] at hM
    obtain ⟨a1, a2⟩ := Prod.mk.inj (Option.some.inj hT)
    obtain ⟨a3, a4⟩ := Prod.mk.inj (Option.some.inj hM)
    subst a1
    subst a2
    subst a3
    subst a4
    refine ⟨fun _ _ h => h ?_, fun h => h rfl, iz, iy, ?_⟩
    · show lg_cmp (vp_updL z.out ((0 : Int32)).toNatClampNeg z.di_count.toInt64 (0 : Int32).toNatClampNeg) y.mo_symbols.toInt64 = 0
      rw [← hj]
      unfold vp_updL
      rw [if_pos rfl]
      exact cmp_self _
    · show z.di_count + 1 = y.mo_symbols + 1
      rw [hj]
set_option maxRecDepth 20000 in
theorem st_clear : ∀ (z : TS) (y : MS) (p1 p2 p3 p4 : Int32), II z y → ∃ (z1 : TS) (y1 : MS), T_clear z  = some z1 ∧ M_clear y  = some y1 ∧ II z1 y1 := by
  intro z y p1 p2 p3 p4 hI
  obtain ⟨hz, hy, hj⟩ := hI
  obtain ⟨z1, hT, iz⟩ := gT_clear z hz
  obtain ⟨y1, hM, iy⟩ := gM_clear y hy
  refine ⟨z1, y1, hT, hM, iz, iy, ?_⟩
  unfold T_clear at hT
  unfold M_clear at hM
  obtain ⟨o1, e1, f1⟩ := Option.map_eq_some_iff.mp hT
  obtain ⟨o2, e2, f2⟩ := Option.map_eq_some_iff.mp hM
  have g1 := tc_clear e1
  have g2 := mc_clear e2
  subst f1
  subst f2
  show o1.1 = o2.2.1
  rw [g1, g2]

set_option maxRecDepth 20000 in
theorem stepsC : StepsC II := ⟨st_symbol, (fun z y p1 p2 p3 p4 hI => by
    obtain ⟨hz, hy, hj⟩ := hI
    obtain ⟨k, z1, hT, iz, fz⟩ := gT_put z p1 p2 p3 (if p4 = 0 then (0 : Int32) else 1) hz
    obtain ⟨q, y1, hM, iy, fy⟩ := gM_put y p1 p2 p3 (if p4 = 0 then (0 : Int32) else 1) hy
    exact ⟨z1, y1, k, q, hT, hM, ⟨iz, iy, (by rw [fz, fy]; exact hj)⟩⟩), (fun z y p1 p2 p3 p4 hI => by
    obtain ⟨hz, hy, hj⟩ := hI
    obtain ⟨k, z1, hT, iz, fz⟩ := gT_instance z p1 p2 p3 hz
    obtain ⟨q, y1, hM, iy, fy⟩ := gM_instance y p1 p2 p3 hy
    exact ⟨z1, y1, k, q, hT, hM, ⟨iz, iy, (by rw [fz, fy]; exact hj)⟩⟩), (fun z y p1 p2 p3 p4 hI => by
    obtain ⟨hz, hy, hj⟩ := hI
    obtain ⟨k, z1, hT, iz, fz⟩ := gT_refine z p1 p2 p3 (if p4 = 0 then (0 : Int32) else 1) hz
    obtain ⟨q, y1, hM, iy, fy⟩ := gM_refine y p1 p2 p3 (if p4 = 0 then (0 : Int32) else 1) hy
    exact ⟨z1, y1, k, q, hT, hM, ⟨iz, iy, (by rw [fz, fy]; exact hj)⟩⟩), (fun z y p1 p2 p3 p4 hI => by
    obtain ⟨hz, hy, hj⟩ := hI
    obtain ⟨k, z1, hT, iz, fz⟩ := gT_way z p1 p2 hz
    obtain ⟨q, y1, hM, iy, fy⟩ := gM_way y p1 p2 hy
    exact ⟨z1, y1, k, q, hT, hM, ⟨iz, iy, (by rw [fz, fy]; exact hj)⟩⟩), (fun z y p1 p2 p3 p4 hI => by
    obtain ⟨hz, hy, hj⟩ := hI
    obtain ⟨k, z1, hT, iz, fz⟩ := gT_order_C z p1 hz
    obtain ⟨q, y1, hM, iy, fy⟩ := gM_order y p1 hy
    exact ⟨z1, y1, k, q, hT, hM, ⟨iz, iy, (by rw [fz, fy]; exact hj)⟩⟩), (fun z y p1 p2 p3 p4 hI => by
    obtain ⟨hz, hy, hj⟩ := hI
    obtain ⟨k, z1, hT, iz, fz⟩ := gT_compose z  hz
    obtain ⟨q, y1, hM, iy, fy⟩ := gM_compose y  hy
    exact ⟨z1, y1, k, q, hT, hM, ⟨iz, iy, (by rw [fz, fy]; exact hj)⟩⟩), (fun z y p1 p2 p3 p4 hI => by
    obtain ⟨hz, hy, hj⟩ := hI
    obtain ⟨k, z1, hT, iz, fz⟩ := gT_at z p1 p2 hz
    obtain ⟨q, y1, hM, iy, fy⟩ := gM_at y p1 p2 hy
    exact ⟨z1, y1, k, q, hT, hM, ⟨iz, iy, (by rw [fz, fy]; exact hj)⟩⟩), (fun z y p1 p2 p3 p4 hI => by
    obtain ⟨hz, hy, hj⟩ := hI
    obtain ⟨k, z1, hT, iz, fz⟩ := gT_write_C z  hz
    obtain ⟨q, y1, hM, iy, fy⟩ := gM_write y  hy
    exact ⟨z1, y1, k, q, hT, hM, ⟨iz, iy, (by rw [fz, fy]; exact hj)⟩⟩), (fun z y p1 p2 p3 p4 hI => by
    obtain ⟨hz, hy, hj⟩ := hI
    obtain ⟨k, z1, hT, iz, fz⟩ := gT_byteAt z p1 hz
    obtain ⟨q, y1, hM, iy, fy⟩ := gM_byteAt y p1 hy
    exact ⟨z1, y1, k, q, hT, hM, ⟨iz, iy, (by rw [fz, fy]; exact hj)⟩⟩), (fun z y p1 p2 p3 p4 hI => by
    obtain ⟨hz, hy, hj⟩ := hI
    obtain ⟨k, z1, hT, iz, fz⟩ := gT_feed z p1 hz
    obtain ⟨q, y1, hM, iy, fy⟩ := gM_feed y p1 hy
    exact ⟨z1, y1, k, q, hT, hM, ⟨iz, iy, (by rw [fz, fy]; exact hj)⟩⟩), (fun z y p1 p2 p3 p4 hI => by
    obtain ⟨hz, hy, hj⟩ := hI
    obtain ⟨k, z1, hT, iz, fz⟩ := gT_pass z  hz
    obtain ⟨q, y1, hM, iy, fy⟩ := gM_pass y  hy
    exact ⟨z1, y1, k, q, hT, hM, ⟨iz, iy, (by rw [fz, fy]; exact hj)⟩⟩), (fun z y p1 p2 p3 p4 hI => by
    obtain ⟨hz, hy, hj⟩ := hI
    obtain ⟨k, sw, z1, hT, iz, fz⟩ := gT_read_C z  hz
    obtain ⟨q, y1, hM, iy, fy⟩ := gM_read y  hy
    exact ⟨z1, y1, k, sw, q, hT, hM, by
      by_cases c : sw = 0
      · rw [if_pos c]; exact ⟨iz, iy, by rw [fz, fy]; exact hj⟩
      · rw [if_neg c]; exact ⟨swap_IT iz, iy, by show z1.di_count = _; rw [fz, fy]; exact hj⟩⟩), (fun z y p1 p2 p3 p4 hI => by
    obtain ⟨hz, hy, hj⟩ := hI
    obtain ⟨k, z1, hT, iz, fz⟩ := gT_place z p1 p2 hz
    obtain ⟨q, y1, hM, iy, fy⟩ := gM_place y p1 p2 hy
    exact ⟨z1, y1, k, q, hT, hM, ⟨iz, iy, (by rw [fz, fy]; exact hj)⟩⟩), (fun z y p1 p2 p3 p4 hI => by
    obtain ⟨hz, hy, hj⟩ := hI
    obtain ⟨k, hT⟩ := gT_told z p1 hz
    obtain ⟨q, y1, hM, iy, fy⟩ := gM_told y p1 hy
    exact ⟨y1, k, q, hT, hM, ⟨hz, iy, (by rw [fy]; exact hj)⟩⟩), st_clear⟩
set_option maxRecDepth 20000 in
theorem stepsF : StepsF II := ⟨st_symbol, (fun z y p1 p2 p3 p4 hI => by
    obtain ⟨hz, hy, hj⟩ := hI
    obtain ⟨k, z1, hT, iz, fz⟩ := gT_put z p1 p2 p3 (if p4 = 0 then (0 : Int32) else 1) hz
    obtain ⟨q, y1, hM, iy, fy⟩ := gM_put y p1 p2 p3 (if p4 = 0 then (0 : Int32) else 1) hy
    exact ⟨z1, y1, k, q, hT, hM, ⟨iz, iy, (by rw [fz, fy]; exact hj)⟩⟩), (fun z y p1 p2 p3 p4 hI => by
    obtain ⟨hz, hy, hj⟩ := hI
    obtain ⟨k, z1, hT, iz, fz⟩ := gT_instance z p1 p2 p3 hz
    obtain ⟨q, y1, hM, iy, fy⟩ := gM_instance y p1 p2 p3 hy
    exact ⟨z1, y1, k, q, hT, hM, ⟨iz, iy, (by rw [fz, fy]; exact hj)⟩⟩), (fun z y p1 p2 p3 p4 hI => by
    obtain ⟨hz, hy, hj⟩ := hI
    obtain ⟨k, z1, hT, iz, fz⟩ := gT_refine z p1 p2 p3 (if p4 = 0 then (0 : Int32) else 1) hz
    obtain ⟨q, y1, hM, iy, fy⟩ := gM_refine y p1 p2 p3 (if p4 = 0 then (0 : Int32) else 1) hy
    exact ⟨z1, y1, k, q, hT, hM, ⟨iz, iy, (by rw [fz, fy]; exact hj)⟩⟩), (fun z y p1 p2 p3 p4 hI => by
    obtain ⟨hz, hy, hj⟩ := hI
    obtain ⟨k, z1, hT, iz, fz⟩ := gT_way z p1 p2 hz
    obtain ⟨q, y1, hM, iy, fy⟩ := gM_way y p1 p2 hy
    exact ⟨z1, y1, k, q, hT, hM, ⟨iz, iy, (by rw [fz, fy]; exact hj)⟩⟩), (fun z y p1 p2 p3 p4 hI => by
    obtain ⟨hz, hy, hj⟩ := hI
    obtain ⟨k, z1, hT, iz, fz⟩ := gT_order_F z p1 hz
    obtain ⟨q, y1, hM, iy, fy⟩ := gM_order y p1 hy
    exact ⟨z1, y1, k, q, hT, hM, ⟨iz, iy, (by rw [fz, fy]; exact hj)⟩⟩), (fun z y p1 p2 p3 p4 hI => by
    obtain ⟨hz, hy, hj⟩ := hI
    obtain ⟨k, z1, hT, iz, fz⟩ := gT_compose z  hz
    obtain ⟨q, y1, hM, iy, fy⟩ := gM_compose y  hy
    exact ⟨z1, y1, k, q, hT, hM, ⟨iz, iy, (by rw [fz, fy]; exact hj)⟩⟩), (fun z y p1 p2 p3 p4 hI => by
    obtain ⟨hz, hy, hj⟩ := hI
    obtain ⟨k, z1, hT, iz, fz⟩ := gT_at z p1 p2 hz
    obtain ⟨q, y1, hM, iy, fy⟩ := gM_at y p1 p2 hy
    exact ⟨z1, y1, k, q, hT, hM, ⟨iz, iy, (by rw [fz, fy]; exact hj)⟩⟩), (fun z y p1 p2 p3 p4 hI => by
    obtain ⟨hz, hy, hj⟩ := hI
    obtain ⟨k, z1, hT, iz, fz⟩ := gT_write_F z  hz
    obtain ⟨q, y1, hM, iy, fy⟩ := gM_write y  hy
    exact ⟨z1, y1, k, q, hT, hM, ⟨iz, iy, (by rw [fz, fy]; exact hj)⟩⟩), (fun z y p1 p2 p3 p4 hI => by
    obtain ⟨hz, hy, hj⟩ := hI
    obtain ⟨k, z1, hT, iz, fz⟩ := gT_byteAt z p1 hz
    obtain ⟨q, y1, hM, iy, fy⟩ := gM_byteAt y p1 hy
    exact ⟨z1, y1, k, q, hT, hM, ⟨iz, iy, (by rw [fz, fy]; exact hj)⟩⟩), (fun z y p1 p2 p3 p4 hI => by
    obtain ⟨hz, hy, hj⟩ := hI
    obtain ⟨k, z1, hT, iz, fz⟩ := gT_feed z p1 hz
    obtain ⟨q, y1, hM, iy, fy⟩ := gM_feed y p1 hy
    exact ⟨z1, y1, k, q, hT, hM, ⟨iz, iy, (by rw [fz, fy]; exact hj)⟩⟩), (fun z y p1 p2 p3 p4 hI => by
    obtain ⟨hz, hy, hj⟩ := hI
    obtain ⟨k, z1, hT, iz, fz⟩ := gT_pass z  hz
    obtain ⟨q, y1, hM, iy, fy⟩ := gM_pass y  hy
    exact ⟨z1, y1, k, q, hT, hM, ⟨iz, iy, (by rw [fz, fy]; exact hj)⟩⟩), (fun z y p1 p2 p3 p4 hI => by
    obtain ⟨hz, hy, hj⟩ := hI
    obtain ⟨k, sw, z1, hT, iz, fz⟩ := gT_read_F z  hz
    obtain ⟨q, y1, hM, iy, fy⟩ := gM_read y  hy
    exact ⟨z1, y1, k, sw, q, hT, hM, by
      by_cases c : sw = 0
      · rw [if_pos c]; exact ⟨iz, iy, by rw [fz, fy]; exact hj⟩
      · rw [if_neg c]; exact ⟨swap_IT iz, iy, by show z1.di_count = _; rw [fz, fy]; exact hj⟩⟩), (fun z y p1 p2 p3 p4 hI => by
    obtain ⟨hz, hy, hj⟩ := hI
    obtain ⟨k, z1, hT, iz, fz⟩ := gT_place z p1 p2 hz
    obtain ⟨q, y1, hM, iy, fy⟩ := gM_place y p1 p2 hy
    exact ⟨z1, y1, k, q, hT, hM, ⟨iz, iy, (by rw [fz, fy]; exact hj)⟩⟩), (fun z y p1 p2 p3 p4 hI => by
    obtain ⟨hz, hy, hj⟩ := hI
    obtain ⟨k, hT⟩ := gT_told z p1 hz
    obtain ⟨q, y1, hM, iy, fy⟩ := gM_told y p1 hy
    exact ⟨y1, k, q, hT, hM, ⟨hz, iy, (by rw [fy]; exact hj)⟩⟩), st_clear⟩
