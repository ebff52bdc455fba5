set_option maxHeartbeats 4000000 in
set_option maxRecDepth 100000 in
theorem c_Mo_thrown (l : Launch) (dC : Nat → ClassId) (dI : Nat → Nat → Nat) (h_mo : Nat) (u_mo_width : Value) (u_mo_height : Value) (u_mo_kind : Value) (u_mo_symbols : Value) (u_mo_wide : Value) (u_mo_high : Value) (u_mo_dark : Value) (u_mo_instances : Value) (u_mo_symbolOf : Value) (u_mo_xs : Value) (u_mo_ys : Value) (u_mo_differs : Value) (u_mo_ways : Value) (u_mo_ordered : Value) (u_mo_page : Value) (u_mo_told : Value) (u_mo_keeps : Value) (u_mo_toldBytes : Value) (u_mo_out : Value) (u_mo_counts : Value) (u_mo_lengths : Value) (u_mo_codes : Value) (u_mo_weight : Value) (u_mo_over : Value) (u_mo_used : Value) (u_mo_row : Value) (u_mo_came : Value) (u_mo_in : Value) (u_mo_at : Value) (u_mo_refused : Value) (u_mo_place : Value) (u_mo_readMany : Value) (u_mo_readSymbol : Value) (u_mo_readX : Value) (u_mo_readY : Value) (u_mo_readDiffers : Value) (u_mo_readWays : Value) (mo_thrown : Int32) (o : Int32) (hf : f_Mo_thrown mo_thrown = some o) :
    Met l y_Mo_thrown ws_Mo_thrown { frames := 0, cells := 0, slots := 0, locals := 0 } (va_Pc [.ref h_mo] (PcP (dC, dI) [(h_mo, .inr (1, [.int mo_thrown, u_mo_width, u_mo_height, u_mo_kind, u_mo_symbols, u_mo_wide, u_mo_high, u_mo_dark, u_mo_instances, u_mo_symbolOf, u_mo_xs, u_mo_ys, u_mo_differs, u_mo_ways, u_mo_ordered, u_mo_page, u_mo_told, u_mo_keeps, u_mo_toldBytes, u_mo_out, u_mo_counts, u_mo_lengths, u_mo_codes, u_mo_weight, u_mo_over, u_mo_used, u_mo_row, u_mo_came, u_mo_in, u_mo_at, u_mo_refused, u_mo_place, u_mo_readMany, u_mo_readSymbol, u_mo_readX, u_mo_readY, u_mo_readDiffers, u_mo_readWays]))] []))
      (vp_Si (fun r => r = o)) 0 0 (fun _ => False) := by
  refine Met.ofW (cc := b_Mo_thrown) (maxL := 1) (ret := (some .int)) (by decide) rfl ?_
  intro p e s m args below meth c s₁ B hml hv
  obtain ⟨rfl, hP, hK, hnw⟩ := hv
  have hx := B.exec
  have hb := B.bytes
  have hr := B.returns
  have hts := atoms_spec (ws := ws_Mo_thrown) B.pre
  have hB : ∀ w ∈ BIG, w.before _ s = true := fun w h => hts w (List.mem_cons_of_mem _ h)
  have hown : s.vm.findClass R_Mo = some m.cls := findClass_of_methodNamed B.named
  have hlocks := B.notSynchronized
  refine W_Q (fun Q9 eQ => ?_)
  have hl := lv_entry ([.ref h_mo]) (n := 1) (Nat.le_of_ble_eq_true rfl)
  rw [lg_entry_eq]
  generalize (lg_sl ([.ref h_mo]) ++ List.replicate (1 - (lg_sl ([.ref h_mo])).length) Slot.unset).toArray = ls at hl ⊢
  have hl : lv_has ls 1 [(0, .ref h_mo)] := hl
  have h := hf
  unfold f_Mo_thrown at h
  refine lv_aload_n hx hb d_Mo_thrown_0 rfl (lv_at hl 0 rfl) ?_
  refine va_get (D := (dC, dI)) (ci := 1) (v := .int mo_thrown) (C := R_Mo) (T := T_Mo) (N := 38) hx hb hB iw_Mo hown hK hP 0 rfl rfl 0 (by decide) (hB _ bw_873) (fun _ h9 => h9) rfl d_Mo_thrown_1 ?_
  subst eQ
  exact W.iret (v := mo_thrown) hx hb hr (fun t ht hW => ⟨_, rfl, Option.some.inj h, ht⟩) (fun _ h9 => absurd h9 List.not_mem_nil) d_Mo_thrown_4
set_option maxHeartbeats 4000000 in
set_option maxRecDepth 100000 in
theorem c_Mo_within (l : Launch) (dC : Nat → ClassId) (dI : Nat → Nat → Nat) (p0 : Int32) (p1 : Int32) (p2 : Int32) (o : Int32) (hf : f_Mo_within p0 p1 p2 = some o) :
    Met l y_Mo_within ws_Mo_within { frames := 0, cells := 0, slots := 0, locals := 0 } (va_Pc [.int p0, .int p1, .int p2] (PcP (dC, dI) [] []))
      (vp_Si (fun r => r = o)) 0 0 (fun _ => False) := by
  refine Met.ofW (cc := b_Mo_within) (maxL := 3) (ret := (some .int)) (by decide) rfl ?_
  intro p e s m args below meth c s₁ B hml hv
  obtain ⟨rfl, hP, hK, hnw⟩ := hv
  have hx := B.exec
  have hb := B.bytes
  have hr := B.returns
  have hts := atoms_spec (ws := ws_Mo_within) B.pre
  have hB : ∀ w ∈ BIG, w.before _ s = true := fun w h => hts w (List.mem_cons_of_mem _ h)
  have hown : s.vm.findClass R_Mo = some m.cls := findClass_of_methodNamed B.named
  have hlocks := B.notSynchronized
  refine W_Q (fun Q9 eQ => ?_)
  have hl := lv_entry ([.int p0, .int p1, .int p2]) (n := 3) (Nat.le_of_ble_eq_true rfl)
  rw [lg_entry_eq]
  generalize (lg_sl ([.int p0, .int p1, .int p2]) ++ List.replicate (3 - (lg_sl ([.int p0, .int p1, .int p2])).length) Slot.unset).toArray = ls at hl ⊢
  have hl : lv_has ls 3 [(0, .int p0), (1, .int p1), (2, .int p2)] := hl
  have h := hf
  unfold f_Mo_within at h
  refine lv_iload_n hx hb d_Mo_within_0 rfl (lv_at hl 0 rfl) ?_
  refine lv_iload_n hx hb d_Mo_within_1 rfl (lv_at hl 1 rfl) ?_
  refine lv_icmp_ge (tgt := 9) hx hb d_Mo_within_2 (by decide) (fun c_1 => ?_) (fun c_1 => ?_)
  · have h := if_t h c_1
    refine lv_iload_n hx hb d_Mo_within_9 rfl (lv_at hl 0 rfl) ?_
    refine lv_iload_n hx hb d_Mo_within_10 rfl (lv_at hl 2 rfl) ?_
    refine lv_icmp_le (tgt := 18) hx hb d_Mo_within_11 (by decide) (fun c_2 => ?_) (fun c_2 => ?_)
    · have h := if_t h c_2
      refine lv_iload_n hx hb d_Mo_within_18 rfl (lv_at hl 0 rfl) ?_
      subst eQ
      exact W.iret (v := p0) hx hb hr (fun t ht hW => ⟨_, rfl, Option.some.inj h, ht⟩) (fun _ h9 => absurd h9 List.not_mem_nil) d_Mo_within_19
    · have h := if_f h c_2
      refine lv_iload_n hx hb d_Mo_within_14 rfl (lv_at hl 2 rfl) ?_
      refine lv_goto (tgt := 19) hx hb d_Mo_within_15 (by decide) ?_
      subst eQ
      exact W.iret (v := p2) hx hb hr (fun t ht hW => ⟨_, rfl, Option.some.inj h, ht⟩) (fun _ h9 => absurd h9 List.not_mem_nil) d_Mo_within_19
  · have h := if_f h c_1
    refine lv_iload_n hx hb d_Mo_within_5 rfl (lv_at hl 1 rfl) ?_
    refine lv_goto (tgt := 19) hx hb d_Mo_within_6 (by decide) ?_
    subst eQ
    exact W.iret (v := p1) hx hb hr (fun t ht hW => ⟨_, rfl, Option.some.inj h, ht⟩) (fun _ h9 => absurd h9 List.not_mem_nil) d_Mo_within_19
set_option maxHeartbeats 4000000 in
set_option maxRecDepth 100000 in
theorem c_Mo_isIn (l : Launch) (dC : Nat → ClassId) (dI : Nat → Nat → Nat) (p0 : Int32) (p1 : Int32) (p2 : Int32) (o : Int32) (hf : f_Mo_isIn p0 p1 p2 = some o) :
    Met l y_Mo_isIn ws_Mo_isIn { frames := 0, cells := 0, slots := 0, locals := 0 } (va_Pc [.int p0, .int p1, .int p2] (PcP (dC, dI) [] []))
      (vp_Si (fun r => r = o)) 0 0 (fun _ => False) := by
  refine Met.ofW (cc := b_Mo_isIn) (maxL := 3) (ret := (some .boolean)) (by decide) rfl ?_
  intro p e s m args below meth c s₁ B hml hv
  obtain ⟨rfl, hP, hK, hnw⟩ := hv
  have hx := B.exec
  have hb := B.bytes
  have hr := B.returns
  have hts := atoms_spec (ws := ws_Mo_isIn) B.pre
  have hB : ∀ w ∈ BIG, w.before _ s = true := fun w h => hts w (List.mem_cons_of_mem _ h)
  have hown : s.vm.findClass R_Mo = some m.cls := findClass_of_methodNamed B.named
  have hlocks := B.notSynchronized
  refine W_Q (fun Q9 eQ => ?_)
  have hl := lv_entry ([.int p0, .int p1, .int p2]) (n := 3) (Nat.le_of_ble_eq_true rfl)
  rw [lg_entry_eq]
  generalize (lg_sl ([.int p0, .int p1, .int p2]) ++ List.replicate (3 - (lg_sl ([.int p0, .int p1, .int p2])).length) Slot.unset).toArray = ls at hl ⊢
  have hl : lv_has ls 3 [(0, .int p0), (1, .int p1), (2, .int p2)] := hl
  have h := hf
  unfold f_Mo_isIn at h
  refine lv_iload_n hx hb d_Mo_isIn_0 rfl (lv_at hl 0 rfl) ?_
  refine lv_iload_n hx hb d_Mo_isIn_1 rfl (lv_at hl 1 rfl) ?_
  refine lv_icmp_lt (tgt := 14) hx hb d_Mo_isIn_2 (by decide) (fun c_1 => ?_) (fun c_1 => ?_)
  · have h := if_t h c_1
    refine lv_iconst (v := 0) hx hb d_Mo_isIn_14 (by decide) ?_
    subst eQ
    exact W.zret (v := (0 : Int32)) hx hb hr rfl (fun t ht hW => ⟨_, rfl, Option.some.inj h, ht⟩) (fun _ h9 => absurd h9 List.not_mem_nil) d_Mo_isIn_15
  · have h := if_f h c_1
    refine lv_iload_n hx hb d_Mo_isIn_5 rfl (lv_at hl 0 rfl) ?_
    refine lv_iload_n hx hb d_Mo_isIn_6 rfl (lv_at hl 2 rfl) ?_
    refine lv_icmp_gt (tgt := 14) hx hb d_Mo_isIn_7 (by decide) (fun c_2 => ?_) (fun c_2 => ?_)
    · have h := if_t h c_2
      refine lv_iconst (v := 0) hx hb d_Mo_isIn_14 (by decide) ?_
      subst eQ
      exact W.zret (v := (0 : Int32)) hx hb hr rfl (fun t ht hW => ⟨_, rfl, Option.some.inj h, ht⟩) (fun _ h9 => absurd h9 List.not_mem_nil) d_Mo_isIn_15
    · have h := if_f h c_2
      refine lv_iconst (v := 1) hx hb d_Mo_isIn_10 (by decide) ?_
      refine lv_goto (tgt := 15) hx hb d_Mo_isIn_11 (by decide) ?_
      subst eQ
      exact W.zret (v := (1 : Int32)) hx hb hr rfl (fun t ht hW => ⟨_, rfl, Option.some.inj h, ht⟩) (fun _ h9 => absurd h9 List.not_mem_nil) d_Mo_isIn_15
set_option maxHeartbeats 4000000 in
set_option maxRecDepth 100000 in
theorem c_Mo_symbol (l : Launch) (dC : Nat → ClassId) (dI : Nat → Nat → Nat) (h_mo : Nat) (h_mo_wide : Nat) (h_mo_high : Nat) (h_mo_dark : Nat) (c_mo_wide : ClassId) (c_mo_high : ClassId) (c_mo_dark : ClassId) (u_mo_width : Value) (u_mo_height : Value) (u_mo_kind : Value) (u_mo_instances : Value) (u_mo_symbolOf : Value) (u_mo_xs : Value) (u_mo_ys : Value) (u_mo_differs : Value) (u_mo_ways : Value) (u_mo_ordered : Value) (u_mo_page : Value) (u_mo_told : Value) (u_mo_keeps : Value) (u_mo_toldBytes : Value) (u_mo_out : Value) (u_mo_counts : Value) (u_mo_lengths : Value) (u_mo_codes : Value) (u_mo_weight : Value) (u_mo_over : Value) (u_mo_used : Value) (u_mo_row : Value) (u_mo_came : Value) (u_mo_in : Value) (u_mo_at : Value) (u_mo_refused : Value) (u_mo_place : Value) (u_mo_readMany : Value) (u_mo_readSymbol : Value) (u_mo_readX : Value) (u_mo_readY : Value) (u_mo_readDiffers : Value) (u_mo_readWays : Value) (mo_thrown : Int32) (mo_symbols : Int32) (mo_wide : (Nat → Int32)) (mo_high : (Nat → Int32)) (mo_dark : (Nat → Int64)) (p0 : Int32) (p1 : Int32) (sz : Nat) (o : Int32 × Int32 × Int32 × (Nat → Int32) × (Nat → Int32) × (Nat → Int64)) (hf : f_Mo_symbol mo_symbols mo_wide mo_high mo_dark p0 p1 = some o) :
    Met l y_Mo_symbol ws_Mo_symbol { frames := 1, cells := 0, slots := 0, locals := 22 } (va_Pc [.ref h_mo, .int p0, .int p1] (PcM (dC, dI) [(h_mo, .inr (1, [.int mo_thrown, u_mo_width, u_mo_height, u_mo_kind, .int mo_symbols, .ref h_mo_wide, .ref h_mo_high, .ref h_mo_dark, u_mo_instances, u_mo_symbolOf, u_mo_xs, u_mo_ys, u_mo_differs, u_mo_ways, u_mo_ordered, u_mo_page, u_mo_told, u_mo_keeps, u_mo_toldBytes, u_mo_out, u_mo_counts, u_mo_lengths, u_mo_codes, u_mo_weight, u_mo_over, u_mo_used, u_mo_row, u_mo_came, u_mo_in, u_mo_at, u_mo_refused, u_mo_place, u_mo_readMany, u_mo_readSymbol, u_mo_readX, u_mo_readY, u_mo_readDiffers, u_mo_readWays])), (h_mo_wide, .inl (c_mo_wide, 16, .inl mo_wide)), (h_mo_high, .inl (c_mo_high, 16, .inl mo_high)), (h_mo_dark, .inl (c_mo_dark, 16, .inr (.inl mo_dark)))] [(c_mo_wide, .int), (c_mo_high, .int), (c_mo_dark, .long)] sz))
      (va_Qi (fun (r : Int32) (u : Int32 × Int32 × (Nat → Int32) × (Nat → Int32) × (Nat → Int64)) => (r, u) = o) (fun u t => va_P (dC, dI) CL [(h_mo, .inr (1, [.int (u.1), u_mo_width, u_mo_height, u_mo_kind, .int (u.2.1), .ref h_mo_wide, .ref h_mo_high, .ref h_mo_dark, u_mo_instances, u_mo_symbolOf, u_mo_xs, u_mo_ys, u_mo_differs, u_mo_ways, u_mo_ordered, u_mo_page, u_mo_told, u_mo_keeps, u_mo_toldBytes, u_mo_out, u_mo_counts, u_mo_lengths, u_mo_codes, u_mo_weight, u_mo_over, u_mo_used, u_mo_row, u_mo_came, u_mo_in, u_mo_at, u_mo_refused, u_mo_place, u_mo_readMany, u_mo_readSymbol, u_mo_readX, u_mo_readY, u_mo_readDiffers, u_mo_readWays])), (h_mo_wide, .inl (c_mo_wide, 16, .inl (u.2.2.1))), (h_mo_high, .inl (c_mo_high, 16, .inl (u.2.2.2.1))), (h_mo_dark, .inl (c_mo_dark, 16, .inr (.inl (u.2.2.2.2))))] t.heap ∧ va_K (dC, dI) CL [(c_mo_wide, .int), (c_mo_high, .int), (c_mo_dark, .long)] t ∧ va_D (va_A [(h_mo, .inr (1, [.int mo_thrown, u_mo_width, u_mo_height, u_mo_kind, .int mo_symbols, .ref h_mo_wide, .ref h_mo_high, .ref h_mo_dark, u_mo_instances, u_mo_symbolOf, u_mo_xs, u_mo_ys, u_mo_differs, u_mo_ways, u_mo_ordered, u_mo_page, u_mo_told, u_mo_keeps, u_mo_toldBytes, u_mo_out, u_mo_counts, u_mo_lengths, u_mo_codes, u_mo_weight, u_mo_over, u_mo_used, u_mo_row, u_mo_came, u_mo_in, u_mo_at, u_mo_refused, u_mo_place, u_mo_readMany, u_mo_readSymbol, u_mo_readX, u_mo_readY, u_mo_readDiffers, u_mo_readWays])), (h_mo_wide, .inl (c_mo_wide, 16, .inl mo_wide)), (h_mo_high, .inl (c_mo_high, 16, .inl mo_high)), (h_mo_dark, .inl (c_mo_dark, 16, .inr (.inl mo_dark)))] sz) [(h_mo, .inr (1, [.int (u.1), u_mo_width, u_mo_height, u_mo_kind, .int (u.2.1), .ref h_mo_wide, .ref h_mo_high, .ref h_mo_dark, u_mo_instances, u_mo_symbolOf, u_mo_xs, u_mo_ys, u_mo_differs, u_mo_ways, u_mo_ordered, u_mo_page, u_mo_told, u_mo_keeps, u_mo_toldBytes, u_mo_out, u_mo_counts, u_mo_lengths, u_mo_codes, u_mo_weight, u_mo_over, u_mo_used, u_mo_row, u_mo_came, u_mo_in, u_mo_at, u_mo_refused, u_mo_place, u_mo_readMany, u_mo_readSymbol, u_mo_readX, u_mo_readY, u_mo_readDiffers, u_mo_readWays])), (h_mo_wide, .inl (c_mo_wide, 16, .inl (u.2.2.1))), (h_mo_high, .inl (c_mo_high, 16, .inl (u.2.2.2.1))), (h_mo_dark, .inl (c_mo_dark, 16, .inr (.inl (u.2.2.2.2))))]) (va_A [(h_mo, .inr (1, [.int mo_thrown, u_mo_width, u_mo_height, u_mo_kind, .int mo_symbols, .ref h_mo_wide, .ref h_mo_high, .ref h_mo_dark, u_mo_instances, u_mo_symbolOf, u_mo_xs, u_mo_ys, u_mo_differs, u_mo_ways, u_mo_ordered, u_mo_page, u_mo_told, u_mo_keeps, u_mo_toldBytes, u_mo_out, u_mo_counts, u_mo_lengths, u_mo_codes, u_mo_weight, u_mo_over, u_mo_used, u_mo_row, u_mo_came, u_mo_in, u_mo_at, u_mo_refused, u_mo_place, u_mo_readMany, u_mo_readSymbol, u_mo_readX, u_mo_readY, u_mo_readDiffers, u_mo_readWays])), (h_mo_wide, .inl (c_mo_wide, 16, .inl mo_wide)), (h_mo_high, .inl (c_mo_high, 16, .inl mo_high)), (h_mo_dark, .inl (c_mo_dark, 16, .inr (.inl mo_dark)))] sz)) 0 0 (va_A [(h_mo, .inr (1, [.int mo_thrown, u_mo_width, u_mo_height, u_mo_kind, .int mo_symbols, .ref h_mo_wide, .ref h_mo_high, .ref h_mo_dark, u_mo_instances, u_mo_symbolOf, u_mo_xs, u_mo_ys, u_mo_differs, u_mo_ways, u_mo_ordered, u_mo_page, u_mo_told, u_mo_keeps, u_mo_toldBytes, u_mo_out, u_mo_counts, u_mo_lengths, u_mo_codes, u_mo_weight, u_mo_over, u_mo_used, u_mo_row, u_mo_came, u_mo_in, u_mo_at, u_mo_refused, u_mo_place, u_mo_readMany, u_mo_readSymbol, u_mo_readX, u_mo_readY, u_mo_readDiffers, u_mo_readWays])), (h_mo_wide, .inl (c_mo_wide, 16, .inl mo_wide)), (h_mo_high, .inl (c_mo_high, 16, .inl mo_high)), (h_mo_dark, .inl (c_mo_dark, 16, .inr (.inl mo_dark)))] sz) := by
  refine Met.ofW (cc := b_Mo_symbol) (maxL := 3) (ret := (some .int)) (by decide) rfl ?_
  intro p e s m args below meth c s₁ B hml hv
  obtain ⟨rfl, hsz, hP, hK, hD0, hnw⟩ := hv
  have hx := B.exec
  have hb := B.bytes
  have hr := B.returns
  have hts := atoms_spec (ws := ws_Mo_symbol) B.pre
  have hB : ∀ w ∈ BIG, w.before _ s = true := fun w h => hts w (List.mem_cons_of_mem _ h)
  have hown : s.vm.findClass R_Mo = some m.cls := findClass_of_methodNamed B.named
  have hlocks := B.notSynchronized
  subst hsz
  have hD := hD0.self (sz := s.heap.size)
  refine W_Q (fun Q9 eQ => ?_)
  generalize hAe : va_A [(h_mo, .inr (1, [.int mo_thrown, u_mo_width, u_mo_height, u_mo_kind, .int mo_symbols, .ref h_mo_wide, .ref h_mo_high, .ref h_mo_dark, u_mo_instances, u_mo_symbolOf, u_mo_xs, u_mo_ys, u_mo_differs, u_mo_ways, u_mo_ordered, u_mo_page, u_mo_told, u_mo_keeps, u_mo_toldBytes, u_mo_out, u_mo_counts, u_mo_lengths, u_mo_codes, u_mo_weight, u_mo_over, u_mo_used, u_mo_row, u_mo_came, u_mo_in, u_mo_at, u_mo_refused, u_mo_place, u_mo_readMany, u_mo_readSymbol, u_mo_readX, u_mo_readY, u_mo_readDiffers, u_mo_readWays])), (h_mo_wide, .inl (c_mo_wide, 16, .inl mo_wide)), (h_mo_high, .inl (c_mo_high, 16, .inl mo_high)), (h_mo_dark, .inl (c_mo_dark, 16, .inr (.inl mo_dark)))] s.heap.size = A at hD eQ
  have hA : ∀ q : Nat, s.heap.size ≤ q → A q := fun q h => by rw [← hAe]; exact Or.inr h
  have hS : va_S A s.heap s.heap [] := va_S.rf
  have hl := lv_entry ([.ref h_mo, .int p0, .int p1]) (n := 3) (Nat.le_of_ble_eq_true rfl)
  rw [lg_entry_eq]
  generalize (lg_sl ([.ref h_mo, .int p0, .int p1]) ++ List.replicate (3 - (lg_sl ([.ref h_mo, .int p0, .int p1])).length) Slot.unset).toArray = ls at hl ⊢
  have hl : lv_has ls 3 [(0, .ref h_mo), (1, .int p0), (2, .int p1)] := hl
  have h := hf
  unfold f_Mo_symbol at h
  refine lv_aload_n hx hb d_Mo_symbol_0 rfl (lv_at hl 0 rfl) ?_
  refine lv_iload_n hx hb d_Mo_symbol_1 rfl (lv_at hl 1 rfl) ?_
  refine lv_iconst (v := 1) hx hb d_Mo_symbol_2 (by decide) ?_
  refine lv_bipush (v := 8) hx hb d_Mo_symbol_3 (by decide) ?_
  obtain ⟨o9, hc9, h⟩ := bd_e h
  have hPc := hP.sub (ws' := []) [] rfl
  have hKc := hK.sub (tys' := []) [] rfl
  refine vp_callSi (va_Run.run (va_runS (As := [.int p0, .int (1 : Int32), .int (8 : Int32)]) (rest := [.ref h_mo]) ⟨hx, hb, hml, hown, hB⟩ (c_Mo_isIn l dC dI p0 (1 : Int32) (8 : Int32) o9 hc9) (va_cwS 3 hB (goodA (m3 bw_996 bw_997 bw_13) (goodB bw_998)) rfl rfl rfl (by decide +kernel) ⟨Nat.le_of_ble_eq_true rfl, Nat.le_of_ble_eq_true rfl⟩) ⟨fb_p, (pre_p hPc hKc hnw [.int p0, .int (1 : Int32), .int (8 : Int32)])⟩ rfl rfl hl.1 rfl (lv_room (Nat.le_of_ble_eq_true rfl)) d_Mo_symbol_5 ⟨Nat.zero_le _, Nat.zero_le _⟩)) (fun r_1 e_r_1 => ?_)
  subst e_r_1
  clear hPc hKc hc9
  obtain ⟨j39, e_j39, h⟩ := jn_e h
  have w_j39 : ∀ (s_2 : Int32) (H : Heap) (locs : List Loc) (ls : Array Slot), j39 s_2 = some o → va_P (dC, dI) CL [(h_mo, .inr (1, [.int mo_thrown, u_mo_width, u_mo_height, u_mo_kind, .int mo_symbols, .ref h_mo_wide, .ref h_mo_high, .ref h_mo_dark, u_mo_instances, u_mo_symbolOf, u_mo_xs, u_mo_ys, u_mo_differs, u_mo_ways, u_mo_ordered, u_mo_page, u_mo_told, u_mo_keeps, u_mo_toldBytes, u_mo_out, u_mo_counts, u_mo_lengths, u_mo_codes, u_mo_weight, u_mo_over, u_mo_used, u_mo_row, u_mo_came, u_mo_in, u_mo_at, u_mo_refused, u_mo_place, u_mo_readMany, u_mo_readSymbol, u_mo_readX, u_mo_readY, u_mo_readDiffers, u_mo_readWays])), (h_mo_wide, .inl (c_mo_wide, 16, .inl mo_wide)), (h_mo_high, .inl (c_mo_high, 16, .inl mo_high)), (h_mo_dark, .inl (c_mo_dark, 16, .inr (.inl mo_dark)))] H → va_D A [(h_mo, .inr (1, [.int mo_thrown, u_mo_width, u_mo_height, u_mo_kind, .int mo_symbols, .ref h_mo_wide, .ref h_mo_high, .ref h_mo_dark, u_mo_instances, u_mo_symbolOf, u_mo_xs, u_mo_ys, u_mo_differs, u_mo_ways, u_mo_ordered, u_mo_page, u_mo_told, u_mo_keeps, u_mo_toldBytes, u_mo_out, u_mo_counts, u_mo_lengths, u_mo_codes, u_mo_weight, u_mo_over, u_mo_used, u_mo_row, u_mo_came, u_mo_in, u_mo_at, u_mo_refused, u_mo_place, u_mo_readMany, u_mo_readSymbol, u_mo_readX, u_mo_readY, u_mo_readDiffers, u_mo_readWays])), (h_mo_wide, .inl (c_mo_wide, 16, .inl mo_wide)), (h_mo_high, .inl (c_mo_high, 16, .inl mo_high)), (h_mo_dark, .inl (c_mo_dark, 16, .inr (.inl mo_dark)))] → va_S A s.heap H locs → lv_has ls 3 [(0, .ref h_mo), (1, .int p0), (2, .int p1)] → W p l e ({ frames := 1, cells := 0, slots := 0, locals := 22 } : Room) s m ([.ref h_mo, .int p0, .int p1] : List Value).toArray below meth c H locs 0 0 Q9 (F0 m 39 ls [.int s_2, .ref h_mo]) := by
    intro s_2 H locs ls h hP hD hS hl
    rw [e_j39] at h
    refine va_put (D := (dC, dI)) (ci := 1) (v := .int s_2) (ty := .int) (C := R_Mo) (T := T_Mo) (N := 38) hx hb hB iw_Mo ty_Mo tk_Mo n_Mo hown hK hP hD hS 0 rfl rfl 0 (by decide) (hB _ bw_873) (fun _ h9 => h9) rfl (by decide +kernel) rfl rfl (Nat.le_of_ble_eq_true rfl) d_Mo_symbol_39 (fun H locs hP hD hS => ?_)
    have hP : va_P (dC, dI) CL [(h_mo, .inr (1, [.int s_2, u_mo_width, u_mo_height, u_mo_kind, .int mo_symbols, .ref h_mo_wide, .ref h_mo_high, .ref h_mo_dark, u_mo_instances, u_mo_symbolOf, u_mo_xs, u_mo_ys, u_mo_differs, u_mo_ways, u_mo_ordered, u_mo_page, u_mo_told, u_mo_keeps, u_mo_toldBytes, u_mo_out, u_mo_counts, u_mo_lengths, u_mo_codes, u_mo_weight, u_mo_over, u_mo_used, u_mo_row, u_mo_came, u_mo_in, u_mo_at, u_mo_refused, u_mo_place, u_mo_readMany, u_mo_readSymbol, u_mo_readX, u_mo_readY, u_mo_readDiffers, u_mo_readWays])), (h_mo_wide, .inl (c_mo_wide, 16, .inl mo_wide)), (h_mo_high, .inl (c_mo_high, 16, .inl mo_high)), (h_mo_dark, .inl (c_mo_dark, 16, .inr (.inl mo_dark)))] H := hP
    have hD : va_D A [(h_mo, .inr (1, [.int s_2, u_mo_width, u_mo_height, u_mo_kind, .int mo_symbols, .ref h_mo_wide, .ref h_mo_high, .ref h_mo_dark, u_mo_instances, u_mo_symbolOf, u_mo_xs, u_mo_ys, u_mo_differs, u_mo_ways, u_mo_ordered, u_mo_page, u_mo_told, u_mo_keeps, u_mo_toldBytes, u_mo_out, u_mo_counts, u_mo_lengths, u_mo_codes, u_mo_weight, u_mo_over, u_mo_used, u_mo_row, u_mo_came, u_mo_in, u_mo_at, u_mo_refused, u_mo_place, u_mo_readMany, u_mo_readSymbol, u_mo_readX, u_mo_readY, u_mo_readDiffers, u_mo_readWays])), (h_mo_wide, .inl (c_mo_wide, 16, .inl mo_wide)), (h_mo_high, .inl (c_mo_high, 16, .inl mo_high)), (h_mo_dark, .inl (c_mo_dark, 16, .inr (.inl mo_dark)))] := hD
    refine lv_aload_n hx hb d_Mo_symbol_42 rfl (lv_at hl 0 rfl) ?_
    refine va_get (D := (dC, dI)) (ci := 1) (v := .int s_2) (C := R_Mo) (T := T_Mo) (N := 38) hx hb hB iw_Mo hown hK hP 0 rfl rfl 0 (by decide) (hB _ bw_873) (fun _ h9 => h9) rfl d_Mo_symbol_43 ?_
    refine lv_if_le (tgt := 51) hx hb d_Mo_symbol_46 (by decide) (fun c_1 => ?_) (fun c_1 => ?_)
    · have h := if_t h c_1
      refine lv_aload_n hx hb d_Mo_symbol_51 rfl (lv_at hl 0 rfl) ?_
      refine va_get (D := (dC, dI)) (ci := 1) (v := .ref h_mo_wide) (C := R_Mo) (T := T_Mo) (N := 38) hx hb hB iw_Mo hown hK hP 0 rfl rfl 5 (by decide) (hB _ bw_878) (fun _ h9 => h9) rfl d_Mo_symbol_52 ?_
      refine lv_aload_n hx hb d_Mo_symbol_55 rfl (lv_at hl 0 rfl) ?_
      refine va_get (D := (dC, dI)) (ci := 1) (v := .int mo_symbols) (C := R_Mo) (T := T_Mo) (N := 38) hx hb hB iw_Mo hown hK hP 0 rfl rfl 4 (by decide) (hB _ bw_877) (fun _ h9 => h9) rfl d_Mo_symbol_56 ?_
      refine lv_iload_n hx hb d_Mo_symbol_59 rfl (lv_at hl 1 rfl) ?_
      obtain ⟨hin, h⟩ := gq_e h
      refine va_iast hx hb hK hP hD hS 1 0 rfl rfl hin d_Mo_symbol_60 (fun H locs hP hD hS => ?_)
      have hP : va_P (dC, dI) CL [(h_mo, .inr (1, [.int s_2, u_mo_width, u_mo_height, u_mo_kind, .int mo_symbols, .ref h_mo_wide, .ref h_mo_high, .ref h_mo_dark, u_mo_instances, u_mo_symbolOf, u_mo_xs, u_mo_ys, u_mo_differs, u_mo_ways, u_mo_ordered, u_mo_page, u_mo_told, u_mo_keeps, u_mo_toldBytes, u_mo_out, u_mo_counts, u_mo_lengths, u_mo_codes, u_mo_weight, u_mo_over, u_mo_used, u_mo_row, u_mo_came, u_mo_in, u_mo_at, u_mo_refused, u_mo_place, u_mo_readMany, u_mo_readSymbol, u_mo_readX, u_mo_readY, u_mo_readDiffers, u_mo_readWays])), (h_mo_wide, .inl (c_mo_wide, 16, .inl (upd mo_wide (mo_symbols).toNatClampNeg p0))), (h_mo_high, .inl (c_mo_high, 16, .inl mo_high)), (h_mo_dark, .inl (c_mo_dark, 16, .inr (.inl mo_dark)))] H := hP
      have hD : va_D A [(h_mo, .inr (1, [.int s_2, u_mo_width, u_mo_height, u_mo_kind, .int mo_symbols, .ref h_mo_wide, .ref h_mo_high, .ref h_mo_dark, u_mo_instances, u_mo_symbolOf, u_mo_xs, u_mo_ys, u_mo_differs, u_mo_ways, u_mo_ordered, u_mo_page, u_mo_told, u_mo_keeps, u_mo_toldBytes, u_mo_out, u_mo_counts, u_mo_lengths, u_mo_codes, u_mo_weight, u_mo_over, u_mo_used, u_mo_row, u_mo_came, u_mo_in, u_mo_at, u_mo_refused, u_mo_place, u_mo_readMany, u_mo_readSymbol, u_mo_readX, u_mo_readY, u_mo_readDiffers, u_mo_readWays])), (h_mo_wide, .inl (c_mo_wide, 16, .inl (upd mo_wide (mo_symbols).toNatClampNeg p0))), (h_mo_high, .inl (c_mo_high, 16, .inl mo_high)), (h_mo_dark, .inl (c_mo_dark, 16, .inr (.inl mo_dark)))] := hD
      refine lv_aload_n hx hb d_Mo_symbol_61 rfl (lv_at hl 0 rfl) ?_
      refine va_get (D := (dC, dI)) (ci := 1) (v := .ref h_mo_high) (C := R_Mo) (T := T_Mo) (N := 38) hx hb hB iw_Mo hown hK hP 0 rfl rfl 6 (by decide) (hB _ bw_879) (fun _ h9 => h9) rfl d_Mo_symbol_62 ?_
      refine lv_aload_n hx hb d_Mo_symbol_65 rfl (lv_at hl 0 rfl) ?_
      refine va_get (D := (dC, dI)) (ci := 1) (v := .int mo_symbols) (C := R_Mo) (T := T_Mo) (N := 38) hx hb hB iw_Mo hown hK hP 0 rfl rfl 4 (by decide) (hB _ bw_877) (fun _ h9 => h9) rfl d_Mo_symbol_66 ?_
      refine lv_iload_n hx hb d_Mo_symbol_69 rfl (lv_at hl 2 rfl) ?_
      obtain ⟨hin, h⟩ := gq_e h
      refine va_iast hx hb hK hP hD hS 2 1 rfl rfl hin d_Mo_symbol_70 (fun H locs hP hD hS => ?_)
      have hP : va_P (dC, dI) CL [(h_mo, .inr (1, [.int s_2, u_mo_width, u_mo_height, u_mo_kind, .int mo_symbols, .ref h_mo_wide, .ref h_mo_high, .ref h_mo_dark, u_mo_instances, u_mo_symbolOf, u_mo_xs, u_mo_ys, u_mo_differs, u_mo_ways, u_mo_ordered, u_mo_page, u_mo_told, u_mo_keeps, u_mo_toldBytes, u_mo_out, u_mo_counts, u_mo_lengths, u_mo_codes, u_mo_weight, u_mo_over, u_mo_used, u_mo_row, u_mo_came, u_mo_in, u_mo_at, u_mo_refused, u_mo_place, u_mo_readMany, u_mo_readSymbol, u_mo_readX, u_mo_readY, u_mo_readDiffers, u_mo_readWays])), (h_mo_wide, .inl (c_mo_wide, 16, .inl (upd mo_wide (mo_symbols).toNatClampNeg p0))), (h_mo_high, .inl (c_mo_high, 16, .inl (upd mo_high (mo_symbols).toNatClampNeg p1))), (h_mo_dark, .inl (c_mo_dark, 16, .inr (.inl mo_dark)))] H := hP
      have hD : va_D A [(h_mo, .inr (1, [.int s_2, u_mo_width, u_mo_height, u_mo_kind, .int mo_symbols, .ref h_mo_wide, .ref h_mo_high, .ref h_mo_dark, u_mo_instances, u_mo_symbolOf, u_mo_xs, u_mo_ys, u_mo_differs, u_mo_ways, u_mo_ordered, u_mo_page, u_mo_told, u_mo_keeps, u_mo_toldBytes, u_mo_out, u_mo_counts, u_mo_lengths, u_mo_codes, u_mo_weight, u_mo_over, u_mo_used, u_mo_row, u_mo_came, u_mo_in, u_mo_at, u_mo_refused, u_mo_place, u_mo_readMany, u_mo_readSymbol, u_mo_readX, u_mo_readY, u_mo_readDiffers, u_mo_readWays])), (h_mo_wide, .inl (c_mo_wide, 16, .inl (upd mo_wide (mo_symbols).toNatClampNeg p0))), (h_mo_high, .inl (c_mo_high, 16, .inl (upd mo_high (mo_symbols).toNatClampNeg p1))), (h_mo_dark, .inl (c_mo_dark, 16, .inr (.inl mo_dark)))] := hD
      refine lv_aload_n hx hb d_Mo_symbol_71 rfl (lv_at hl 0 rfl) ?_
      refine va_get (D := (dC, dI)) (ci := 1) (v := .ref h_mo_dark) (C := R_Mo) (T := T_Mo) (N := 38) hx hb hB iw_Mo hown hK hP 0 rfl rfl 7 (by decide) (hB _ bw_880) (fun _ h9 => h9) rfl d_Mo_symbol_72 ?_
      refine lv_aload_n hx hb d_Mo_symbol_75 rfl (lv_at hl 0 rfl) ?_
      refine va_get (D := (dC, dI)) (ci := 1) (v := .int mo_symbols) (C := R_Mo) (T := T_Mo) (N := 38) hx hb hB iw_Mo hown hK hP 0 rfl rfl 4 (by decide) (hB _ bw_877) (fun _ h9 => h9) rfl d_Mo_symbol_76 ?_
      refine lv_lconst (v := 0) hx hb d_Mo_symbol_79 (by decide) ?_
      obtain ⟨hin, h⟩ := gq_e h
      refine va_last hx hb hK hP hD hS 3 2 rfl rfl hin d_Mo_symbol_80 (fun H locs hP hD hS => ?_)
      have hP : va_P (dC, dI) CL [(h_mo, .inr (1, [.int s_2, u_mo_width, u_mo_height, u_mo_kind, .int mo_symbols, .ref h_mo_wide, .ref h_mo_high, .ref h_mo_dark, u_mo_instances, u_mo_symbolOf, u_mo_xs, u_mo_ys, u_mo_differs, u_mo_ways, u_mo_ordered, u_mo_page, u_mo_told, u_mo_keeps, u_mo_toldBytes, u_mo_out, u_mo_counts, u_mo_lengths, u_mo_codes, u_mo_weight, u_mo_over, u_mo_used, u_mo_row, u_mo_came, u_mo_in, u_mo_at, u_mo_refused, u_mo_place, u_mo_readMany, u_mo_readSymbol, u_mo_readX, u_mo_readY, u_mo_readDiffers, u_mo_readWays])), (h_mo_wide, .inl (c_mo_wide, 16, .inl (upd mo_wide (mo_symbols).toNatClampNeg p0))), (h_mo_high, .inl (c_mo_high, 16, .inl (upd mo_high (mo_symbols).toNatClampNeg p1))), (h_mo_dark, .inl (c_mo_dark, 16, .inr (.inl (vp_updL mo_dark (mo_symbols).toNatClampNeg (0 : Int64)))))] H := hP
      have hD : va_D A [(h_mo, .inr (1, [.int s_2, u_mo_width, u_mo_height, u_mo_kind, .int mo_symbols, .ref h_mo_wide, .ref h_mo_high, .ref h_mo_dark, u_mo_instances, u_mo_symbolOf, u_mo_xs, u_mo_ys, u_mo_differs, u_mo_ways, u_mo_ordered, u_mo_page, u_mo_told, u_mo_keeps, u_mo_toldBytes, u_mo_out, u_mo_counts, u_mo_lengths, u_mo_codes, u_mo_weight, u_mo_over, u_mo_used, u_mo_row, u_mo_came, u_mo_in, u_mo_at, u_mo_refused, u_mo_place, u_mo_readMany, u_mo_readSymbol, u_mo_readX, u_mo_readY, u_mo_readDiffers, u_mo_readWays])), (h_mo_wide, .inl (c_mo_wide, 16, .inl (upd mo_wide (mo_symbols).toNatClampNeg p0))), (h_mo_high, .inl (c_mo_high, 16, .inl (upd mo_high (mo_symbols).toNatClampNeg p1))), (h_mo_dark, .inl (c_mo_dark, 16, .inr (.inl (vp_updL mo_dark (mo_symbols).toNatClampNeg (0 : Int64)))))] := hD
      refine lv_aload_n hx hb d_Mo_symbol_81 rfl (lv_at hl 0 rfl) ?_
      refine lv_dup hx hb d_Mo_symbol_82 rfl ?_
      refine va_get (D := (dC, dI)) (ci := 1) (v := .int mo_symbols) (C := R_Mo) (T := T_Mo) (N := 38) hx hb hB iw_Mo hown hK hP 0 rfl rfl 4 (by decide) (hB _ bw_877) (fun _ h9 => h9) rfl d_Mo_symbol_83 ?_
      refine lv_iconst (v := 1) hx hb d_Mo_symbol_86 (by decide) ?_
      refine lv_iadd hx hb d_Mo_symbol_87 ?_
      refine lv_topi (fun symbols_3 e_symbols_3 => ?_)
      have h := nl_u e_symbols_3 h
      refine va_put (D := (dC, dI)) (ci := 1) (v := .int symbols_3) (ty := .int) (C := R_Mo) (T := T_Mo) (N := 38) hx hb hB iw_Mo ty_Mo tk_Mo n_Mo hown hK hP hD hS 0 rfl rfl 4 (by decide) (hB _ bw_877) (fun _ h9 => h9) rfl (by decide +kernel) rfl rfl (Nat.le_of_ble_eq_true rfl) d_Mo_symbol_88 (fun H locs hP hD hS => ?_)
      have hP : va_P (dC, dI) CL [(h_mo, .inr (1, [.int s_2, u_mo_width, u_mo_height, u_mo_kind, .int symbols_3, .ref h_mo_wide, .ref h_mo_high, .ref h_mo_dark, u_mo_instances, u_mo_symbolOf, u_mo_xs, u_mo_ys, u_mo_differs, u_mo_ways, u_mo_ordered, u_mo_page, u_mo_told, u_mo_keeps, u_mo_toldBytes, u_mo_out, u_mo_counts, u_mo_lengths, u_mo_codes, u_mo_weight, u_mo_over, u_mo_used, u_mo_row, u_mo_came, u_mo_in, u_mo_at, u_mo_refused, u_mo_place, u_mo_readMany, u_mo_readSymbol, u_mo_readX, u_mo_readY, u_mo_readDiffers, u_mo_readWays])), (h_mo_wide, .inl (c_mo_wide, 16, .inl (upd mo_wide (mo_symbols).toNatClampNeg p0))), (h_mo_high, .inl (c_mo_high, 16, .inl (upd mo_high (mo_symbols).toNatClampNeg p1))), (h_mo_dark, .inl (c_mo_dark, 16, .inr (.inl (vp_updL mo_dark (mo_symbols).toNatClampNeg (0 : Int64)))))] H := hP
      have hD : va_D A [(h_mo, .inr (1, [.int s_2, u_mo_width, u_mo_height, u_mo_kind, .int symbols_3, .ref h_mo_wide, .ref h_mo_high, .ref h_mo_dark, u_mo_instances, u_mo_symbolOf, u_mo_xs, u_mo_ys, u_mo_differs, u_mo_ways, u_mo_ordered, u_mo_page, u_mo_told, u_mo_keeps, u_mo_toldBytes, u_mo_out, u_mo_counts, u_mo_lengths, u_mo_codes, u_mo_weight, u_mo_over, u_mo_used, u_mo_row, u_mo_came, u_mo_in, u_mo_at, u_mo_refused, u_mo_place, u_mo_readMany, u_mo_readSymbol, u_mo_readX, u_mo_readY, u_mo_readDiffers, u_mo_readWays])), (h_mo_wide, .inl (c_mo_wide, 16, .inl (upd mo_wide (mo_symbols).toNatClampNeg p0))), (h_mo_high, .inl (c_mo_high, 16, .inl (upd mo_high (mo_symbols).toNatClampNeg p1))), (h_mo_dark, .inl (c_mo_dark, 16, .inr (.inl (vp_updL mo_dark (mo_symbols).toNatClampNeg (0 : Int64)))))] := hD
      refine lv_aload_n hx hb d_Mo_symbol_91 rfl (lv_at hl 0 rfl) ?_
      refine va_get (D := (dC, dI)) (ci := 1) (v := .int symbols_3) (C := R_Mo) (T := T_Mo) (N := 38) hx hb hB iw_Mo hown hK hP 0 rfl rfl 4 (by decide) (hB _ bw_877) (fun _ h9 => h9) rfl d_Mo_symbol_92 ?_
      refine lv_iconst (v := 1) hx hb d_Mo_symbol_95 (by decide) ?_
      refine lv_isub hx hb d_Mo_symbol_96 ?_
      subst eQ
      exact W.iret (v := (symbols_3 - (1 : Int32))) hx hb hr (fun t ht hW => ⟨⟨_, (s_2, symbols_3, (upd mo_wide (mo_symbols).toNatClampNeg p0), (upd mo_high (mo_symbols).toNatClampNeg p1), (vp_updL mo_dark (mo_symbols).toNatClampNeg (0 : Int64))), rfl, Option.some.inj h, by rw [ht]; exact hP, va_K.moved hW.alike hK, hD⟩, hS.F ht⟩) hS.2.2 d_Mo_symbol_97
    · have h := if_f h c_1
      refine lv_iconst (v := 0) hx hb d_Mo_symbol_49 (by decide) ?_
      subst eQ
      exact W.iret (v := (0 : Int32)) hx hb hr (fun t ht hW => ⟨⟨_, (s_2, mo_symbols, mo_wide, mo_high, mo_dark), rfl, Option.some.inj h, by rw [ht]; exact hP, va_K.moved hW.alike hK, hD⟩, hS.F ht⟩) hS.2.2 d_Mo_symbol_50
  obtain ⟨j21, e_j21, h⟩ := jn_e h
  have w_j21 : ∀ (H : Heap) (locs : List Loc) (ls : Array Slot), j21 () = some o → va_P (dC, dI) CL [(h_mo, .inr (1, [.int mo_thrown, u_mo_width, u_mo_height, u_mo_kind, .int mo_symbols, .ref h_mo_wide, .ref h_mo_high, .ref h_mo_dark, u_mo_instances, u_mo_symbolOf, u_mo_xs, u_mo_ys, u_mo_differs, u_mo_ways, u_mo_ordered, u_mo_page, u_mo_told, u_mo_keeps, u_mo_toldBytes, u_mo_out, u_mo_counts, u_mo_lengths, u_mo_codes, u_mo_weight, u_mo_over, u_mo_used, u_mo_row, u_mo_came, u_mo_in, u_mo_at, u_mo_refused, u_mo_place, u_mo_readMany, u_mo_readSymbol, u_mo_readX, u_mo_readY, u_mo_readDiffers, u_mo_readWays])), (h_mo_wide, .inl (c_mo_wide, 16, .inl mo_wide)), (h_mo_high, .inl (c_mo_high, 16, .inl mo_high)), (h_mo_dark, .inl (c_mo_dark, 16, .inr (.inl mo_dark)))] H → va_D A [(h_mo, .inr (1, [.int mo_thrown, u_mo_width, u_mo_height, u_mo_kind, .int mo_symbols, .ref h_mo_wide, .ref h_mo_high, .ref h_mo_dark, u_mo_instances, u_mo_symbolOf, u_mo_xs, u_mo_ys, u_mo_differs, u_mo_ways, u_mo_ordered, u_mo_page, u_mo_told, u_mo_keeps, u_mo_toldBytes, u_mo_out, u_mo_counts, u_mo_lengths, u_mo_codes, u_mo_weight, u_mo_over, u_mo_used, u_mo_row, u_mo_came, u_mo_in, u_mo_at, u_mo_refused, u_mo_place, u_mo_readMany, u_mo_readSymbol, u_mo_readX, u_mo_readY, u_mo_readDiffers, u_mo_readWays])), (h_mo_wide, .inl (c_mo_wide, 16, .inl mo_wide)), (h_mo_high, .inl (c_mo_high, 16, .inl mo_high)), (h_mo_dark, .inl (c_mo_dark, 16, .inr (.inl mo_dark)))] → va_S A s.heap H locs → lv_has ls 3 [(0, .ref h_mo), (1, .int p0), (2, .int p1)] → W p l e ({ frames := 1, cells := 0, slots := 0, locals := 22 } : Room) s m ([.ref h_mo, .int p0, .int p1] : List Value).toArray below meth c H locs 0 0 Q9 (F0 m 21 ls [.ref h_mo]) := by
    intro H locs ls h hP hD hS hl
    rw [e_j21] at h
    refine lv_iconst (v := 1) hx hb d_Mo_symbol_21 (by decide) ?_
    refine lv_goto (tgt := 39) hx hb d_Mo_symbol_22 (by decide) ?_
    exact w_j39 _ _ _ _ h hP hD hS hl
  refine lv_if_eq (tgt := 21) hx hb d_Mo_symbol_8 (by decide) (fun c_2 => ?_) (fun c_2 => ?_)
  · have h := if_t h c_2
    exact w_j21 _ _ _ h hP hD hS hl
  · have h := if_f h c_2
    refine lv_iload_n hx hb d_Mo_symbol_11 rfl (lv_at hl 2 rfl) ?_
    refine lv_iconst (v := 1) hx hb d_Mo_symbol_12 (by decide) ?_
    refine lv_bipush (v := 8) hx hb d_Mo_symbol_13 (by decide) ?_
    obtain ⟨o9, hc9, h⟩ := bd_e h
    have hPc := hP.sub (ws' := []) [] rfl
    have hKc := hK.sub (tys' := []) [] rfl
    refine vp_callSi (va_Run.run (va_runS (As := [.int p1, .int (1 : Int32), .int (8 : Int32)]) (rest := [.ref h_mo]) ⟨hx, hb, hml, hown, hB⟩ (c_Mo_isIn l dC dI p1 (1 : Int32) (8 : Int32) o9 hc9) (va_cwS 3 hB (goodA (m3 bw_996 bw_997 bw_13) (goodB bw_998)) rfl rfl rfl (by decide +kernel) ⟨Nat.le_of_ble_eq_true rfl, Nat.le_of_ble_eq_true rfl⟩) ⟨fb_p, (pre_p hPc hKc hnw [.int p1, .int (1 : Int32), .int (8 : Int32)])⟩ rfl rfl hl.1 rfl (lv_room (Nat.le_of_ble_eq_true rfl)) d_Mo_symbol_15 ⟨Nat.zero_le _, Nat.zero_le _⟩)) (fun r_4 e_r_4 => ?_)
    subst e_r_4
    clear hPc hKc hc9
    refine lv_if_ne (tgt := 25) hx hb d_Mo_symbol_18 (by decide) (fun c_3 => ?_) (fun c_3 => ?_)
    · have h := if_f h c_3
      refine lv_aload_n hx hb d_Mo_symbol_25 rfl (lv_at hl 0 rfl) ?_
      refine va_get (D := (dC, dI)) (ci := 1) (v := .int mo_symbols) (C := R_Mo) (T := T_Mo) (N := 38) hx hb hB iw_Mo hown hK hP 0 rfl rfl 4 (by decide) (hB _ bw_877) (fun _ h9 => h9) rfl d_Mo_symbol_26 ?_
      refine lv_bipush (v := 16) hx hb d_Mo_symbol_29 (by decide) ?_
      refine lv_icmp_ne (tgt := 38) hx hb d_Mo_symbol_31 (by decide) (fun c_4 => ?_) (fun c_4 => ?_)
      · have h := if_f h c_4
        refine lv_iconst (v := 0) hx hb d_Mo_symbol_38 (by decide) ?_
        exact w_j39 _ _ _ _ h hP hD hS hl
      · have h := if_t h c_4
        refine lv_iconst (v := 2) hx hb d_Mo_symbol_34 (by decide) ?_
        refine lv_goto (tgt := 39) hx hb d_Mo_symbol_35 (by decide) ?_
        exact w_j39 _ _ _ _ h hP hD hS hl
    · have h := if_t h c_3
      exact w_j21 _ _ _ h hP hD hS hl
set_option maxHeartbeats 4000000 in
set_option maxRecDepth 100000 in
theorem c_Mo_isSample (l : Launch) (dC : Nat → ClassId) (dI : Nat → Nat → Nat) (h_mo : Nat) (h_mo_wide : Nat) (h_mo_high : Nat) (c_mo_wide : ClassId) (c_mo_high : ClassId) (u_mo_thrown : Value) (u_mo_width : Value) (u_mo_height : Value) (u_mo_kind : Value) (u_mo_symbols : Value) (u_mo_dark : Value) (u_mo_instances : Value) (u_mo_symbolOf : Value) (u_mo_xs : Value) (u_mo_ys : Value) (u_mo_differs : Value) (u_mo_ways : Value) (u_mo_ordered : Value) (u_mo_page : Value) (u_mo_told : Value) (u_mo_keeps : Value) (u_mo_toldBytes : Value) (u_mo_out : Value) (u_mo_counts : Value) (u_mo_lengths : Value) (u_mo_codes : Value) (u_mo_weight : Value) (u_mo_over : Value) (u_mo_used : Value) (u_mo_row : Value) (u_mo_came : Value) (u_mo_in : Value) (u_mo_at : Value) (u_mo_refused : Value) (u_mo_place : Value) (u_mo_readMany : Value) (u_mo_readSymbol : Value) (u_mo_readX : Value) (u_mo_readY : Value) (u_mo_readDiffers : Value) (u_mo_readWays : Value) (mo_wide : (Nat → Int32)) (mo_high : (Nat → Int32)) (p0 : Int32) (p1 : Int32) (p2 : Int32) (o : Int32) (hf : f_Mo_isSample mo_wide mo_high p0 p1 p2 = some o) :
    Met l y_Mo_isSample ws_Mo_isSample { frames := 1, cells := 0, slots := 0, locals := 22 } (va_Pc [.ref h_mo, .int p0, .int p1, .int p2] (PcP (dC, dI) [(h_mo, .inr (1, [u_mo_thrown, u_mo_width, u_mo_height, u_mo_kind, u_mo_symbols, .ref h_mo_wide, .ref h_mo_high, u_mo_dark, u_mo_instances, u_mo_symbolOf, u_mo_xs, u_mo_ys, u_mo_differs, u_mo_ways, u_mo_ordered, u_mo_page, u_mo_told, u_mo_keeps, u_mo_toldBytes, u_mo_out, u_mo_counts, u_mo_lengths, u_mo_codes, u_mo_weight, u_mo_over, u_mo_used, u_mo_row, u_mo_came, u_mo_in, u_mo_at, u_mo_refused, u_mo_place, u_mo_readMany, u_mo_readSymbol, u_mo_readX, u_mo_readY, u_mo_readDiffers, u_mo_readWays])), (h_mo_wide, .inl (c_mo_wide, 16, .inl mo_wide)), (h_mo_high, .inl (c_mo_high, 16, .inl mo_high))] [(c_mo_wide, .int), (c_mo_high, .int)]))
      (vp_Si (fun r => r = o)) 0 0 (fun _ => False) := by
  refine Met.ofW (cc := b_Mo_isSample) (maxL := 4) (ret := (some .boolean)) (by decide) rfl ?_
  intro p e s m args below meth c s₁ B hml hv
  obtain ⟨rfl, hP, hK, hnw⟩ := hv
  have hx := B.exec
  have hb := B.bytes
  have hr := B.returns
  have hts := atoms_spec (ws := ws_Mo_isSample) B.pre
  have hB : ∀ w ∈ BIG, w.before _ s = true := fun w h => hts w (List.mem_cons_of_mem _ h)
  have hown : s.vm.findClass R_Mo = some m.cls := findClass_of_methodNamed B.named
  have hlocks := B.notSynchronized
  refine W_Q (fun Q9 eQ => ?_)
  have hl := lv_entry ([.ref h_mo, .int p0, .int p1, .int p2]) (n := 4) (Nat.le_of_ble_eq_true rfl)
  rw [lg_entry_eq]
  generalize (lg_sl ([.ref h_mo, .int p0, .int p1, .int p2]) ++ List.replicate (4 - (lg_sl ([.ref h_mo, .int p0, .int p1, .int p2])).length) Slot.unset).toArray = ls at hl ⊢
  have hl : lv_has ls 4 [(0, .ref h_mo), (1, .int p0), (2, .int p1), (3, .int p2)] := hl
  have h := hf
  unfold f_Mo_isSample at h
  refine lv_iload_n hx hb d_Mo_isSample_0 rfl (lv_at hl 2 rfl) ?_
  refine lv_iconst (v := 0) hx hb d_Mo_isSample_1 (by decide) ?_
  refine lv_aload_n hx hb d_Mo_isSample_2 rfl (lv_at hl 0 rfl) ?_
  refine va_get (D := (dC, dI)) (ci := 1) (v := .ref h_mo_wide) (C := R_Mo) (T := T_Mo) (N := 38) hx hb hB iw_Mo hown hK hP 0 rfl rfl 5 (by decide) (hB _ bw_878) (fun _ h9 => h9) rfl d_Mo_isSample_3 ?_
  refine lv_iload_n hx hb d_Mo_isSample_6 rfl (lv_at hl 1 rfl) ?_
  obtain ⟨hin, h⟩ := gq_e h
  refine va_iald hx hb hK hP 1 0 rfl rfl hin d_Mo_isSample_7 ?_
  refine lv_iconst (v := 1) hx hb d_Mo_isSample_8 (by decide) ?_
  refine lv_isub hx hb d_Mo_isSample_9 ?_
  obtain ⟨o9, hc9, h⟩ := bd_e h
  have hPc := hP.sub (ws' := []) [] rfl
  have hKc := hK.sub (tys' := []) [] rfl
  refine vp_callSi (va_Run.run (va_runS (As := [.int p1, .int (0 : Int32), .int ((mo_wide (p0).toNatClampNeg) - (1 : Int32))]) (rest := []) ⟨hx, hb, hml, hown, hB⟩ (c_Mo_isIn l dC dI p1 (0 : Int32) ((mo_wide (p0).toNatClampNeg) - (1 : Int32)) o9 hc9) (va_cwS 3 hB (goodA (m3 bw_996 bw_997 bw_13) (goodB bw_998)) rfl rfl rfl (by decide +kernel) ⟨Nat.le_of_ble_eq_true rfl, Nat.le_of_ble_eq_true rfl⟩) ⟨fb_p, (pre_p hPc hKc hnw [.int p1, .int (0 : Int32), .int ((mo_wide (p0).toNatClampNeg) - (1 : Int32))])⟩ rfl rfl hl.1 rfl (lv_room (Nat.le_of_ble_eq_true rfl)) d_Mo_isSample_10 ⟨Nat.zero_le _, Nat.zero_le _⟩)) (fun r_1 e_r_1 => ?_)
  subst e_r_1
  clear hPc hKc hc9
  refine lv_if_eq (tgt := 36) hx hb d_Mo_isSample_13 (by decide) (fun c_1 => ?_) (fun c_1 => ?_)
  · have h := if_t h c_1
    refine lv_iconst (v := 0) hx hb d_Mo_isSample_36 (by decide) ?_
    subst eQ
    exact W.zret (v := (0 : Int32)) hx hb hr rfl (fun t ht hW => ⟨_, rfl, Option.some.inj h, ht⟩) (fun _ h9 => absurd h9 List.not_mem_nil) d_Mo_isSample_37
  · have h := if_f h c_1
    refine lv_iload_n hx hb d_Mo_isSample_16 rfl (lv_at hl 3 rfl) ?_
    refine lv_iconst (v := 0) hx hb d_Mo_isSample_17 (by decide) ?_
    refine lv_aload_n hx hb d_Mo_isSample_18 rfl (lv_at hl 0 rfl) ?_
    refine va_get (D := (dC, dI)) (ci := 1) (v := .ref h_mo_high) (C := R_Mo) (T := T_Mo) (N := 38) hx hb hB iw_Mo hown hK hP 0 rfl rfl 6 (by decide) (hB _ bw_879) (fun _ h9 => h9) rfl d_Mo_isSample_19 ?_
    refine lv_iload_n hx hb d_Mo_isSample_22 rfl (lv_at hl 1 rfl) ?_
    obtain ⟨hin, h⟩ := gq_e h
    refine va_iald hx hb hK hP 2 1 rfl rfl hin d_Mo_isSample_23 ?_
    refine lv_iconst (v := 1) hx hb d_Mo_isSample_24 (by decide) ?_
    refine lv_isub hx hb d_Mo_isSample_25 ?_
    obtain ⟨o9, hc9, h⟩ := bd_e h
    have hPc := hP.sub (ws' := []) [] rfl
    have hKc := hK.sub (tys' := []) [] rfl
    refine vp_callSi (va_Run.run (va_runS (As := [.int p2, .int (0 : Int32), .int ((mo_high (p0).toNatClampNeg) - (1 : Int32))]) (rest := []) ⟨hx, hb, hml, hown, hB⟩ (c_Mo_isIn l dC dI p2 (0 : Int32) ((mo_high (p0).toNatClampNeg) - (1 : Int32)) o9 hc9) (va_cwS 3 hB (goodA (m3 bw_996 bw_997 bw_13) (goodB bw_998)) rfl rfl rfl (by decide +kernel) ⟨Nat.le_of_ble_eq_true rfl, Nat.le_of_ble_eq_true rfl⟩) ⟨fb_p, (pre_p hPc hKc hnw [.int p2, .int (0 : Int32), .int ((mo_high (p0).toNatClampNeg) - (1 : Int32))])⟩ rfl rfl hl.1 rfl (lv_room (Nat.le_of_ble_eq_true rfl)) d_Mo_isSample_26 ⟨Nat.zero_le _, Nat.zero_le _⟩)) (fun r_2 e_r_2 => ?_)
    subst e_r_2
    clear hPc hKc hc9
    refine lv_if_eq (tgt := 36) hx hb d_Mo_isSample_29 (by decide) (fun c_2 => ?_) (fun c_2 => ?_)
    · have h := if_t h c_2
      refine lv_iconst (v := 0) hx hb d_Mo_isSample_36 (by decide) ?_
      subst eQ
      exact W.zret (v := (0 : Int32)) hx hb hr rfl (fun t ht hW => ⟨_, rfl, Option.some.inj h, ht⟩) (fun _ h9 => absurd h9 List.not_mem_nil) d_Mo_isSample_37
    · have h := if_f h c_2
      refine lv_iconst (v := 1) hx hb d_Mo_isSample_32 (by decide) ?_
      refine lv_goto (tgt := 37) hx hb d_Mo_isSample_33 (by decide) ?_
      subst eQ
      exact W.zret (v := (1 : Int32)) hx hb hr rfl (fun t ht hW => ⟨_, rfl, Option.some.inj h, ht⟩) (fun _ h9 => absurd h9 List.not_mem_nil) d_Mo_isSample_37
set_option maxHeartbeats 4000000 in
set_option maxRecDepth 100000 in
theorem c_Mo_put (l : Launch) (dC : Nat → ClassId) (dI : Nat → Nat → Nat) (h_mo : Nat) (h_mo_dark : Nat) (h_mo_wide : Nat) (h_mo_high : Nat) (c_mo_dark : ClassId) (c_mo_wide : ClassId) (c_mo_high : ClassId) (u_mo_width : Value) (u_mo_height : Value) (u_mo_kind : Value) (u_mo_instances : Value) (u_mo_symbolOf : Value) (u_mo_xs : Value) (u_mo_ys : Value) (u_mo_differs : Value) (u_mo_ways : Value) (u_mo_ordered : Value) (u_mo_page : Value) (u_mo_told : Value) (u_mo_keeps : Value) (u_mo_toldBytes : Value) (u_mo_out : Value) (u_mo_counts : Value) (u_mo_lengths : Value) (u_mo_codes : Value) (u_mo_weight : Value) (u_mo_over : Value) (u_mo_used : Value) (u_mo_row : Value) (u_mo_came : Value) (u_mo_in : Value) (u_mo_at : Value) (u_mo_refused : Value) (u_mo_place : Value) (u_mo_readMany : Value) (u_mo_readSymbol : Value) (u_mo_readX : Value) (u_mo_readY : Value) (u_mo_readDiffers : Value) (u_mo_readWays : Value) (mo_thrown : Int32) (mo_symbols : Int32) (mo_dark : (Nat → Int64)) (mo_wide : (Nat → Int32)) (mo_high : (Nat → Int32)) (p0 : Int32) (p1 : Int32) (p2 : Int32) (p3 : Int32) (sz : Nat) (o : Int32 × Int32 × (Nat → Int64)) (hf : f_Mo_put mo_symbols mo_dark mo_wide mo_high p0 p1 p2 p3 = some o) :
    Met l y_Mo_put ws_Mo_put { frames := 2, cells := 0, slots := 0, locals := 45 } (va_Pc [.ref h_mo, .int p0, .int p1, .int p2, .int p3] (PcM (dC, dI) [(h_mo, .inr (1, [.int mo_thrown, u_mo_width, u_mo_height, u_mo_kind, .int mo_symbols, .ref h_mo_wide, .ref h_mo_high, .ref h_mo_dark, u_mo_instances, u_mo_symbolOf, u_mo_xs, u_mo_ys, u_mo_differs, u_mo_ways, u_mo_ordered, u_mo_page, u_mo_told, u_mo_keeps, u_mo_toldBytes, u_mo_out, u_mo_counts, u_mo_lengths, u_mo_codes, u_mo_weight, u_mo_over, u_mo_used, u_mo_row, u_mo_came, u_mo_in, u_mo_at, u_mo_refused, u_mo_place, u_mo_readMany, u_mo_readSymbol, u_mo_readX, u_mo_readY, u_mo_readDiffers, u_mo_readWays])), (h_mo_dark, .inl (c_mo_dark, 16, .inr (.inl mo_dark))), (h_mo_wide, .inl (c_mo_wide, 16, .inl mo_wide)), (h_mo_high, .inl (c_mo_high, 16, .inl mo_high))] [(c_mo_dark, .long), (c_mo_wide, .int), (c_mo_high, .int)] sz))
      (va_Qi (fun (r : Int32) (u : Int32 × (Nat → Int64)) => (r, u) = o) (fun u t => va_P (dC, dI) CL [(h_mo, .inr (1, [.int (u.1), u_mo_width, u_mo_height, u_mo_kind, .int mo_symbols, .ref h_mo_wide, .ref h_mo_high, .ref h_mo_dark, u_mo_instances, u_mo_symbolOf, u_mo_xs, u_mo_ys, u_mo_differs, u_mo_ways, u_mo_ordered, u_mo_page, u_mo_told, u_mo_keeps, u_mo_toldBytes, u_mo_out, u_mo_counts, u_mo_lengths, u_mo_codes, u_mo_weight, u_mo_over, u_mo_used, u_mo_row, u_mo_came, u_mo_in, u_mo_at, u_mo_refused, u_mo_place, u_mo_readMany, u_mo_readSymbol, u_mo_readX, u_mo_readY, u_mo_readDiffers, u_mo_readWays])), (h_mo_dark, .inl (c_mo_dark, 16, .inr (.inl (u.2)))), (h_mo_wide, .inl (c_mo_wide, 16, .inl mo_wide)), (h_mo_high, .inl (c_mo_high, 16, .inl mo_high))] t.heap ∧ va_K (dC, dI) CL [(c_mo_dark, .long), (c_mo_wide, .int), (c_mo_high, .int)] t ∧ va_D (va_A [(h_mo, .inr (1, [.int mo_thrown, u_mo_width, u_mo_height, u_mo_kind, .int mo_symbols, .ref h_mo_wide, .ref h_mo_high, .ref h_mo_dark, u_mo_instances, u_mo_symbolOf, u_mo_xs, u_mo_ys, u_mo_differs, u_mo_ways, u_mo_ordered, u_mo_page, u_mo_told, u_mo_keeps, u_mo_toldBytes, u_mo_out, u_mo_counts, u_mo_lengths, u_mo_codes, u_mo_weight, u_mo_over, u_mo_used, u_mo_row, u_mo_came, u_mo_in, u_mo_at, u_mo_refused, u_mo_place, u_mo_readMany, u_mo_readSymbol, u_mo_readX, u_mo_readY, u_mo_readDiffers, u_mo_readWays])), (h_mo_dark, .inl (c_mo_dark, 16, .inr (.inl mo_dark))), (h_mo_wide, .inl (c_mo_wide, 16, .inl mo_wide)), (h_mo_high, .inl (c_mo_high, 16, .inl mo_high))] sz) [(h_mo, .inr (1, [.int (u.1), u_mo_width, u_mo_height, u_mo_kind, .int mo_symbols, .ref h_mo_wide, .ref h_mo_high, .ref h_mo_dark, u_mo_instances, u_mo_symbolOf, u_mo_xs, u_mo_ys, u_mo_differs, u_mo_ways, u_mo_ordered, u_mo_page, u_mo_told, u_mo_keeps, u_mo_toldBytes, u_mo_out, u_mo_counts, u_mo_lengths, u_mo_codes, u_mo_weight, u_mo_over, u_mo_used, u_mo_row, u_mo_came, u_mo_in, u_mo_at, u_mo_refused, u_mo_place, u_mo_readMany, u_mo_readSymbol, u_mo_readX, u_mo_readY, u_mo_readDiffers, u_mo_readWays])), (h_mo_dark, .inl (c_mo_dark, 16, .inr (.inl (u.2)))), (h_mo_wide, .inl (c_mo_wide, 16, .inl mo_wide)), (h_mo_high, .inl (c_mo_high, 16, .inl mo_high))]) (va_A [(h_mo, .inr (1, [.int mo_thrown, u_mo_width, u_mo_height, u_mo_kind, .int mo_symbols, .ref h_mo_wide, .ref h_mo_high, .ref h_mo_dark, u_mo_instances, u_mo_symbolOf, u_mo_xs, u_mo_ys, u_mo_differs, u_mo_ways, u_mo_ordered, u_mo_page, u_mo_told, u_mo_keeps, u_mo_toldBytes, u_mo_out, u_mo_counts, u_mo_lengths, u_mo_codes, u_mo_weight, u_mo_over, u_mo_used, u_mo_row, u_mo_came, u_mo_in, u_mo_at, u_mo_refused, u_mo_place, u_mo_readMany, u_mo_readSymbol, u_mo_readX, u_mo_readY, u_mo_readDiffers, u_mo_readWays])), (h_mo_dark, .inl (c_mo_dark, 16, .inr (.inl mo_dark))), (h_mo_wide, .inl (c_mo_wide, 16, .inl mo_wide)), (h_mo_high, .inl (c_mo_high, 16, .inl mo_high))] sz)) 0 0 (va_A [(h_mo, .inr (1, [.int mo_thrown, u_mo_width, u_mo_height, u_mo_kind, .int mo_symbols, .ref h_mo_wide, .ref h_mo_high, .ref h_mo_dark, u_mo_instances, u_mo_symbolOf, u_mo_xs, u_mo_ys, u_mo_differs, u_mo_ways, u_mo_ordered, u_mo_page, u_mo_told, u_mo_keeps, u_mo_toldBytes, u_mo_out, u_mo_counts, u_mo_lengths, u_mo_codes, u_mo_weight, u_mo_over, u_mo_used, u_mo_row, u_mo_came, u_mo_in, u_mo_at, u_mo_refused, u_mo_place, u_mo_readMany, u_mo_readSymbol, u_mo_readX, u_mo_readY, u_mo_readDiffers, u_mo_readWays])), (h_mo_dark, .inl (c_mo_dark, 16, .inr (.inl mo_dark))), (h_mo_wide, .inl (c_mo_wide, 16, .inl mo_wide)), (h_mo_high, .inl (c_mo_high, 16, .inl mo_high))] sz) := by
  refine Met.ofW (cc := b_Mo_put) (maxL := 8) (ret := (some .boolean)) (by decide) rfl ?_
  intro p e s m args below meth c s₁ B hml hv
  obtain ⟨rfl, hsz, hP, hK, hD0, hnw⟩ := hv
  have hx := B.exec
  have hb := B.bytes
  have hr := B.returns
  have hts := atoms_spec (ws := ws_Mo_put) B.pre
  have hB : ∀ w ∈ BIG, w.before _ s = true := fun w h => hts w (List.mem_cons_of_mem _ h)
  have hown : s.vm.findClass R_Mo = some m.cls := findClass_of_methodNamed B.named
  have hlocks := B.notSynchronized
  subst hsz
  have hD := hD0.self (sz := s.heap.size)
  refine W_Q (fun Q9 eQ => ?_)
  generalize hAe : va_A [(h_mo, .inr (1, [.int mo_thrown, u_mo_width, u_mo_height, u_mo_kind, .int mo_symbols, .ref h_mo_wide, .ref h_mo_high, .ref h_mo_dark, u_mo_instances, u_mo_symbolOf, u_mo_xs, u_mo_ys, u_mo_differs, u_mo_ways, u_mo_ordered, u_mo_page, u_mo_told, u_mo_keeps, u_mo_toldBytes, u_mo_out, u_mo_counts, u_mo_lengths, u_mo_codes, u_mo_weight, u_mo_over, u_mo_used, u_mo_row, u_mo_came, u_mo_in, u_mo_at, u_mo_refused, u_mo_place, u_mo_readMany, u_mo_readSymbol, u_mo_readX, u_mo_readY, u_mo_readDiffers, u_mo_readWays])), (h_mo_dark, .inl (c_mo_dark, 16, .inr (.inl mo_dark))), (h_mo_wide, .inl (c_mo_wide, 16, .inl mo_wide)), (h_mo_high, .inl (c_mo_high, 16, .inl mo_high))] s.heap.size = A at hD eQ
  have hA : ∀ q : Nat, s.heap.size ≤ q → A q := fun q h => by rw [← hAe]; exact Or.inr h
  have hS : va_S A s.heap s.heap [] := va_S.rf
  have hl := lv_entry ([.ref h_mo, .int p0, .int p1, .int p2, .int p3]) (n := 8) (Nat.le_of_ble_eq_true rfl)
  rw [lg_entry_eq]
  generalize (lg_sl ([.ref h_mo, .int p0, .int p1, .int p2, .int p3]) ++ List.replicate (8 - (lg_sl ([.ref h_mo, .int p0, .int p1, .int p2, .int p3])).length) Slot.unset).toArray = ls at hl ⊢
  have hl : lv_has ls 8 [(0, .ref h_mo), (1, .int p0), (2, .int p1), (3, .int p2), (4, .int p3)] := hl
  have h := hf
  unfold f_Mo_put at h
  refine lv_aload_n hx hb d_Mo_put_0 rfl (lv_at hl 0 rfl) ?_
  refine lv_iload_n hx hb d_Mo_put_1 rfl (lv_at hl 1 rfl) ?_
  refine lv_iconst (v := 0) hx hb d_Mo_put_2 (by decide) ?_
  refine lv_aload_n hx hb d_Mo_put_3 rfl (lv_at hl 0 rfl) ?_
  refine va_get (D := (dC, dI)) (ci := 1) (v := .int mo_symbols) (C := R_Mo) (T := T_Mo) (N := 38) hx hb hB iw_Mo hown hK hP 0 rfl rfl 4 (by decide) (hB _ bw_877) (fun _ h9 => h9) rfl d_Mo_put_4 ?_
  refine lv_iconst (v := 1) hx hb d_Mo_put_7 (by decide) ?_
  refine lv_isub hx hb d_Mo_put_8 ?_
  obtain ⟨o9, hc9, h⟩ := bd_e h
  have hPc := hP.sub (ws' := []) [] rfl
  have hKc := hK.sub (tys' := []) [] rfl
  refine vp_callSi (va_Run.run (va_runS (As := [.int p0, .int (0 : Int32), .int (mo_symbols - (1 : Int32))]) (rest := [.ref h_mo]) ⟨hx, hb, hml, hown, hB⟩ (c_Mo_isIn l dC dI p0 (0 : Int32) (mo_symbols - (1 : Int32)) o9 hc9) (va_cwS 3 hB (goodA (m3 bw_996 bw_997 bw_13) (goodB bw_998)) rfl rfl rfl (by decide +kernel) ⟨Nat.le_of_ble_eq_true rfl, Nat.le_of_ble_eq_true rfl⟩) ⟨fb_p, (pre_p hPc hKc hnw [.int p0, .int (0 : Int32), .int (mo_symbols - (1 : Int32))])⟩ rfl rfl hl.1 rfl (lv_room (Nat.le_of_ble_eq_true rfl)) d_Mo_put_9 ⟨Nat.zero_le _, Nat.zero_le _⟩)) (fun r_1 e_r_1 => ?_)
  subst e_r_1
  clear hPc hKc hc9
  obtain ⟨j30, e_j30, h⟩ := jn_e h
  have w_j30 : ∀ (s_2 : Int32) (H : Heap) (locs : List Loc) (ls : Array Slot), j30 s_2 = some o → va_P (dC, dI) CL [(h_mo, .inr (1, [.int mo_thrown, u_mo_width, u_mo_height, u_mo_kind, .int mo_symbols, .ref h_mo_wide, .ref h_mo_high, .ref h_mo_dark, u_mo_instances, u_mo_symbolOf, u_mo_xs, u_mo_ys, u_mo_differs, u_mo_ways, u_mo_ordered, u_mo_page, u_mo_told, u_mo_keeps, u_mo_toldBytes, u_mo_out, u_mo_counts, u_mo_lengths, u_mo_codes, u_mo_weight, u_mo_over, u_mo_used, u_mo_row, u_mo_came, u_mo_in, u_mo_at, u_mo_refused, u_mo_place, u_mo_readMany, u_mo_readSymbol, u_mo_readX, u_mo_readY, u_mo_readDiffers, u_mo_readWays])), (h_mo_dark, .inl (c_mo_dark, 16, .inr (.inl mo_dark))), (h_mo_wide, .inl (c_mo_wide, 16, .inl mo_wide)), (h_mo_high, .inl (c_mo_high, 16, .inl mo_high))] H → va_D A [(h_mo, .inr (1, [.int mo_thrown, u_mo_width, u_mo_height, u_mo_kind, .int mo_symbols, .ref h_mo_wide, .ref h_mo_high, .ref h_mo_dark, u_mo_instances, u_mo_symbolOf, u_mo_xs, u_mo_ys, u_mo_differs, u_mo_ways, u_mo_ordered, u_mo_page, u_mo_told, u_mo_keeps, u_mo_toldBytes, u_mo_out, u_mo_counts, u_mo_lengths, u_mo_codes, u_mo_weight, u_mo_over, u_mo_used, u_mo_row, u_mo_came, u_mo_in, u_mo_at, u_mo_refused, u_mo_place, u_mo_readMany, u_mo_readSymbol, u_mo_readX, u_mo_readY, u_mo_readDiffers, u_mo_readWays])), (h_mo_dark, .inl (c_mo_dark, 16, .inr (.inl mo_dark))), (h_mo_wide, .inl (c_mo_wide, 16, .inl mo_wide)), (h_mo_high, .inl (c_mo_high, 16, .inl mo_high))] → va_S A s.heap H locs → lv_has ls 8 [(0, .ref h_mo), (1, .int p0), (2, .int p1), (3, .int p2), (4, .int p3)] → W p l e ({ frames := 2, cells := 0, slots := 0, locals := 45 } : Room) s m ([.ref h_mo, .int p0, .int p1, .int p2, .int p3] : List Value).toArray below meth c H locs 0 0 Q9 (F0 m 30 ls [.int s_2, .ref h_mo]) := by
    intro s_2 H locs ls h hP hD hS hl
    rw [e_j30] at h
    refine va_put (D := (dC, dI)) (ci := 1) (v := .int s_2) (ty := .int) (C := R_Mo) (T := T_Mo) (N := 38) hx hb hB iw_Mo ty_Mo tk_Mo n_Mo hown hK hP hD hS 0 rfl rfl 0 (by decide) (hB _ bw_873) (fun _ h9 => h9) rfl (by decide +kernel) rfl rfl (Nat.le_of_ble_eq_true rfl) d_Mo_put_30 (fun H locs hP hD hS => ?_)
    have hP : va_P (dC, dI) CL [(h_mo, .inr (1, [.int s_2, u_mo_width, u_mo_height, u_mo_kind, .int mo_symbols, .ref h_mo_wide, .ref h_mo_high, .ref h_mo_dark, u_mo_instances, u_mo_symbolOf, u_mo_xs, u_mo_ys, u_mo_differs, u_mo_ways, u_mo_ordered, u_mo_page, u_mo_told, u_mo_keeps, u_mo_toldBytes, u_mo_out, u_mo_counts, u_mo_lengths, u_mo_codes, u_mo_weight, u_mo_over, u_mo_used, u_mo_row, u_mo_came, u_mo_in, u_mo_at, u_mo_refused, u_mo_place, u_mo_readMany, u_mo_readSymbol, u_mo_readX, u_mo_readY, u_mo_readDiffers, u_mo_readWays])), (h_mo_dark, .inl (c_mo_dark, 16, .inr (.inl mo_dark))), (h_mo_wide, .inl (c_mo_wide, 16, .inl mo_wide)), (h_mo_high, .inl (c_mo_high, 16, .inl mo_high))] H := hP
    have hD : va_D A [(h_mo, .inr (1, [.int s_2, u_mo_width, u_mo_height, u_mo_kind, .int mo_symbols, .ref h_mo_wide, .ref h_mo_high, .ref h_mo_dark, u_mo_instances, u_mo_symbolOf, u_mo_xs, u_mo_ys, u_mo_differs, u_mo_ways, u_mo_ordered, u_mo_page, u_mo_told, u_mo_keeps, u_mo_toldBytes, u_mo_out, u_mo_counts, u_mo_lengths, u_mo_codes, u_mo_weight, u_mo_over, u_mo_used, u_mo_row, u_mo_came, u_mo_in, u_mo_at, u_mo_refused, u_mo_place, u_mo_readMany, u_mo_readSymbol, u_mo_readX, u_mo_readY, u_mo_readDiffers, u_mo_readWays])), (h_mo_dark, .inl (c_mo_dark, 16, .inr (.inl mo_dark))), (h_mo_wide, .inl (c_mo_wide, 16, .inl mo_wide)), (h_mo_high, .inl (c_mo_high, 16, .inl mo_high))] := hD
    refine lv_aload_n hx hb d_Mo_put_33 rfl (lv_at hl 0 rfl) ?_
    refine va_get (D := (dC, dI)) (ci := 1) (v := .int s_2) (C := R_Mo) (T := T_Mo) (N := 38) hx hb hB iw_Mo hown hK hP 0 rfl rfl 0 (by decide) (hB _ bw_873) (fun _ h9 => h9) rfl d_Mo_put_34 ?_
    refine lv_if_le (tgt := 42) hx hb d_Mo_put_37 (by decide) (fun c_1 => ?_) (fun c_1 => ?_)
    · have h := if_t h c_1
      refine lv_lconst (v := 1) hx hb d_Mo_put_42 (by decide) ?_
      refine lv_bipush (v := 8) hx hb d_Mo_put_43 (by decide) ?_
      refine lv_iload_n hx hb d_Mo_put_45 rfl (lv_at hl 3 rfl) ?_
      refine lv_imul hx hb d_Mo_put_46 ?_
      refine lv_iload_n hx hb d_Mo_put_47 rfl (lv_at hl 2 rfl) ?_
      refine lv_iadd hx hb d_Mo_put_48 ?_
      refine lv_lshl hx hb d_Mo_put_49 rfl ?_
      refine lv_topl (fun v5_3 e_v5_3 => ?_)
      have h := nl_u e_v5_3 h
      refine lv_lstore (lv' := [(5, .long v5_3), (0, .ref h_mo), (1, .int p0), (2, .int p1), (3, .int p2), (4, .int p3)]) hx hb d_Mo_put_50 hl (by decide) rfl (fun ls hl => ?_)
      refine lv_aload_n hx hb d_Mo_put_52 rfl (lv_at hl 1 rfl) ?_
      refine va_get (D := (dC, dI)) (ci := 1) (v := .ref h_mo_dark) (C := R_Mo) (T := T_Mo) (N := 38) hx hb hB iw_Mo hown hK hP 0 rfl rfl 7 (by decide) (hB _ bw_880) (fun _ h9 => h9) rfl d_Mo_put_53 ?_
      refine lv_iload_n hx hb d_Mo_put_56 rfl (lv_at hl 2 rfl) ?_
      obtain ⟨hin, h⟩ := gq_e h
      refine va_lald hx hb hK hP 1 0 rfl rfl hin d_Mo_put_57 ?_
      refine lv_lload hx hb d_Mo_put_58 (lv_at hl 0 rfl) ?_
      refine lv_land hx hb d_Mo_put_60 ?_
      refine lv_lconst (v := 0) hx hb d_Mo_put_61 (by decide) ?_
      refine W.lcmp hx hb d_Mo_put_62 ?_
      obtain ⟨j71, e_j71, h⟩ := jn_e h
      have w_j71 : ∀ (s_4 : Int32) (H : Heap) (locs : List Loc) (ls : Array Slot), j71 s_4 = some o → va_P (dC, dI) CL [(h_mo, .inr (1, [.int s_2, u_mo_width, u_mo_height, u_mo_kind, .int mo_symbols, .ref h_mo_wide, .ref h_mo_high, .ref h_mo_dark, u_mo_instances, u_mo_symbolOf, u_mo_xs, u_mo_ys, u_mo_differs, u_mo_ways, u_mo_ordered, u_mo_page, u_mo_told, u_mo_keeps, u_mo_toldBytes, u_mo_out, u_mo_counts, u_mo_lengths, u_mo_codes, u_mo_weight, u_mo_over, u_mo_used, u_mo_row, u_mo_came, u_mo_in, u_mo_at, u_mo_refused, u_mo_place, u_mo_readMany, u_mo_readSymbol, u_mo_readX, u_mo_readY, u_mo_readDiffers, u_mo_readWays])), (h_mo_dark, .inl (c_mo_dark, 16, .inr (.inl mo_dark))), (h_mo_wide, .inl (c_mo_wide, 16, .inl mo_wide)), (h_mo_high, .inl (c_mo_high, 16, .inl mo_high))] H → va_D A [(h_mo, .inr (1, [.int s_2, u_mo_width, u_mo_height, u_mo_kind, .int mo_symbols, .ref h_mo_wide, .ref h_mo_high, .ref h_mo_dark, u_mo_instances, u_mo_symbolOf, u_mo_xs, u_mo_ys, u_mo_differs, u_mo_ways, u_mo_ordered, u_mo_page, u_mo_told, u_mo_keeps, u_mo_toldBytes, u_mo_out, u_mo_counts, u_mo_lengths, u_mo_codes, u_mo_weight, u_mo_over, u_mo_used, u_mo_row, u_mo_came, u_mo_in, u_mo_at, u_mo_refused, u_mo_place, u_mo_readMany, u_mo_readSymbol, u_mo_readX, u_mo_readY, u_mo_readDiffers, u_mo_readWays])), (h_mo_dark, .inl (c_mo_dark, 16, .inr (.inl mo_dark))), (h_mo_wide, .inl (c_mo_wide, 16, .inl mo_wide)), (h_mo_high, .inl (c_mo_high, 16, .inl mo_high))] → va_S A s.heap H locs → lv_has ls 8 [(5, .long v5_3), (0, .ref h_mo), (1, .int p0), (4, .int p3)] → W p l e ({ frames := 2, cells := 0, slots := 0, locals := 45 } : Room) s m ([.ref h_mo, .int p0, .int p1, .int p2, .int p3] : List Value).toArray below meth c H locs 0 0 Q9 (F0 m 71 ls [.int s_4]) := by
        intro s_4 H locs ls h hP hD hS hl
        rw [e_j71] at h
        refine lv_istore (lv' := [(7, .int s_4), (5, .long v5_3), (0, .ref h_mo), (1, .int p0), (4, .int p3)]) hx hb d_Mo_put_71 hl (by decide) rfl (fun ls hl => ?_)
        refine lv_aload_n hx hb d_Mo_put_73 rfl (lv_at hl 2 rfl) ?_
        refine va_get (D := (dC, dI)) (ci := 1) (v := .ref h_mo_dark) (C := R_Mo) (T := T_Mo) (N := 38) hx hb hB iw_Mo hown hK hP 0 rfl rfl 7 (by decide) (hB _ bw_880) (fun _ h9 => h9) rfl d_Mo_put_74 ?_
        refine lv_iload_n hx hb d_Mo_put_77 rfl (lv_at hl 3 rfl) ?_
        refine lv_iload hx hb d_Mo_put_78 (lv_at hl 4 rfl) ?_
        obtain ⟨j108, e_j108, h⟩ := jn_e h
        have w_j108 : ∀ (s_5 : Int32) (s_6 : Int64) (H : Heap) (locs : List Loc) (ls : Array Slot), j108 s_5 s_6 = some o → va_P (dC, dI) CL [(h_mo, .inr (1, [.int s_2, u_mo_width, u_mo_height, u_mo_kind, .int mo_symbols, .ref h_mo_wide, .ref h_mo_high, .ref h_mo_dark, u_mo_instances, u_mo_symbolOf, u_mo_xs, u_mo_ys, u_mo_differs, u_mo_ways, u_mo_ordered, u_mo_page, u_mo_told, u_mo_keeps, u_mo_toldBytes, u_mo_out, u_mo_counts, u_mo_lengths, u_mo_codes, u_mo_weight, u_mo_over, u_mo_used, u_mo_row, u_mo_came, u_mo_in, u_mo_at, u_mo_refused, u_mo_place, u_mo_readMany, u_mo_readSymbol, u_mo_readX, u_mo_readY, u_mo_readDiffers, u_mo_readWays])), (h_mo_dark, .inl (c_mo_dark, 16, .inr (.inl mo_dark))), (h_mo_wide, .inl (c_mo_wide, 16, .inl mo_wide)), (h_mo_high, .inl (c_mo_high, 16, .inl mo_high))] H → va_D A [(h_mo, .inr (1, [.int s_2, u_mo_width, u_mo_height, u_mo_kind, .int mo_symbols, .ref h_mo_wide, .ref h_mo_high, .ref h_mo_dark, u_mo_instances, u_mo_symbolOf, u_mo_xs, u_mo_ys, u_mo_differs, u_mo_ways, u_mo_ordered, u_mo_page, u_mo_told, u_mo_keeps, u_mo_toldBytes, u_mo_out, u_mo_counts, u_mo_lengths, u_mo_codes, u_mo_weight, u_mo_over, u_mo_used, u_mo_row, u_mo_came, u_mo_in, u_mo_at, u_mo_refused, u_mo_place, u_mo_readMany, u_mo_readSymbol, u_mo_readX, u_mo_readY, u_mo_readDiffers, u_mo_readWays])), (h_mo_dark, .inl (c_mo_dark, 16, .inr (.inl mo_dark))), (h_mo_wide, .inl (c_mo_wide, 16, .inl mo_wide)), (h_mo_high, .inl (c_mo_high, 16, .inl mo_high))] → va_S A s.heap H locs → lv_has ls 8 [(7, .int s_4), (4, .int p3)] → W p l e ({ frames := 2, cells := 0, slots := 0, locals := 45 } : Room) s m ([.ref h_mo, .int p0, .int p1, .int p2, .int p3] : List Value).toArray below meth c H locs 0 0 Q9 (F0 m 108 ls [.long s_6, .int s_5, .ref h_mo_dark]) := by
          intro s_5 s_6 H locs ls h hP hD hS hl
          rw [e_j108] at h
          obtain ⟨hin, h⟩ := gq_e h
          refine va_last hx hb hK hP hD hS 1 0 rfl rfl hin d_Mo_put_108 (fun H locs hP hD hS => ?_)
          have hP : va_P (dC, dI) CL [(h_mo, .inr (1, [.int s_2, u_mo_width, u_mo_height, u_mo_kind, .int mo_symbols, .ref h_mo_wide, .ref h_mo_high, .ref h_mo_dark, u_mo_instances, u_mo_symbolOf, u_mo_xs, u_mo_ys, u_mo_differs, u_mo_ways, u_mo_ordered, u_mo_page, u_mo_told, u_mo_keeps, u_mo_toldBytes, u_mo_out, u_mo_counts, u_mo_lengths, u_mo_codes, u_mo_weight, u_mo_over, u_mo_used, u_mo_row, u_mo_came, u_mo_in, u_mo_at, u_mo_refused, u_mo_place, u_mo_readMany, u_mo_readSymbol, u_mo_readX, u_mo_readY, u_mo_readDiffers, u_mo_readWays])), (h_mo_dark, .inl (c_mo_dark, 16, .inr (.inl (vp_updL mo_dark (s_5).toNatClampNeg s_6)))), (h_mo_wide, .inl (c_mo_wide, 16, .inl mo_wide)), (h_mo_high, .inl (c_mo_high, 16, .inl mo_high))] H := hP
          have hD : va_D A [(h_mo, .inr (1, [.int s_2, u_mo_width, u_mo_height, u_mo_kind, .int mo_symbols, .ref h_mo_wide, .ref h_mo_high, .ref h_mo_dark, u_mo_instances, u_mo_symbolOf, u_mo_xs, u_mo_ys, u_mo_differs, u_mo_ways, u_mo_ordered, u_mo_page, u_mo_told, u_mo_keeps, u_mo_toldBytes, u_mo_out, u_mo_counts, u_mo_lengths, u_mo_codes, u_mo_weight, u_mo_over, u_mo_used, u_mo_row, u_mo_came, u_mo_in, u_mo_at, u_mo_refused, u_mo_place, u_mo_readMany, u_mo_readSymbol, u_mo_readX, u_mo_readY, u_mo_readDiffers, u_mo_readWays])), (h_mo_dark, .inl (c_mo_dark, 16, .inr (.inl (vp_updL mo_dark (s_5).toNatClampNeg s_6)))), (h_mo_wide, .inl (c_mo_wide, 16, .inl mo_wide)), (h_mo_high, .inl (c_mo_high, 16, .inl mo_high))] := hD
          refine lv_iload hx hb d_Mo_put_109 (lv_at hl 0 rfl) ?_
          refine lv_iload hx hb d_Mo_put_111 (lv_at hl 1 rfl) ?_
          refine lv_icmp_eq (tgt := 120) hx hb d_Mo_put_113 (by decide) (fun c_2 => ?_) (fun c_2 => ?_)
          · have h := if_t h c_2
            refine lv_iconst (v := 0) hx hb d_Mo_put_120 (by decide) ?_
            subst eQ
            exact W.zret (v := (0 : Int32)) hx hb hr rfl (fun t ht hW => ⟨⟨_, (s_2, (vp_updL mo_dark (s_5).toNatClampNeg s_6)), rfl, Option.some.inj h, by rw [ht]; exact hP, va_K.moved hW.alike hK, hD⟩, hS.F ht⟩) hS.2.2 d_Mo_put_121
          · have h := if_f h c_2
            refine lv_iconst (v := 1) hx hb d_Mo_put_116 (by decide) ?_
            refine lv_goto (tgt := 121) hx hb d_Mo_put_117 (by decide) ?_
            subst eQ
            exact W.zret (v := (1 : Int32)) hx hb hr rfl (fun t ht hW => ⟨⟨_, (s_2, (vp_updL mo_dark (s_5).toNatClampNeg s_6)), rfl, Option.some.inj h, by rw [ht]; exact hP, va_K.moved hW.alike hK, hD⟩, hS.F ht⟩) hS.2.2 d_Mo_put_121
        refine lv_if_eq (tgt := 95) hx hb d_Mo_put_80 (by decide) (fun c_3 => ?_) (fun c_3 => ?_)
        · have h := if_t h c_3
          refine lv_aload_n hx hb d_Mo_put_95 rfl (lv_at hl 2 rfl) ?_
          refine va_get (D := (dC, dI)) (ci := 1) (v := .ref h_mo_dark) (C := R_Mo) (T := T_Mo) (N := 38) hx hb hB iw_Mo hown hK hP 0 rfl rfl 7 (by decide) (hB _ bw_880) (fun _ h9 => h9) rfl d_Mo_put_96 ?_
          refine lv_iload_n hx hb d_Mo_put_99 rfl (lv_at hl 3 rfl) ?_
          obtain ⟨hin, h⟩ := gq_e h
          refine va_lald hx hb hK hP 1 0 rfl rfl hin d_Mo_put_100 ?_
          refine lv_lload hx hb d_Mo_put_101 (lv_at hl 1 rfl) ?_
          refine lv_ldc2 (v := -1) hx hb hown (hts (.constantLong R_Mo 114 (-1)) (by decide +kernel)) d_Mo_put_103 ?_
          refine lv_lxor hx hb d_Mo_put_106 ?_
          refine lv_land hx hb d_Mo_put_107 ?_
          exact w_j108 _ _ _ _ _ h hP hD hS (lv_sub hl [0, 4] rfl)
        · have h := if_f h c_3
          refine lv_aload_n hx hb d_Mo_put_83 rfl (lv_at hl 2 rfl) ?_
          refine va_get (D := (dC, dI)) (ci := 1) (v := .ref h_mo_dark) (C := R_Mo) (T := T_Mo) (N := 38) hx hb hB iw_Mo hown hK hP 0 rfl rfl 7 (by decide) (hB _ bw_880) (fun _ h9 => h9) rfl d_Mo_put_84 ?_
          refine lv_iload_n hx hb d_Mo_put_87 rfl (lv_at hl 3 rfl) ?_
          obtain ⟨hin, h⟩ := gq_e h
          refine va_lald hx hb hK hP 1 0 rfl rfl hin d_Mo_put_88 ?_
          refine lv_lload hx hb d_Mo_put_89 (lv_at hl 1 rfl) ?_
          refine lv_lor hx hb d_Mo_put_91 ?_
          refine lv_goto (tgt := 108) hx hb d_Mo_put_92 (by decide) ?_
          exact w_j108 _ _ _ _ _ h hP hD hS (lv_sub hl [0, 4] rfl)
      refine lv_if_eq (tgt := 70) hx hb d_Mo_put_63 (by decide) (fun c_4 => ?_) (fun c_4 => ?_)
      · have h := if_t h c_4
        refine lv_iconst (v := 0) hx hb d_Mo_put_70 (by decide) ?_
        exact w_j71 _ _ _ _ h hP hD hS (lv_sub hl [0, 1, 2, 5] rfl)
      · have h := if_f h c_4
        refine lv_iconst (v := 1) hx hb d_Mo_put_66 (by decide) ?_
        refine lv_goto (tgt := 71) hx hb d_Mo_put_67 (by decide) ?_
        exact w_j71 _ _ _ _ h hP hD hS (lv_sub hl [0, 1, 2, 5] rfl)
    · have h := if_f h c_1
      refine lv_iconst (v := 0) hx hb d_Mo_put_40 (by decide) ?_
      subst eQ
      exact W.zret (v := (0 : Int32)) hx hb hr rfl (fun t ht hW => ⟨⟨_, (s_2, mo_dark), rfl, Option.some.inj h, by rw [ht]; exact hP, va_K.moved hW.alike hK, hD⟩, hS.F ht⟩) hS.2.2 d_Mo_put_41
  obtain ⟨j25, e_j25, h⟩ := jn_e h
  have w_j25 : ∀ (H : Heap) (locs : List Loc) (ls : Array Slot), j25 () = some o → va_P (dC, dI) CL [(h_mo, .inr (1, [.int mo_thrown, u_mo_width, u_mo_height, u_mo_kind, .int mo_symbols, .ref h_mo_wide, .ref h_mo_high, .ref h_mo_dark, u_mo_instances, u_mo_symbolOf, u_mo_xs, u_mo_ys, u_mo_differs, u_mo_ways, u_mo_ordered, u_mo_page, u_mo_told, u_mo_keeps, u_mo_toldBytes, u_mo_out, u_mo_counts, u_mo_lengths, u_mo_codes, u_mo_weight, u_mo_over, u_mo_used, u_mo_row, u_mo_came, u_mo_in, u_mo_at, u_mo_refused, u_mo_place, u_mo_readMany, u_mo_readSymbol, u_mo_readX, u_mo_readY, u_mo_readDiffers, u_mo_readWays])), (h_mo_dark, .inl (c_mo_dark, 16, .inr (.inl mo_dark))), (h_mo_wide, .inl (c_mo_wide, 16, .inl mo_wide)), (h_mo_high, .inl (c_mo_high, 16, .inl mo_high))] H → va_D A [(h_mo, .inr (1, [.int mo_thrown, u_mo_width, u_mo_height, u_mo_kind, .int mo_symbols, .ref h_mo_wide, .ref h_mo_high, .ref h_mo_dark, u_mo_instances, u_mo_symbolOf, u_mo_xs, u_mo_ys, u_mo_differs, u_mo_ways, u_mo_ordered, u_mo_page, u_mo_told, u_mo_keeps, u_mo_toldBytes, u_mo_out, u_mo_counts, u_mo_lengths, u_mo_codes, u_mo_weight, u_mo_over, u_mo_used, u_mo_row, u_mo_came, u_mo_in, u_mo_at, u_mo_refused, u_mo_place, u_mo_readMany, u_mo_readSymbol, u_mo_readX, u_mo_readY, u_mo_readDiffers, u_mo_readWays])), (h_mo_dark, .inl (c_mo_dark, 16, .inr (.inl mo_dark))), (h_mo_wide, .inl (c_mo_wide, 16, .inl mo_wide)), (h_mo_high, .inl (c_mo_high, 16, .inl mo_high))] → va_S A s.heap H locs → lv_has ls 8 [(0, .ref h_mo), (1, .int p0), (2, .int p1), (3, .int p2), (4, .int p3)] → W p l e ({ frames := 2, cells := 0, slots := 0, locals := 45 } : Room) s m ([.ref h_mo, .int p0, .int p1, .int p2, .int p3] : List Value).toArray below meth c H locs 0 0 Q9 (F0 m 25 ls [.ref h_mo]) := by
    intro H locs ls h hP hD hS hl
    rw [e_j25] at h
    refine lv_iconst (v := 1) hx hb d_Mo_put_25 (by decide) ?_
    refine lv_goto (tgt := 30) hx hb d_Mo_put_26 (by decide) ?_
    exact w_j30 _ _ _ _ h hP hD hS hl
  refine lv_if_eq (tgt := 25) hx hb d_Mo_put_12 (by decide) (fun c_5 => ?_) (fun c_5 => ?_)
  · have h := if_t h c_5
    exact w_j25 _ _ _ h hP hD hS hl
  · have h := if_f h c_5
    refine lv_aload_n hx hb d_Mo_put_15 rfl (lv_at hl 0 rfl) ?_
    refine lv_iload_n hx hb d_Mo_put_16 rfl (lv_at hl 1 rfl) ?_
    refine lv_iload_n hx hb d_Mo_put_17 rfl (lv_at hl 2 rfl) ?_
    refine lv_iload_n hx hb d_Mo_put_18 rfl (lv_at hl 3 rfl) ?_
    obtain ⟨o9, hc9, h⟩ := bd_e h
    have hPc := hP.sub (ws' := [(h_mo, .inr (1, [.int mo_thrown, u_mo_width, u_mo_height, u_mo_kind, .int mo_symbols, .ref h_mo_wide, .ref h_mo_high, .ref h_mo_dark, u_mo_instances, u_mo_symbolOf, u_mo_xs, u_mo_ys, u_mo_differs, u_mo_ways, u_mo_ordered, u_mo_page, u_mo_told, u_mo_keeps, u_mo_toldBytes, u_mo_out, u_mo_counts, u_mo_lengths, u_mo_codes, u_mo_weight, u_mo_over, u_mo_used, u_mo_row, u_mo_came, u_mo_in, u_mo_at, u_mo_refused, u_mo_place, u_mo_readMany, u_mo_readSymbol, u_mo_readX, u_mo_readY, u_mo_readDiffers, u_mo_readWays])), (h_mo_wide, .inl (c_mo_wide, 16, .inl mo_wide)), (h_mo_high, .inl (c_mo_high, 16, .inl mo_high))]) [0, 2, 3] rfl
    have hKc := hK.sub (tys' := [(c_mo_wide, .int), (c_mo_high, .int)]) [1, 2] rfl
    refine vp_callSi (va_Run.run (va_runV (As := [.int p0, .int p1, .int p2]) (rest := [.ref h_mo]) ⟨hx, hb, hml, hown, hB⟩ (c_Mo_isSample l dC dI h_mo h_mo_wide h_mo_high c_mo_wide c_mo_high (.int mo_thrown) u_mo_width u_mo_height u_mo_kind (.int mo_symbols) (.ref h_mo_dark) u_mo_instances u_mo_symbolOf u_mo_xs u_mo_ys u_mo_differs u_mo_ways u_mo_ordered u_mo_page u_mo_told u_mo_keeps u_mo_toldBytes u_mo_out u_mo_counts u_mo_lengths u_mo_codes u_mo_weight u_mo_over u_mo_used u_mo_row u_mo_came u_mo_in u_mo_at u_mo_refused u_mo_place u_mo_readMany u_mo_readSymbol u_mo_readX u_mo_readY u_mo_readDiffers u_mo_readWays mo_wide mo_high p0 p1 p2 o9 hc9) (cwV 3 hB (goodA (m4 bw_1003 bw_1005 bs_55 bw_13) (goodB bw_1006)) rfl rfl rfl (by decide +kernel) ⟨Nat.le_of_ble_eq_true rfl, Nat.le_of_ble_eq_true rfl⟩) ⟨fb_p, va_recv hK hP (ci := 1) (q0 := 0) rfl rfl, (pre_p hPc hKc hnw [.ref h_mo, .int p0, .int p1, .int p2])⟩ rfl rfl hl.1 rfl (lv_room (Nat.le_of_ble_eq_true rfl)) d_Mo_put_19 ⟨Nat.zero_le _, Nat.zero_le _⟩)) (fun r_7 e_r_7 => ?_)
    subst e_r_7
    clear hPc hKc hc9
    refine lv_if_ne (tgt := 29) hx hb d_Mo_put_22 (by decide) (fun c_6 => ?_) (fun c_6 => ?_)
    · have h := if_f h c_6
      refine lv_iconst (v := 0) hx hb d_Mo_put_29 (by decide) ?_
      exact w_j30 _ _ _ _ h hP hD hS hl
    · have h := if_t h c_6
      exact w_j25 _ _ _ h hP hD hS hl
set_option maxHeartbeats 4000000 in
set_option maxRecDepth 100000 in
theorem c_Mo_instance (l : Launch) (dC : Nat → ClassId) (dI : Nat → Nat → Nat) (h_mo : Nat) (h_mo_symbolOf : Nat) (h_mo_xs : Nat) (h_mo_ys : Nat) (h_mo_differs : Nat) (c_mo_symbolOf : ClassId) (c_mo_xs : ClassId) (c_mo_ys : ClassId) (c_mo_differs : ClassId) (u_mo_width : Value) (u_mo_height : Value) (u_mo_kind : Value) (u_mo_wide : Value) (u_mo_high : Value) (u_mo_dark : Value) (u_mo_ways : Value) (u_mo_ordered : Value) (u_mo_page : Value) (u_mo_told : Value) (u_mo_keeps : Value) (u_mo_toldBytes : Value) (u_mo_out : Value) (u_mo_counts : Value) (u_mo_lengths : Value) (u_mo_codes : Value) (u_mo_weight : Value) (u_mo_over : Value) (u_mo_used : Value) (u_mo_row : Value) (u_mo_came : Value) (u_mo_in : Value) (u_mo_at : Value) (u_mo_refused : Value) (u_mo_place : Value) (u_mo_readMany : Value) (u_mo_readSymbol : Value) (u_mo_readX : Value) (u_mo_readY : Value) (u_mo_readDiffers : Value) (u_mo_readWays : Value) (mo_thrown : Int32) (mo_symbols : Int32) (mo_instances : Int32) (mo_symbolOf : (Nat → Int32)) (mo_xs : (Nat → Int32)) (mo_ys : (Nat → Int32)) (mo_differs : (Nat → Int64)) (p0 : Int32) (p1 : Int32) (p2 : Int32) (sz : Nat) (o : Int32 × Int32 × Int32 × (Nat → Int32) × (Nat → Int32) × (Nat → Int32) × (Nat → Int64)) (hf : f_Mo_instance mo_symbols mo_instances mo_symbolOf mo_xs mo_ys mo_differs p0 p1 p2 = some o) :
    Met l y_Mo_instance ws_Mo_instance { frames := 1, cells := 0, slots := 0, locals := 22 } (va_Pc [.ref h_mo, .int p0, .int p1, .int p2] (PcM (dC, dI) [(h_mo, .inr (1, [.int mo_thrown, u_mo_width, u_mo_height, u_mo_kind, .int mo_symbols, u_mo_wide, u_mo_high, u_mo_dark, .int mo_instances, .ref h_mo_symbolOf, .ref h_mo_xs, .ref h_mo_ys, .ref h_mo_differs, u_mo_ways, u_mo_ordered, u_mo_page, u_mo_told, u_mo_keeps, u_mo_toldBytes, u_mo_out, u_mo_counts, u_mo_lengths, u_mo_codes, u_mo_weight, u_mo_over, u_mo_used, u_mo_row, u_mo_came, u_mo_in, u_mo_at, u_mo_refused, u_mo_place, u_mo_readMany, u_mo_readSymbol, u_mo_readX, u_mo_readY, u_mo_readDiffers, u_mo_readWays])), (h_mo_symbolOf, .inl (c_mo_symbolOf, 40, .inl mo_symbolOf)), (h_mo_xs, .inl (c_mo_xs, 40, .inl mo_xs)), (h_mo_ys, .inl (c_mo_ys, 40, .inl mo_ys)), (h_mo_differs, .inl (c_mo_differs, 40, .inr (.inl mo_differs)))] [(c_mo_symbolOf, .int), (c_mo_xs, .int), (c_mo_ys, .int), (c_mo_differs, .long)] sz))
      (va_Qi (fun (r : Int32) (u : Int32 × Int32 × (Nat → Int32) × (Nat → Int32) × (Nat → Int32) × (Nat → Int64)) => (r, u) = o) (fun u t => va_P (dC, dI) CL [(h_mo, .inr (1, [.int (u.1), u_mo_width, u_mo_height, u_mo_kind, .int mo_symbols, u_mo_wide, u_mo_high, u_mo_dark, .int (u.2.1), .ref h_mo_symbolOf, .ref h_mo_xs, .ref h_mo_ys, .ref h_mo_differs, u_mo_ways, u_mo_ordered, u_mo_page, u_mo_told, u_mo_keeps, u_mo_toldBytes, u_mo_out, u_mo_counts, u_mo_lengths, u_mo_codes, u_mo_weight, u_mo_over, u_mo_used, u_mo_row, u_mo_came, u_mo_in, u_mo_at, u_mo_refused, u_mo_place, u_mo_readMany, u_mo_readSymbol, u_mo_readX, u_mo_readY, u_mo_readDiffers, u_mo_readWays])), (h_mo_symbolOf, .inl (c_mo_symbolOf, 40, .inl (u.2.2.1))), (h_mo_xs, .inl (c_mo_xs, 40, .inl (u.2.2.2.1))), (h_mo_ys, .inl (c_mo_ys, 40, .inl (u.2.2.2.2.1))), (h_mo_differs, .inl (c_mo_differs, 40, .inr (.inl (u.2.2.2.2.2))))] t.heap ∧ va_K (dC, dI) CL [(c_mo_symbolOf, .int), (c_mo_xs, .int), (c_mo_ys, .int), (c_mo_differs, .long)] t ∧ va_D (va_A [(h_mo, .inr (1, [.int mo_thrown, u_mo_width, u_mo_height, u_mo_kind, .int mo_symbols, u_mo_wide, u_mo_high, u_mo_dark, .int mo_instances, .ref h_mo_symbolOf, .ref h_mo_xs, .ref h_mo_ys, .ref h_mo_differs, u_mo_ways, u_mo_ordered, u_mo_page, u_mo_told, u_mo_keeps, u_mo_toldBytes, u_mo_out, u_mo_counts, u_mo_lengths, u_mo_codes, u_mo_weight, u_mo_over, u_mo_used, u_mo_row, u_mo_came, u_mo_in, u_mo_at, u_mo_refused, u_mo_place, u_mo_readMany, u_mo_readSymbol, u_mo_readX, u_mo_readY, u_mo_readDiffers, u_mo_readWays])), (h_mo_symbolOf, .inl (c_mo_symbolOf, 40, .inl mo_symbolOf)), (h_mo_xs, .inl (c_mo_xs, 40, .inl mo_xs)), (h_mo_ys, .inl (c_mo_ys, 40, .inl mo_ys)), (h_mo_differs, .inl (c_mo_differs, 40, .inr (.inl mo_differs)))] sz) [(h_mo, .inr (1, [.int (u.1), u_mo_width, u_mo_height, u_mo_kind, .int mo_symbols, u_mo_wide, u_mo_high, u_mo_dark, .int (u.2.1), .ref h_mo_symbolOf, .ref h_mo_xs, .ref h_mo_ys, .ref h_mo_differs, u_mo_ways, u_mo_ordered, u_mo_page, u_mo_told, u_mo_keeps, u_mo_toldBytes, u_mo_out, u_mo_counts, u_mo_lengths, u_mo_codes, u_mo_weight, u_mo_over, u_mo_used, u_mo_row, u_mo_came, u_mo_in, u_mo_at, u_mo_refused, u_mo_place, u_mo_readMany, u_mo_readSymbol, u_mo_readX, u_mo_readY, u_mo_readDiffers, u_mo_readWays])), (h_mo_symbolOf, .inl (c_mo_symbolOf, 40, .inl (u.2.2.1))), (h_mo_xs, .inl (c_mo_xs, 40, .inl (u.2.2.2.1))), (h_mo_ys, .inl (c_mo_ys, 40, .inl (u.2.2.2.2.1))), (h_mo_differs, .inl (c_mo_differs, 40, .inr (.inl (u.2.2.2.2.2))))]) (va_A [(h_mo, .inr (1, [.int mo_thrown, u_mo_width, u_mo_height, u_mo_kind, .int mo_symbols, u_mo_wide, u_mo_high, u_mo_dark, .int mo_instances, .ref h_mo_symbolOf, .ref h_mo_xs, .ref h_mo_ys, .ref h_mo_differs, u_mo_ways, u_mo_ordered, u_mo_page, u_mo_told, u_mo_keeps, u_mo_toldBytes, u_mo_out, u_mo_counts, u_mo_lengths, u_mo_codes, u_mo_weight, u_mo_over, u_mo_used, u_mo_row, u_mo_came, u_mo_in, u_mo_at, u_mo_refused, u_mo_place, u_mo_readMany, u_mo_readSymbol, u_mo_readX, u_mo_readY, u_mo_readDiffers, u_mo_readWays])), (h_mo_symbolOf, .inl (c_mo_symbolOf, 40, .inl mo_symbolOf)), (h_mo_xs, .inl (c_mo_xs, 40, .inl mo_xs)), (h_mo_ys, .inl (c_mo_ys, 40, .inl mo_ys)), (h_mo_differs, .inl (c_mo_differs, 40, .inr (.inl mo_differs)))] sz)) 0 0 (va_A [(h_mo, .inr (1, [.int mo_thrown, u_mo_width, u_mo_height, u_mo_kind, .int mo_symbols, u_mo_wide, u_mo_high, u_mo_dark, .int mo_instances, .ref h_mo_symbolOf, .ref h_mo_xs, .ref h_mo_ys, .ref h_mo_differs, u_mo_ways, u_mo_ordered, u_mo_page, u_mo_told, u_mo_keeps, u_mo_toldBytes, u_mo_out, u_mo_counts, u_mo_lengths, u_mo_codes, u_mo_weight, u_mo_over, u_mo_used, u_mo_row, u_mo_came, u_mo_in, u_mo_at, u_mo_refused, u_mo_place, u_mo_readMany, u_mo_readSymbol, u_mo_readX, u_mo_readY, u_mo_readDiffers, u_mo_readWays])), (h_mo_symbolOf, .inl (c_mo_symbolOf, 40, .inl mo_symbolOf)), (h_mo_xs, .inl (c_mo_xs, 40, .inl mo_xs)), (h_mo_ys, .inl (c_mo_ys, 40, .inl mo_ys)), (h_mo_differs, .inl (c_mo_differs, 40, .inr (.inl mo_differs)))] sz) := by
  refine Met.ofW (cc := b_Mo_instance) (maxL := 4) (ret := (some .int)) (by decide) rfl ?_
  intro p e s m args below meth c s₁ B hml hv
  obtain ⟨rfl, hsz, hP, hK, hD0, hnw⟩ := hv
  have hx := B.exec
  have hb := B.bytes
  have hr := B.returns
  have hts := atoms_spec (ws := ws_Mo_instance) B.pre
  have hB : ∀ w ∈ BIG, w.before _ s = true := fun w h => hts w (List.mem_cons_of_mem _ h)
  have hown : s.vm.findClass R_Mo = some m.cls := findClass_of_methodNamed B.named
  have hlocks := B.notSynchronized
  subst hsz
  have hD := hD0.self (sz := s.heap.size)
  refine W_Q (fun Q9 eQ => ?_)
  generalize hAe : va_A [(h_mo, .inr (1, [.int mo_thrown, u_mo_width, u_mo_height, u_mo_kind, .int mo_symbols, u_mo_wide, u_mo_high, u_mo_dark, .int mo_instances, .ref h_mo_symbolOf, .ref h_mo_xs, .ref h_mo_ys, .ref h_mo_differs, u_mo_ways, u_mo_ordered, u_mo_page, u_mo_told, u_mo_keeps, u_mo_toldBytes, u_mo_out, u_mo_counts, u_mo_lengths, u_mo_codes, u_mo_weight, u_mo_over, u_mo_used, u_mo_row, u_mo_came, u_mo_in, u_mo_at, u_mo_refused, u_mo_place, u_mo_readMany, u_mo_readSymbol, u_mo_readX, u_mo_readY, u_mo_readDiffers, u_mo_readWays])), (h_mo_symbolOf, .inl (c_mo_symbolOf, 40, .inl mo_symbolOf)), (h_mo_xs, .inl (c_mo_xs, 40, .inl mo_xs)), (h_mo_ys, .inl (c_mo_ys, 40, .inl mo_ys)), (h_mo_differs, .inl (c_mo_differs, 40, .inr (.inl mo_differs)))] s.heap.size = A at hD eQ
  have hA : ∀ q : Nat, s.heap.size ≤ q → A q := fun q h => by rw [← hAe]; exact Or.inr h
  have hS : va_S A s.heap s.heap [] := va_S.rf
  have hl := lv_entry ([.ref h_mo, .int p0, .int p1, .int p2]) (n := 4) (Nat.le_of_ble_eq_true rfl)
  rw [lg_entry_eq]
  generalize (lg_sl ([.ref h_mo, .int p0, .int p1, .int p2]) ++ List.replicate (4 - (lg_sl ([.ref h_mo, .int p0, .int p1, .int p2])).length) Slot.unset).toArray = ls at hl ⊢
  have hl : lv_has ls 4 [(0, .ref h_mo), (1, .int p0), (2, .int p1), (3, .int p2)] := hl
  have h := hf
  unfold f_Mo_instance at h
  refine lv_aload_n hx hb d_Mo_instance_0 rfl (lv_at hl 0 rfl) ?_
  refine lv_iload_n hx hb d_Mo_instance_1 rfl (lv_at hl 1 rfl) ?_
  refine lv_iconst (v := 0) hx hb d_Mo_instance_2 (by decide) ?_
  refine lv_aload_n hx hb d_Mo_instance_3 rfl (lv_at hl 0 rfl) ?_
  refine va_get (D := (dC, dI)) (ci := 1) (v := .int mo_symbols) (C := R_Mo) (T := T_Mo) (N := 38) hx hb hB iw_Mo hown hK hP 0 rfl rfl 4 (by decide) (hB _ bw_877) (fun _ h9 => h9) rfl d_Mo_instance_4 ?_
  refine lv_iconst (v := 1) hx hb d_Mo_instance_7 (by decide) ?_
  refine lv_isub hx hb d_Mo_instance_8 ?_
  obtain ⟨o9, hc9, h⟩ := bd_e h
  have hPc := hP.sub (ws' := []) [] rfl
  have hKc := hK.sub (tys' := []) [] rfl
  refine vp_callSi (va_Run.run (va_runS (As := [.int p0, .int (0 : Int32), .int (mo_symbols - (1 : Int32))]) (rest := [.ref h_mo]) ⟨hx, hb, hml, hown, hB⟩ (c_Mo_isIn l dC dI p0 (0 : Int32) (mo_symbols - (1 : Int32)) o9 hc9) (va_cwS 3 hB (goodA (m3 bw_996 bw_997 bw_13) (goodB bw_998)) rfl rfl rfl (by decide +kernel) ⟨Nat.le_of_ble_eq_true rfl, Nat.le_of_ble_eq_true rfl⟩) ⟨fb_p, (pre_p hPc hKc hnw [.int p0, .int (0 : Int32), .int (mo_symbols - (1 : Int32))])⟩ rfl rfl hl.1 rfl (lv_room (Nat.le_of_ble_eq_true rfl)) d_Mo_instance_9 ⟨Nat.zero_le _, Nat.zero_le _⟩)) (fun r_1 e_r_1 => ?_)
  subst e_r_1
  clear hPc hKc hc9
  obtain ⟨j59, e_j59, h⟩ := jn_e h
  have w_j59 : ∀ (s_2 : Int32) (H : Heap) (locs : List Loc) (ls : Array Slot), j59 s_2 = some o → va_P (dC, dI) CL [(h_mo, .inr (1, [.int mo_thrown, u_mo_width, u_mo_height, u_mo_kind, .int mo_symbols, u_mo_wide, u_mo_high, u_mo_dark, .int mo_instances, .ref h_mo_symbolOf, .ref h_mo_xs, .ref h_mo_ys, .ref h_mo_differs, u_mo_ways, u_mo_ordered, u_mo_page, u_mo_told, u_mo_keeps, u_mo_toldBytes, u_mo_out, u_mo_counts, u_mo_lengths, u_mo_codes, u_mo_weight, u_mo_over, u_mo_used, u_mo_row, u_mo_came, u_mo_in, u_mo_at, u_mo_refused, u_mo_place, u_mo_readMany, u_mo_readSymbol, u_mo_readX, u_mo_readY, u_mo_readDiffers, u_mo_readWays])), (h_mo_symbolOf, .inl (c_mo_symbolOf, 40, .inl mo_symbolOf)), (h_mo_xs, .inl (c_mo_xs, 40, .inl mo_xs)), (h_mo_ys, .inl (c_mo_ys, 40, .inl mo_ys)), (h_mo_differs, .inl (c_mo_differs, 40, .inr (.inl mo_differs)))] H → va_D A [(h_mo, .inr (1, [.int mo_thrown, u_mo_width, u_mo_height, u_mo_kind, .int mo_symbols, u_mo_wide, u_mo_high, u_mo_dark, .int mo_instances, .ref h_mo_symbolOf, .ref h_mo_xs, .ref h_mo_ys, .ref h_mo_differs, u_mo_ways, u_mo_ordered, u_mo_page, u_mo_told, u_mo_keeps, u_mo_toldBytes, u_mo_out, u_mo_counts, u_mo_lengths, u_mo_codes, u_mo_weight, u_mo_over, u_mo_used, u_mo_row, u_mo_came, u_mo_in, u_mo_at, u_mo_refused, u_mo_place, u_mo_readMany, u_mo_readSymbol, u_mo_readX, u_mo_readY, u_mo_readDiffers, u_mo_readWays])), (h_mo_symbolOf, .inl (c_mo_symbolOf, 40, .inl mo_symbolOf)), (h_mo_xs, .inl (c_mo_xs, 40, .inl mo_xs)), (h_mo_ys, .inl (c_mo_ys, 40, .inl mo_ys)), (h_mo_differs, .inl (c_mo_differs, 40, .inr (.inl mo_differs)))] → va_S A s.heap H locs → lv_has ls 4 [(0, .ref h_mo), (1, .int p0), (2, .int p1), (3, .int p2)] → W p l e ({ frames := 1, cells := 0, slots := 0, locals := 22 } : Room) s m ([.ref h_mo, .int p0, .int p1, .int p2] : List Value).toArray below meth c H locs 0 0 Q9 (F0 m 59 ls [.int s_2, .ref h_mo]) := by
    intro s_2 H locs ls h hP hD hS hl
    rw [e_j59] at h
    refine va_put (D := (dC, dI)) (ci := 1) (v := .int s_2) (ty := .int) (C := R_Mo) (T := T_Mo) (N := 38) hx hb hB iw_Mo ty_Mo tk_Mo n_Mo hown hK hP hD hS 0 rfl rfl 0 (by decide) (hB _ bw_873) (fun _ h9 => h9) rfl (by decide +kernel) rfl rfl (Nat.le_of_ble_eq_true rfl) d_Mo_instance_59 (fun H locs hP hD hS => ?_)
    have hP : va_P (dC, dI) CL [(h_mo, .inr (1, [.int s_2, u_mo_width, u_mo_height, u_mo_kind, .int mo_symbols, u_mo_wide, u_mo_high, u_mo_dark, .int mo_instances, .ref h_mo_symbolOf, .ref h_mo_xs, .ref h_mo_ys, .ref h_mo_differs, u_mo_ways, u_mo_ordered, u_mo_page, u_mo_told, u_mo_keeps, u_mo_toldBytes, u_mo_out, u_mo_counts, u_mo_lengths, u_mo_codes, u_mo_weight, u_mo_over, u_mo_used, u_mo_row, u_mo_came, u_mo_in, u_mo_at, u_mo_refused, u_mo_place, u_mo_readMany, u_mo_readSymbol, u_mo_readX, u_mo_readY, u_mo_readDiffers, u_mo_readWays])), (h_mo_symbolOf, .inl (c_mo_symbolOf, 40, .inl mo_symbolOf)), (h_mo_xs, .inl (c_mo_xs, 40, .inl mo_xs)), (h_mo_ys, .inl (c_mo_ys, 40, .inl mo_ys)), (h_mo_differs, .inl (c_mo_differs, 40, .inr (.inl mo_differs)))] H := hP
    have hD : va_D A [(h_mo, .inr (1, [.int s_2, u_mo_width, u_mo_height, u_mo_kind, .int mo_symbols, u_mo_wide, u_mo_high, u_mo_dark, .int mo_instances, .ref h_mo_symbolOf, .ref h_mo_xs, .ref h_mo_ys, .ref h_mo_differs, u_mo_ways, u_mo_ordered, u_mo_page, u_mo_told, u_mo_keeps, u_mo_toldBytes, u_mo_out, u_mo_counts, u_mo_lengths, u_mo_codes, u_mo_weight, u_mo_over, u_mo_used, u_mo_row, u_mo_came, u_mo_in, u_mo_at, u_mo_refused, u_mo_place, u_mo_readMany, u_mo_readSymbol, u_mo_readX, u_mo_readY, u_mo_readDiffers, u_mo_readWays])), (h_mo_symbolOf, .inl (c_mo_symbolOf, 40, .inl mo_symbolOf)), (h_mo_xs, .inl (c_mo_xs, 40, .inl mo_xs)), (h_mo_ys, .inl (c_mo_ys, 40, .inl mo_ys)), (h_mo_differs, .inl (c_mo_differs, 40, .inr (.inl mo_differs)))] := hD
    refine lv_aload_n hx hb d_Mo_instance_62 rfl (lv_at hl 0 rfl) ?_
    refine va_get (D := (dC, dI)) (ci := 1) (v := .int s_2) (C := R_Mo) (T := T_Mo) (N := 38) hx hb hB iw_Mo hown hK hP 0 rfl rfl 0 (by decide) (hB _ bw_873) (fun _ h9 => h9) rfl d_Mo_instance_63 ?_
    refine lv_if_le (tgt := 71) hx hb d_Mo_instance_66 (by decide) (fun c_1 => ?_) (fun c_1 => ?_)
    · have h := if_t h c_1
      refine lv_aload_n hx hb d_Mo_instance_71 rfl (lv_at hl 0 rfl) ?_
      refine va_get (D := (dC, dI)) (ci := 1) (v := .ref h_mo_symbolOf) (C := R_Mo) (T := T_Mo) (N := 38) hx hb hB iw_Mo hown hK hP 0 rfl rfl 9 (by decide) (hB _ bw_882) (fun _ h9 => h9) rfl d_Mo_instance_72 ?_
      refine lv_aload_n hx hb d_Mo_instance_75 rfl (lv_at hl 0 rfl) ?_
      refine va_get (D := (dC, dI)) (ci := 1) (v := .int mo_instances) (C := R_Mo) (T := T_Mo) (N := 38) hx hb hB iw_Mo hown hK hP 0 rfl rfl 8 (by decide) (hB _ bw_881) (fun _ h9 => h9) rfl d_Mo_instance_76 ?_
      refine lv_iload_n hx hb d_Mo_instance_79 rfl (lv_at hl 1 rfl) ?_
      obtain ⟨hin, h⟩ := gq_e h
      refine va_iast hx hb hK hP hD hS 1 0 rfl rfl hin d_Mo_instance_80 (fun H locs hP hD hS => ?_)
      have hP : va_P (dC, dI) CL [(h_mo, .inr (1, [.int s_2, u_mo_width, u_mo_height, u_mo_kind, .int mo_symbols, u_mo_wide, u_mo_high, u_mo_dark, .int mo_instances, .ref h_mo_symbolOf, .ref h_mo_xs, .ref h_mo_ys, .ref h_mo_differs, u_mo_ways, u_mo_ordered, u_mo_page, u_mo_told, u_mo_keeps, u_mo_toldBytes, u_mo_out, u_mo_counts, u_mo_lengths, u_mo_codes, u_mo_weight, u_mo_over, u_mo_used, u_mo_row, u_mo_came, u_mo_in, u_mo_at, u_mo_refused, u_mo_place, u_mo_readMany, u_mo_readSymbol, u_mo_readX, u_mo_readY, u_mo_readDiffers, u_mo_readWays])), (h_mo_symbolOf, .inl (c_mo_symbolOf, 40, .inl (upd mo_symbolOf (mo_instances).toNatClampNeg p0))), (h_mo_xs, .inl (c_mo_xs, 40, .inl mo_xs)), (h_mo_ys, .inl (c_mo_ys, 40, .inl mo_ys)), (h_mo_differs, .inl (c_mo_differs, 40, .inr (.inl mo_differs)))] H := hP
      have hD : va_D A [(h_mo, .inr (1, [.int s_2, u_mo_width, u_mo_height, u_mo_kind, .int mo_symbols, u_mo_wide, u_mo_high, u_mo_dark, .int mo_instances, .ref h_mo_symbolOf, .ref h_mo_xs, .ref h_mo_ys, .ref h_mo_differs, u_mo_ways, u_mo_ordered, u_mo_page, u_mo_told, u_mo_keeps, u_mo_toldBytes, u_mo_out, u_mo_counts, u_mo_lengths, u_mo_codes, u_mo_weight, u_mo_over, u_mo_used, u_mo_row, u_mo_came, u_mo_in, u_mo_at, u_mo_refused, u_mo_place, u_mo_readMany, u_mo_readSymbol, u_mo_readX, u_mo_readY, u_mo_readDiffers, u_mo_readWays])), (h_mo_symbolOf, .inl (c_mo_symbolOf, 40, .inl (upd mo_symbolOf (mo_instances).toNatClampNeg p0))), (h_mo_xs, .inl (c_mo_xs, 40, .inl mo_xs)), (h_mo_ys, .inl (c_mo_ys, 40, .inl mo_ys)), (h_mo_differs, .inl (c_mo_differs, 40, .inr (.inl mo_differs)))] := hD
      refine lv_aload_n hx hb d_Mo_instance_81 rfl (lv_at hl 0 rfl) ?_
      refine va_get (D := (dC, dI)) (ci := 1) (v := .ref h_mo_xs) (C := R_Mo) (T := T_Mo) (N := 38) hx hb hB iw_Mo hown hK hP 0 rfl rfl 10 (by decide) (hB _ bw_883) (fun _ h9 => h9) rfl d_Mo_instance_82 ?_
      refine lv_aload_n hx hb d_Mo_instance_85 rfl (lv_at hl 0 rfl) ?_
      refine va_get (D := (dC, dI)) (ci := 1) (v := .int mo_instances) (C := R_Mo) (T := T_Mo) (N := 38) hx hb hB iw_Mo hown hK hP 0 rfl rfl 8 (by decide) (hB _ bw_881) (fun _ h9 => h9) rfl d_Mo_instance_86 ?_
      refine lv_iload_n hx hb d_Mo_instance_89 rfl (lv_at hl 2 rfl) ?_
      obtain ⟨hin, h⟩ := gq_e h
      refine va_iast hx hb hK hP hD hS 2 1 rfl rfl hin d_Mo_instance_90 (fun H locs hP hD hS => ?_)
      have hP : va_P (dC, dI) CL [(h_mo, .inr (1, [.int s_2, u_mo_width, u_mo_height, u_mo_kind, .int mo_symbols, u_mo_wide, u_mo_high, u_mo_dark, .int mo_instances, .ref h_mo_symbolOf, .ref h_mo_xs, .ref h_mo_ys, .ref h_mo_differs, u_mo_ways, u_mo_ordered, u_mo_page, u_mo_told, u_mo_keeps, u_mo_toldBytes, u_mo_out, u_mo_counts, u_mo_lengths, u_mo_codes, u_mo_weight, u_mo_over, u_mo_used, u_mo_row, u_mo_came, u_mo_in, u_mo_at, u_mo_refused, u_mo_place, u_mo_readMany, u_mo_readSymbol, u_mo_readX, u_mo_readY, u_mo_readDiffers, u_mo_readWays])), (h_mo_symbolOf, .inl (c_mo_symbolOf, 40, .inl (upd mo_symbolOf (mo_instances).toNatClampNeg p0))), (h_mo_xs, .inl (c_mo_xs, 40, .inl (upd mo_xs (mo_instances).toNatClampNeg p1))), (h_mo_ys, .inl (c_mo_ys, 40, .inl mo_ys)), (h_mo_differs, .inl (c_mo_differs, 40, .inr (.inl mo_differs)))] H := hP
      have hD : va_D A [(h_mo, .inr (1, [.int s_2, u_mo_width, u_mo_height, u_mo_kind, .int mo_symbols, u_mo_wide, u_mo_high, u_mo_dark, .int mo_instances, .ref h_mo_symbolOf, .ref h_mo_xs, .ref h_mo_ys, .ref h_mo_differs, u_mo_ways, u_mo_ordered, u_mo_page, u_mo_told, u_mo_keeps, u_mo_toldBytes, u_mo_out, u_mo_counts, u_mo_lengths, u_mo_codes, u_mo_weight, u_mo_over, u_mo_used, u_mo_row, u_mo_came, u_mo_in, u_mo_at, u_mo_refused, u_mo_place, u_mo_readMany, u_mo_readSymbol, u_mo_readX, u_mo_readY, u_mo_readDiffers, u_mo_readWays])), (h_mo_symbolOf, .inl (c_mo_symbolOf, 40, .inl (upd mo_symbolOf (mo_instances).toNatClampNeg p0))), (h_mo_xs, .inl (c_mo_xs, 40, .inl (upd mo_xs (mo_instances).toNatClampNeg p1))), (h_mo_ys, .inl (c_mo_ys, 40, .inl mo_ys)), (h_mo_differs, .inl (c_mo_differs, 40, .inr (.inl mo_differs)))] := hD
      refine lv_aload_n hx hb d_Mo_instance_91 rfl (lv_at hl 0 rfl) ?_
      refine va_get (D := (dC, dI)) (ci := 1) (v := .ref h_mo_ys) (C := R_Mo) (T := T_Mo) (N := 38) hx hb hB iw_Mo hown hK hP 0 rfl rfl 11 (by decide) (hB _ bw_884) (fun _ h9 => h9) rfl d_Mo_instance_92 ?_
      refine lv_aload_n hx hb d_Mo_instance_95 rfl (lv_at hl 0 rfl) ?_
      refine va_get (D := (dC, dI)) (ci := 1) (v := .int mo_instances) (C := R_Mo) (T := T_Mo) (N := 38) hx hb hB iw_Mo hown hK hP 0 rfl rfl 8 (by decide) (hB _ bw_881) (fun _ h9 => h9) rfl d_Mo_instance_96 ?_
      refine lv_iload_n hx hb d_Mo_instance_99 rfl (lv_at hl 3 rfl) ?_
      obtain ⟨hin, h⟩ := gq_e h
      refine va_iast hx hb hK hP hD hS 3 2 rfl rfl hin d_Mo_instance_100 (fun H locs hP hD hS => ?_)
      have hP : va_P (dC, dI) CL [(h_mo, .inr (1, [.int s_2, u_mo_width, u_mo_height, u_mo_kind, .int mo_symbols, u_mo_wide, u_mo_high, u_mo_dark, .int mo_instances, .ref h_mo_symbolOf, .ref h_mo_xs, .ref h_mo_ys, .ref h_mo_differs, u_mo_ways, u_mo_ordered, u_mo_page, u_mo_told, u_mo_keeps, u_mo_toldBytes, u_mo_out, u_mo_counts, u_mo_lengths, u_mo_codes, u_mo_weight, u_mo_over, u_mo_used, u_mo_row, u_mo_came, u_mo_in, u_mo_at, u_mo_refused, u_mo_place, u_mo_readMany, u_mo_readSymbol, u_mo_readX, u_mo_readY, u_mo_readDiffers, u_mo_readWays])), (h_mo_symbolOf, .inl (c_mo_symbolOf, 40, .inl (upd mo_symbolOf (mo_instances).toNatClampNeg p0))), (h_mo_xs, .inl (c_mo_xs, 40, .inl (upd mo_xs (mo_instances).toNatClampNeg p1))), (h_mo_ys, .inl (c_mo_ys, 40, .inl (upd mo_ys (mo_instances).toNatClampNeg p2))), (h_mo_differs, .inl (c_mo_differs, 40, .inr (.inl mo_differs)))] H := hP
      have hD : va_D A [(h_mo, .inr (1, [.int s_2, u_mo_width, u_mo_height, u_mo_kind, .int mo_symbols, u_mo_wide, u_mo_high, u_mo_dark, .int mo_instances, .ref h_mo_symbolOf, .ref h_mo_xs, .ref h_mo_ys, .ref h_mo_differs, u_mo_ways, u_mo_ordered, u_mo_page, u_mo_told, u_mo_keeps, u_mo_toldBytes, u_mo_out, u_mo_counts, u_mo_lengths, u_mo_codes, u_mo_weight, u_mo_over, u_mo_used, u_mo_row, u_mo_came, u_mo_in, u_mo_at, u_mo_refused, u_mo_place, u_mo_readMany, u_mo_readSymbol, u_mo_readX, u_mo_readY, u_mo_readDiffers, u_mo_readWays])), (h_mo_symbolOf, .inl (c_mo_symbolOf, 40, .inl (upd mo_symbolOf (mo_instances).toNatClampNeg p0))), (h_mo_xs, .inl (c_mo_xs, 40, .inl (upd mo_xs (mo_instances).toNatClampNeg p1))), (h_mo_ys, .inl (c_mo_ys, 40, .inl (upd mo_ys (mo_instances).toNatClampNeg p2))), (h_mo_differs, .inl (c_mo_differs, 40, .inr (.inl mo_differs)))] := hD
      refine lv_aload_n hx hb d_Mo_instance_101 rfl (lv_at hl 0 rfl) ?_
      refine va_get (D := (dC, dI)) (ci := 1) (v := .ref h_mo_differs) (C := R_Mo) (T := T_Mo) (N := 38) hx hb hB iw_Mo hown hK hP 0 rfl rfl 12 (by decide) (hB _ bw_885) (fun _ h9 => h9) rfl d_Mo_instance_102 ?_
      refine lv_aload_n hx hb d_Mo_instance_105 rfl (lv_at hl 0 rfl) ?_
      refine va_get (D := (dC, dI)) (ci := 1) (v := .int mo_instances) (C := R_Mo) (T := T_Mo) (N := 38) hx hb hB iw_Mo hown hK hP 0 rfl rfl 8 (by decide) (hB _ bw_881) (fun _ h9 => h9) rfl d_Mo_instance_106 ?_
      refine lv_lconst (v := 0) hx hb d_Mo_instance_109 (by decide) ?_
      obtain ⟨hin, h⟩ := gq_e h
      refine va_last hx hb hK hP hD hS 4 3 rfl rfl hin d_Mo_instance_110 (fun H locs hP hD hS => ?_)
      have hP : va_P (dC, dI) CL [(h_mo, .inr (1, [.int s_2, u_mo_width, u_mo_height, u_mo_kind, .int mo_symbols, u_mo_wide, u_mo_high, u_mo_dark, .int mo_instances, .ref h_mo_symbolOf, .ref h_mo_xs, .ref h_mo_ys, .ref h_mo_differs, u_mo_ways, u_mo_ordered, u_mo_page, u_mo_told, u_mo_keeps, u_mo_toldBytes, u_mo_out, u_mo_counts, u_mo_lengths, u_mo_codes, u_mo_weight, u_mo_over, u_mo_used, u_mo_row, u_mo_came, u_mo_in, u_mo_at, u_mo_refused, u_mo_place, u_mo_readMany, u_mo_readSymbol, u_mo_readX, u_mo_readY, u_mo_readDiffers, u_mo_readWays])), (h_mo_symbolOf, .inl (c_mo_symbolOf, 40, .inl (upd mo_symbolOf (mo_instances).toNatClampNeg p0))), (h_mo_xs, .inl (c_mo_xs, 40, .inl (upd mo_xs (mo_instances).toNatClampNeg p1))), (h_mo_ys, .inl (c_mo_ys, 40, .inl (upd mo_ys (mo_instances).toNatClampNeg p2))), (h_mo_differs, .inl (c_mo_differs, 40, .inr (.inl (vp_updL mo_differs (mo_instances).toNatClampNeg (0 : Int64)))))] H := hP
      have hD : va_D A [(h_mo, .inr (1, [.int s_2, u_mo_width, u_mo_height, u_mo_kind, .int mo_symbols, u_mo_wide, u_mo_high, u_mo_dark, .int mo_instances, .ref h_mo_symbolOf, .ref h_mo_xs, .ref h_mo_ys, .ref h_mo_differs, u_mo_ways, u_mo_ordered, u_mo_page, u_mo_told, u_mo_keeps, u_mo_toldBytes, u_mo_out, u_mo_counts, u_mo_lengths, u_mo_codes, u_mo_weight, u_mo_over, u_mo_used, u_mo_row, u_mo_came, u_mo_in, u_mo_at, u_mo_refused, u_mo_place, u_mo_readMany, u_mo_readSymbol, u_mo_readX, u_mo_readY, u_mo_readDiffers, u_mo_readWays])), (h_mo_symbolOf, .inl (c_mo_symbolOf, 40, .inl (upd mo_symbolOf (mo_instances).toNatClampNeg p0))), (h_mo_xs, .inl (c_mo_xs, 40, .inl (upd mo_xs (mo_instances).toNatClampNeg p1))), (h_mo_ys, .inl (c_mo_ys, 40, .inl (upd mo_ys (mo_instances).toNatClampNeg p2))), (h_mo_differs, .inl (c_mo_differs, 40, .inr (.inl (vp_updL mo_differs (mo_instances).toNatClampNeg (0 : Int64)))))] := hD
      refine lv_aload_n hx hb d_Mo_instance_111 rfl (lv_at hl 0 rfl) ?_
      refine lv_dup hx hb d_Mo_instance_112 rfl ?_
      refine va_get (D := (dC, dI)) (ci := 1) (v := .int mo_instances) (C := R_Mo) (T := T_Mo) (N := 38) hx hb hB iw_Mo hown hK hP 0 rfl rfl 8 (by decide) (hB _ bw_881) (fun _ h9 => h9) rfl d_Mo_instance_113 ?_
      refine lv_iconst (v := 1) hx hb d_Mo_instance_116 (by decide) ?_
      refine lv_iadd hx hb d_Mo_instance_117 ?_
      refine lv_topi (fun instances_3 e_instances_3 => ?_)
      have h := nl_u e_instances_3 h
      refine va_put (D := (dC, dI)) (ci := 1) (v := .int instances_3) (ty := .int) (C := R_Mo) (T := T_Mo) (N := 38) hx hb hB iw_Mo ty_Mo tk_Mo n_Mo hown hK hP hD hS 0 rfl rfl 8 (by decide) (hB _ bw_881) (fun _ h9 => h9) rfl (by decide +kernel) rfl rfl (Nat.le_of_ble_eq_true rfl) d_Mo_instance_118 (fun H locs hP hD hS => ?_)
      have hP : va_P (dC, dI) CL [(h_mo, .inr (1, [.int s_2, u_mo_width, u_mo_height, u_mo_kind, .int mo_symbols, u_mo_wide, u_mo_high, u_mo_dark, .int instances_3, .ref h_mo_symbolOf, .ref h_mo_xs, .ref h_mo_ys, .ref h_mo_differs, u_mo_ways, u_mo_ordered, u_mo_page, u_mo_told, u_mo_keeps, u_mo_toldBytes, u_mo_out, u_mo_counts, u_mo_lengths, u_mo_codes, u_mo_weight, u_mo_over, u_mo_used, u_mo_row, u_mo_came, u_mo_in, u_mo_at, u_mo_refused, u_mo_place, u_mo_readMany, u_mo_readSymbol, u_mo_readX, u_mo_readY, u_mo_readDiffers, u_mo_readWays])), (h_mo_symbolOf, .inl (c_mo_symbolOf, 40, .inl (upd mo_symbolOf (mo_instances).toNatClampNeg p0))), (h_mo_xs, .inl (c_mo_xs, 40, .inl (upd mo_xs (mo_instances).toNatClampNeg p1))), (h_mo_ys, .inl (c_mo_ys, 40, .inl (upd mo_ys (mo_instances).toNatClampNeg p2))), (h_mo_differs, .inl (c_mo_differs, 40, .inr (.inl (vp_updL mo_differs (mo_instances).toNatClampNeg (0 : Int64)))))] H := hP
      have hD : va_D A [(h_mo, .inr (1, [.int s_2, u_mo_width, u_mo_height, u_mo_kind, .int mo_symbols, u_mo_wide, u_mo_high, u_mo_dark, .int instances_3, .ref h_mo_symbolOf, .ref h_mo_xs, .ref h_mo_ys, .ref h_mo_differs, u_mo_ways, u_mo_ordered, u_mo_page, u_mo_told, u_mo_keeps, u_mo_toldBytes, u_mo_out, u_mo_counts, u_mo_lengths, u_mo_codes, u_mo_weight, u_mo_over, u_mo_used, u_mo_row, u_mo_came, u_mo_in, u_mo_at, u_mo_refused, u_mo_place, u_mo_readMany, u_mo_readSymbol, u_mo_readX, u_mo_readY, u_mo_readDiffers, u_mo_readWays])), (h_mo_symbolOf, .inl (c_mo_symbolOf, 40, .inl (upd mo_symbolOf (mo_instances).toNatClampNeg p0))), (h_mo_xs, .inl (c_mo_xs, 40, .inl (upd mo_xs (mo_instances).toNatClampNeg p1))), (h_mo_ys, .inl (c_mo_ys, 40, .inl (upd mo_ys (mo_instances).toNatClampNeg p2))), (h_mo_differs, .inl (c_mo_differs, 40, .inr (.inl (vp_updL mo_differs (mo_instances).toNatClampNeg (0 : Int64)))))] := hD
      refine lv_aload_n hx hb d_Mo_instance_121 rfl (lv_at hl 0 rfl) ?_
      refine va_get (D := (dC, dI)) (ci := 1) (v := .int instances_3) (C := R_Mo) (T := T_Mo) (N := 38) hx hb hB iw_Mo hown hK hP 0 rfl rfl 8 (by decide) (hB _ bw_881) (fun _ h9 => h9) rfl d_Mo_instance_122 ?_
      refine lv_iconst (v := 1) hx hb d_Mo_instance_125 (by decide) ?_
      refine lv_isub hx hb d_Mo_instance_126 ?_
      subst eQ
      exact W.iret (v := (instances_3 - (1 : Int32))) hx hb hr (fun t ht hW => ⟨⟨_, (s_2, instances_3, (upd mo_symbolOf (mo_instances).toNatClampNeg p0), (upd mo_xs (mo_instances).toNatClampNeg p1), (upd mo_ys (mo_instances).toNatClampNeg p2), (vp_updL mo_differs (mo_instances).toNatClampNeg (0 : Int64))), rfl, Option.some.inj h, by rw [ht]; exact hP, va_K.moved hW.alike hK, hD⟩, hS.F ht⟩) hS.2.2 d_Mo_instance_127
    · have h := if_f h c_1
      refine lv_iconst (v := 0) hx hb d_Mo_instance_69 (by decide) ?_
      subst eQ
      exact W.iret (v := (0 : Int32)) hx hb hr (fun t ht hW => ⟨⟨_, (s_2, mo_instances, mo_symbolOf, mo_xs, mo_ys, mo_differs), rfl, Option.some.inj h, by rw [ht]; exact hP, va_K.moved hW.alike hK, hD⟩, hS.F ht⟩) hS.2.2 d_Mo_instance_70
  refine lv_if_ne (tgt := 19) hx hb d_Mo_instance_12 (by decide) (fun c_2 => ?_) (fun c_2 => ?_)
  · have h := if_f h c_2
    refine lv_iload_n hx hb d_Mo_instance_19 rfl (lv_at hl 2 rfl) ?_
    refine lv_bipush (v := -8) hx hb d_Mo_instance_20 (by decide) ?_
    refine lv_bipush (v := 31) hx hb d_Mo_instance_22 (by decide) ?_
    obtain ⟨o9, hc9, h⟩ := bd_e h
    have hPc := hP.sub (ws' := []) [] rfl
    have hKc := hK.sub (tys' := []) [] rfl
    refine vp_callSi (va_Run.run (va_runS (As := [.int p1, .int (-8 : Int32), .int (31 : Int32)]) (rest := [.ref h_mo]) ⟨hx, hb, hml, hown, hB⟩ (c_Mo_isIn l dC dI p1 (-8 : Int32) (31 : Int32) o9 hc9) (va_cwS 3 hB (goodA (m3 bw_996 bw_997 bw_13) (goodB bw_998)) rfl rfl rfl (by decide +kernel) ⟨Nat.le_of_ble_eq_true rfl, Nat.le_of_ble_eq_true rfl⟩) ⟨fb_p, (pre_p hPc hKc hnw [.int p1, .int (-8 : Int32), .int (31 : Int32)])⟩ rfl rfl hl.1 rfl (lv_room (Nat.le_of_ble_eq_true rfl)) d_Mo_instance_24 ⟨Nat.zero_le _, Nat.zero_le _⟩)) (fun r_4 e_r_4 => ?_)
    subst e_r_4
    clear hPc hKc hc9
    obtain ⟨j41, e_j41, h⟩ := jn_e h
    have w_j41 : ∀ (H : Heap) (locs : List Loc) (ls : Array Slot), j41 () = some o → va_P (dC, dI) CL [(h_mo, .inr (1, [.int mo_thrown, u_mo_width, u_mo_height, u_mo_kind, .int mo_symbols, u_mo_wide, u_mo_high, u_mo_dark, .int mo_instances, .ref h_mo_symbolOf, .ref h_mo_xs, .ref h_mo_ys, .ref h_mo_differs, u_mo_ways, u_mo_ordered, u_mo_page, u_mo_told, u_mo_keeps, u_mo_toldBytes, u_mo_out, u_mo_counts, u_mo_lengths, u_mo_codes, u_mo_weight, u_mo_over, u_mo_used, u_mo_row, u_mo_came, u_mo_in, u_mo_at, u_mo_refused, u_mo_place, u_mo_readMany, u_mo_readSymbol, u_mo_readX, u_mo_readY, u_mo_readDiffers, u_mo_readWays])), (h_mo_symbolOf, .inl (c_mo_symbolOf, 40, .inl mo_symbolOf)), (h_mo_xs, .inl (c_mo_xs, 40, .inl mo_xs)), (h_mo_ys, .inl (c_mo_ys, 40, .inl mo_ys)), (h_mo_differs, .inl (c_mo_differs, 40, .inr (.inl mo_differs)))] H → va_D A [(h_mo, .inr (1, [.int mo_thrown, u_mo_width, u_mo_height, u_mo_kind, .int mo_symbols, u_mo_wide, u_mo_high, u_mo_dark, .int mo_instances, .ref h_mo_symbolOf, .ref h_mo_xs, .ref h_mo_ys, .ref h_mo_differs, u_mo_ways, u_mo_ordered, u_mo_page, u_mo_told, u_mo_keeps, u_mo_toldBytes, u_mo_out, u_mo_counts, u_mo_lengths, u_mo_codes, u_mo_weight, u_mo_over, u_mo_used, u_mo_row, u_mo_came, u_mo_in, u_mo_at, u_mo_refused, u_mo_place, u_mo_readMany, u_mo_readSymbol, u_mo_readX, u_mo_readY, u_mo_readDiffers, u_mo_readWays])), (h_mo_symbolOf, .inl (c_mo_symbolOf, 40, .inl mo_symbolOf)), (h_mo_xs, .inl (c_mo_xs, 40, .inl mo_xs)), (h_mo_ys, .inl (c_mo_ys, 40, .inl mo_ys)), (h_mo_differs, .inl (c_mo_differs, 40, .inr (.inl mo_differs)))] → va_S A s.heap H locs → lv_has ls 4 [(0, .ref h_mo), (1, .int p0), (2, .int p1), (3, .int p2)] → W p l e ({ frames := 1, cells := 0, slots := 0, locals := 22 } : Room) s m ([.ref h_mo, .int p0, .int p1, .int p2] : List Value).toArray below meth c H locs 0 0 Q9 (F0 m 41 ls [.ref h_mo]) := by
      intro H locs ls h hP hD hS hl
      rw [e_j41] at h
      refine lv_iconst (v := 2) hx hb d_Mo_instance_41 (by decide) ?_
      refine lv_goto (tgt := 59) hx hb d_Mo_instance_42 (by decide) ?_
      exact w_j59 _ _ _ _ h hP hD hS hl
    refine lv_if_eq (tgt := 41) hx hb d_Mo_instance_27 (by decide) (fun c_3 => ?_) (fun c_3 => ?_)
    · have h := if_t h c_3
      exact w_j41 _ _ _ h hP hD hS hl
    · have h := if_f h c_3
      refine lv_iload_n hx hb d_Mo_instance_30 rfl (lv_at hl 3 rfl) ?_
      refine lv_bipush (v := -8) hx hb d_Mo_instance_31 (by decide) ?_
      refine lv_bipush (v := 31) hx hb d_Mo_instance_33 (by decide) ?_
      obtain ⟨o9, hc9, h⟩ := bd_e h
      have hPc := hP.sub (ws' := []) [] rfl
      have hKc := hK.sub (tys' := []) [] rfl
      refine vp_callSi (va_Run.run (va_runS (As := [.int p2, .int (-8 : Int32), .int (31 : Int32)]) (rest := [.ref h_mo]) ⟨hx, hb, hml, hown, hB⟩ (c_Mo_isIn l dC dI p2 (-8 : Int32) (31 : Int32) o9 hc9) (va_cwS 3 hB (goodA (m3 bw_996 bw_997 bw_13) (goodB bw_998)) rfl rfl rfl (by decide +kernel) ⟨Nat.le_of_ble_eq_true rfl, Nat.le_of_ble_eq_true rfl⟩) ⟨fb_p, (pre_p hPc hKc hnw [.int p2, .int (-8 : Int32), .int (31 : Int32)])⟩ rfl rfl hl.1 rfl (lv_room (Nat.le_of_ble_eq_true rfl)) d_Mo_instance_35 ⟨Nat.zero_le _, Nat.zero_le _⟩)) (fun r_5 e_r_5 => ?_)
      subst e_r_5
      clear hPc hKc hc9
      refine lv_if_ne (tgt := 45) hx hb d_Mo_instance_38 (by decide) (fun c_4 => ?_) (fun c_4 => ?_)
      · have h := if_f h c_4
        refine lv_aload_n hx hb d_Mo_instance_45 rfl (lv_at hl 0 rfl) ?_
        refine va_get (D := (dC, dI)) (ci := 1) (v := .int mo_instances) (C := R_Mo) (T := T_Mo) (N := 38) hx hb hB iw_Mo hown hK hP 0 rfl rfl 8 (by decide) (hB _ bw_881) (fun _ h9 => h9) rfl d_Mo_instance_46 ?_
        refine lv_bipush (v := 40) hx hb d_Mo_instance_49 (by decide) ?_
        refine lv_icmp_ne (tgt := 58) hx hb d_Mo_instance_51 (by decide) (fun c_5 => ?_) (fun c_5 => ?_)
        · have h := if_f h c_5
          refine lv_iconst (v := 0) hx hb d_Mo_instance_58 (by decide) ?_
          exact w_j59 _ _ _ _ h hP hD hS hl
        · have h := if_t h c_5
          refine lv_iconst (v := 3) hx hb d_Mo_instance_54 (by decide) ?_
          refine lv_goto (tgt := 59) hx hb d_Mo_instance_55 (by decide) ?_
          exact w_j59 _ _ _ _ h hP hD hS hl
      · have h := if_t h c_4
        exact w_j41 _ _ _ h hP hD hS hl
  · have h := if_t h c_2
    refine lv_iconst (v := 1) hx hb d_Mo_instance_15 (by decide) ?_
    refine lv_goto (tgt := 59) hx hb d_Mo_instance_16 (by decide) ?_
    exact w_j59 _ _ _ _ h hP hD hS hl
