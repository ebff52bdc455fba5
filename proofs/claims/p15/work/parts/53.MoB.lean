set_option maxHeartbeats 4000000 in
set_option maxRecDepth 100000 in
theorem c_Mo_isInstance (l : Launch) (dC : Nat → ClassId) (dI : Nat → Nat → Nat) (h_mo : Nat) (u_mo_thrown : Value) (u_mo_width : Value) (u_mo_height : Value) (u_mo_kind : Value) (u_mo_symbols : Value) (u_mo_wide : Value) (u_mo_high : Value) (u_mo_dark : Value) (u_mo_symbolOf : Value) (u_mo_xs : Value) (u_mo_ys : Value) (u_mo_differs : Value) (u_mo_ways : Value) (u_mo_ordered : Value) (u_mo_page : Value) (u_mo_told : Value) (u_mo_keeps : Value) (u_mo_toldBytes : Value) (u_mo_out : Value) (u_mo_counts : Value) (u_mo_lengths : Value) (u_mo_codes : Value) (u_mo_weight : Value) (u_mo_over : Value) (u_mo_used : Value) (u_mo_row : Value) (u_mo_came : Value) (u_mo_in : Value) (u_mo_at : Value) (u_mo_refused : Value) (u_mo_place : Value) (u_mo_readMany : Value) (u_mo_readSymbol : Value) (u_mo_readX : Value) (u_mo_readY : Value) (u_mo_readDiffers : Value) (u_mo_readWays : Value) (mo_instances : Int32) (p0 : Int32) (o : Int32) (hf : f_Mo_isInstance mo_instances p0 = some o) :
    Met l y_Mo_isInstance ws_Mo_isInstance { frames := 1, cells := 0, slots := 0, locals := 22 } (va_Pc [.ref h_mo, .int p0] (PcP (dC, dI) [(h_mo, .inr (1, [u_mo_thrown, u_mo_width, u_mo_height, u_mo_kind, u_mo_symbols, u_mo_wide, u_mo_high, u_mo_dark, .int mo_instances, u_mo_symbolOf, u_mo_xs, u_mo_ys, u_mo_differs, u_mo_ways, u_mo_ordered, u_mo_page, u_mo_told, u_mo_keeps, u_mo_toldBytes, u_mo_out, u_mo_counts, u_mo_lengths, u_mo_codes, u_mo_weight, u_mo_over, u_mo_used, u_mo_row, u_mo_came, u_mo_in, u_mo_at, u_mo_refused, u_mo_place, u_mo_readMany, u_mo_readSymbol, u_mo_readX, u_mo_readY, u_mo_readDiffers, u_mo_readWays]))] []))
      (vp_Si (fun r => r = o)) 0 0 (fun _ => False) := by
  refine Met.ofW (cc := b_Mo_isInstance) (maxL := 2) (ret := (some .boolean)) (by decide) rfl ?_
  intro p e s m args below meth c s₁ B hml hv
  obtain ⟨rfl, hP, hK, hnw⟩ := hv
  have hx := B.exec
  have hb := B.bytes
  have hr := B.returns
  have hts := atoms_spec (ws := ws_Mo_isInstance) B.pre
  have hB : ∀ w ∈ BIG, w.before _ s = true := fun w h => hts w (List.mem_cons_of_mem _ h)
  have hown : s.vm.findClass R_Mo = some m.cls := findClass_of_methodNamed B.named
  have hlocks := B.notSynchronized
  refine W_Q (fun Q9 eQ => ?_)
  have hl := lv_entry ([.ref h_mo, .int p0]) (n := 2) (Nat.le_of_ble_eq_true rfl)
  rw [lg_entry_eq]
  generalize (lg_sl ([.ref h_mo, .int p0]) ++ List.replicate (2 - (lg_sl ([.ref h_mo, .int p0])).length) Slot.unset).toArray = ls at hl ⊢
  have hl : lv_has ls 2 [(0, .ref h_mo), (1, .int p0)] := hl
  have h := hf
  unfold f_Mo_isInstance at h
  refine lv_iload_n hx hb d_Mo_isInstance_0 rfl (lv_at hl 1 rfl) ?_
  refine lv_iconst (v := 0) hx hb d_Mo_isInstance_1 (by decide) ?_
  refine lv_aload_n hx hb d_Mo_isInstance_2 rfl (lv_at hl 0 rfl) ?_
  refine va_get (D := (dC, dI)) (ci := 1) (v := .int mo_instances) (C := R_Mo) (T := T_Mo) (N := 38) hx hb hB iw_Mo hown hK hP 0 rfl rfl 8 (by decide) (hB _ bw_881) (fun _ h9 => h9) rfl d_Mo_isInstance_3 ?_
  refine lv_iconst (v := 1) hx hb d_Mo_isInstance_6 (by decide) ?_
  refine lv_isub hx hb d_Mo_isInstance_7 ?_
  obtain ⟨o9, hc9, h⟩ := bd_e h
  have hPc := hP.sub (ws' := []) [] rfl
  have hKc := hK.sub (tys' := []) [] rfl
  refine vp_callSi (va_Run.run (va_runS (As := [.int p0, .int (0 : Int32), .int (mo_instances - (1 : Int32))]) (rest := []) ⟨hx, hb, hml, hown, hB⟩ (c_Mo_isIn l dC dI p0 (0 : Int32) (mo_instances - (1 : Int32)) o9 hc9) (va_cwS 3 hB (goodA (m3 bw_996 bw_997 bw_13) (goodB bw_998)) rfl rfl rfl (by decide +kernel) ⟨Nat.le_of_ble_eq_true rfl, Nat.le_of_ble_eq_true rfl⟩) ⟨fb_p, (pre_p hPc hKc hnw [.int p0, .int (0 : Int32), .int (mo_instances - (1 : Int32))])⟩ rfl rfl hl.1 rfl (lv_room (Nat.le_of_ble_eq_true rfl)) d_Mo_isInstance_8 ⟨Nat.zero_le _, Nat.zero_le _⟩)) (fun r_1 e_r_1 => ?_)
  subst e_r_1
  clear hPc hKc hc9
  subst eQ
  obtain ⟨hz, h⟩ := bz_e h
  exact W.zret (v := r_1) hx hb hr (bz_n hz) (fun t ht hW => ⟨_, rfl, Option.some.inj h, ht⟩) (fun _ h9 => absurd h9 List.not_mem_nil) d_Mo_isInstance_11
set_option maxHeartbeats 4000000 in
set_option maxRecDepth 100000 in
theorem c_Mo_refine (l : Launch) (dC : Nat → ClassId) (dI : Nat → Nat → Nat) (h_mo : Nat) (h_mo_differs : Nat) (h_mo_symbolOf : Nat) (h_mo_wide : Nat) (h_mo_high : Nat) (c_mo_differs : ClassId) (c_mo_symbolOf : ClassId) (c_mo_wide : ClassId) (c_mo_high : ClassId) (u_mo_width : Value) (u_mo_height : Value) (u_mo_kind : Value) (u_mo_symbols : Value) (u_mo_dark : Value) (u_mo_xs : Value) (u_mo_ys : Value) (u_mo_ways : Value) (u_mo_ordered : Value) (u_mo_page : Value) (u_mo_told : Value) (u_mo_keeps : Value) (u_mo_toldBytes : Value) (u_mo_out : Value) (u_mo_counts : Value) (u_mo_lengths : Value) (u_mo_codes : Value) (u_mo_weight : Value) (u_mo_over : Value) (u_mo_used : Value) (u_mo_row : Value) (u_mo_came : Value) (u_mo_in : Value) (u_mo_at : Value) (u_mo_refused : Value) (u_mo_place : Value) (u_mo_readMany : Value) (u_mo_readSymbol : Value) (u_mo_readX : Value) (u_mo_readY : Value) (u_mo_readDiffers : Value) (u_mo_readWays : Value) (mo_thrown : Int32) (mo_instances : Int32) (mo_differs : (Nat → Int64)) (mo_symbolOf : (Nat → Int32)) (mo_wide : (Nat → Int32)) (mo_high : (Nat → Int32)) (p0 : Int32) (p1 : Int32) (p2 : Int32) (p3 : Int32) (sz : Nat) (o : Int32 × Int32 × (Nat → Int64)) (hf : f_Mo_refine mo_instances mo_differs mo_symbolOf mo_wide mo_high p0 p1 p2 p3 = some o) :
    Met l y_Mo_refine ws_Mo_refine { frames := 2, cells := 0, slots := 0, locals := 45 } (va_Pc [.ref h_mo, .int p0, .int p1, .int p2, .int p3] (PcM (dC, dI) [(h_mo, .inr (1, [.int mo_thrown, u_mo_width, u_mo_height, u_mo_kind, u_mo_symbols, .ref h_mo_wide, .ref h_mo_high, u_mo_dark, .int mo_instances, .ref h_mo_symbolOf, u_mo_xs, u_mo_ys, .ref h_mo_differs, u_mo_ways, u_mo_ordered, u_mo_page, u_mo_told, u_mo_keeps, u_mo_toldBytes, u_mo_out, u_mo_counts, u_mo_lengths, u_mo_codes, u_mo_weight, u_mo_over, u_mo_used, u_mo_row, u_mo_came, u_mo_in, u_mo_at, u_mo_refused, u_mo_place, u_mo_readMany, u_mo_readSymbol, u_mo_readX, u_mo_readY, u_mo_readDiffers, u_mo_readWays])), (h_mo_differs, .inl (c_mo_differs, 40, .inr (.inl mo_differs))), (h_mo_symbolOf, .inl (c_mo_symbolOf, 40, .inl mo_symbolOf)), (h_mo_wide, .inl (c_mo_wide, 16, .inl mo_wide)), (h_mo_high, .inl (c_mo_high, 16, .inl mo_high))] [(c_mo_differs, .long), (c_mo_symbolOf, .int), (c_mo_wide, .int), (c_mo_high, .int)] sz))
      (va_Qi (fun (r : Int32) (u : Int32 × (Nat → Int64)) => (r, u) = o) (fun u t => va_P (dC, dI) CL [(h_mo, .inr (1, [.int (u.1), u_mo_width, u_mo_height, u_mo_kind, u_mo_symbols, .ref h_mo_wide, .ref h_mo_high, u_mo_dark, .int mo_instances, .ref h_mo_symbolOf, u_mo_xs, u_mo_ys, .ref h_mo_differs, u_mo_ways, u_mo_ordered, u_mo_page, u_mo_told, u_mo_keeps, u_mo_toldBytes, u_mo_out, u_mo_counts, u_mo_lengths, u_mo_codes, u_mo_weight, u_mo_over, u_mo_used, u_mo_row, u_mo_came, u_mo_in, u_mo_at, u_mo_refused, u_mo_place, u_mo_readMany, u_mo_readSymbol, u_mo_readX, u_mo_readY, u_mo_readDiffers, u_mo_readWays])), (h_mo_differs, .inl (c_mo_differs, 40, .inr (.inl (u.2)))), (h_mo_symbolOf, .inl (c_mo_symbolOf, 40, .inl mo_symbolOf)), (h_mo_wide, .inl (c_mo_wide, 16, .inl mo_wide)), (h_mo_high, .inl (c_mo_high, 16, .inl mo_high))] t.heap ∧ va_K (dC, dI) CL [(c_mo_differs, .long), (c_mo_symbolOf, .int), (c_mo_wide, .int), (c_mo_high, .int)] t ∧ va_D (va_A [(h_mo, .inr (1, [.int mo_thrown, u_mo_width, u_mo_height, u_mo_kind, u_mo_symbols, .ref h_mo_wide, .ref h_mo_high, u_mo_dark, .int mo_instances, .ref h_mo_symbolOf, u_mo_xs, u_mo_ys, .ref h_mo_differs, u_mo_ways, u_mo_ordered, u_mo_page, u_mo_told, u_mo_keeps, u_mo_toldBytes, u_mo_out, u_mo_counts, u_mo_lengths, u_mo_codes, u_mo_weight, u_mo_over, u_mo_used, u_mo_row, u_mo_came, u_mo_in, u_mo_at, u_mo_refused, u_mo_place, u_mo_readMany, u_mo_readSymbol, u_mo_readX, u_mo_readY, u_mo_readDiffers, u_mo_readWays])), (h_mo_differs, .inl (c_mo_differs, 40, .inr (.inl mo_differs))), (h_mo_symbolOf, .inl (c_mo_symbolOf, 40, .inl mo_symbolOf)), (h_mo_wide, .inl (c_mo_wide, 16, .inl mo_wide)), (h_mo_high, .inl (c_mo_high, 16, .inl mo_high))] sz) [(h_mo, .inr (1, [.int (u.1), u_mo_width, u_mo_height, u_mo_kind, u_mo_symbols, .ref h_mo_wide, .ref h_mo_high, u_mo_dark, .int mo_instances, .ref h_mo_symbolOf, u_mo_xs, u_mo_ys, .ref h_mo_differs, u_mo_ways, u_mo_ordered, u_mo_page, u_mo_told, u_mo_keeps, u_mo_toldBytes, u_mo_out, u_mo_counts, u_mo_lengths, u_mo_codes, u_mo_weight, u_mo_over, u_mo_used, u_mo_row, u_mo_came, u_mo_in, u_mo_at, u_mo_refused, u_mo_place, u_mo_readMany, u_mo_readSymbol, u_mo_readX, u_mo_readY, u_mo_readDiffers, u_mo_readWays])), (h_mo_differs, .inl (c_mo_differs, 40, .inr (.inl (u.2)))), (h_mo_symbolOf, .inl (c_mo_symbolOf, 40, .inl mo_symbolOf)), (h_mo_wide, .inl (c_mo_wide, 16, .inl mo_wide)), (h_mo_high, .inl (c_mo_high, 16, .inl mo_high))]) (va_A [(h_mo, .inr (1, [.int mo_thrown, u_mo_width, u_mo_height, u_mo_kind, u_mo_symbols, .ref h_mo_wide, .ref h_mo_high, u_mo_dark, .int mo_instances, .ref h_mo_symbolOf, u_mo_xs, u_mo_ys, .ref h_mo_differs, u_mo_ways, u_mo_ordered, u_mo_page, u_mo_told, u_mo_keeps, u_mo_toldBytes, u_mo_out, u_mo_counts, u_mo_lengths, u_mo_codes, u_mo_weight, u_mo_over, u_mo_used, u_mo_row, u_mo_came, u_mo_in, u_mo_at, u_mo_refused, u_mo_place, u_mo_readMany, u_mo_readSymbol, u_mo_readX, u_mo_readY, u_mo_readDiffers, u_mo_readWays])), (h_mo_differs, .inl (c_mo_differs, 40, .inr (.inl mo_differs))), (h_mo_symbolOf, .inl (c_mo_symbolOf, 40, .inl mo_symbolOf)), (h_mo_wide, .inl (c_mo_wide, 16, .inl mo_wide)), (h_mo_high, .inl (c_mo_high, 16, .inl mo_high))] sz)) 0 0 (va_A [(h_mo, .inr (1, [.int mo_thrown, u_mo_width, u_mo_height, u_mo_kind, u_mo_symbols, .ref h_mo_wide, .ref h_mo_high, u_mo_dark, .int mo_instances, .ref h_mo_symbolOf, u_mo_xs, u_mo_ys, .ref h_mo_differs, u_mo_ways, u_mo_ordered, u_mo_page, u_mo_told, u_mo_keeps, u_mo_toldBytes, u_mo_out, u_mo_counts, u_mo_lengths, u_mo_codes, u_mo_weight, u_mo_over, u_mo_used, u_mo_row, u_mo_came, u_mo_in, u_mo_at, u_mo_refused, u_mo_place, u_mo_readMany, u_mo_readSymbol, u_mo_readX, u_mo_readY, u_mo_readDiffers, u_mo_readWays])), (h_mo_differs, .inl (c_mo_differs, 40, .inr (.inl mo_differs))), (h_mo_symbolOf, .inl (c_mo_symbolOf, 40, .inl mo_symbolOf)), (h_mo_wide, .inl (c_mo_wide, 16, .inl mo_wide)), (h_mo_high, .inl (c_mo_high, 16, .inl mo_high))] sz) := by
  refine Met.ofW (cc := b_Mo_refine) (maxL := 8) (ret := (some .boolean)) (by decide) rfl ?_
  intro p e s m args below meth c s₁ B hml hv
  obtain ⟨rfl, hsz, hP, hK, hD0, hnw⟩ := hv
  have hx := B.exec
  have hb := B.bytes
  have hr := B.returns
  have hts := atoms_spec (ws := ws_Mo_refine) B.pre
  have hB : ∀ w ∈ BIG, w.before _ s = true := fun w h => hts w (List.mem_cons_of_mem _ h)
  have hown : s.vm.findClass R_Mo = some m.cls := findClass_of_methodNamed B.named
  have hlocks := B.notSynchronized
  subst hsz
  have hD := hD0.self (sz := s.heap.size)
  refine W_Q (fun Q9 eQ => ?_)
  generalize hAe : va_A [(h_mo, .inr (1, [.int mo_thrown, u_mo_width, u_mo_height, u_mo_kind, u_mo_symbols, .ref h_mo_wide, .ref h_mo_high, u_mo_dark, .int mo_instances, .ref h_mo_symbolOf, u_mo_xs, u_mo_ys, .ref h_mo_differs, u_mo_ways, u_mo_ordered, u_mo_page, u_mo_told, u_mo_keeps, u_mo_toldBytes, u_mo_out, u_mo_counts, u_mo_lengths, u_mo_codes, u_mo_weight, u_mo_over, u_mo_used, u_mo_row, u_mo_came, u_mo_in, u_mo_at, u_mo_refused, u_mo_place, u_mo_readMany, u_mo_readSymbol, u_mo_readX, u_mo_readY, u_mo_readDiffers, u_mo_readWays])), (h_mo_differs, .inl (c_mo_differs, 40, .inr (.inl mo_differs))), (h_mo_symbolOf, .inl (c_mo_symbolOf, 40, .inl mo_symbolOf)), (h_mo_wide, .inl (c_mo_wide, 16, .inl mo_wide)), (h_mo_high, .inl (c_mo_high, 16, .inl mo_high))] s.heap.size = A at hD eQ
  have hA : ∀ q : Nat, s.heap.size ≤ q → A q := fun q h => by rw [← hAe]; exact Or.inr h
  have hS : va_S A s.heap s.heap [] := va_S.rf
  have hl := lv_entry ([.ref h_mo, .int p0, .int p1, .int p2, .int p3]) (n := 8) (Nat.le_of_ble_eq_true rfl)
  rw [lg_entry_eq]
  generalize (lg_sl ([.ref h_mo, .int p0, .int p1, .int p2, .int p3]) ++ List.replicate (8 - (lg_sl ([.ref h_mo, .int p0, .int p1, .int p2, .int p3])).length) Slot.unset).toArray = ls at hl ⊢
  have hl : lv_has ls 8 [(0, .ref h_mo), (1, .int p0), (2, .int p1), (3, .int p2), (4, .int p3)] := hl
  have h := hf
  unfold f_Mo_refine at h
  refine lv_aload_n hx hb d_Mo_refine_0 rfl (lv_at hl 0 rfl) ?_
  refine lv_aload_n hx hb d_Mo_refine_1 rfl (lv_at hl 0 rfl) ?_
  refine lv_iload_n hx hb d_Mo_refine_2 rfl (lv_at hl 1 rfl) ?_
  obtain ⟨o9, hc9, h⟩ := bd_e h
  have hPc := hP.sub (ws' := [(h_mo, .inr (1, [.int mo_thrown, u_mo_width, u_mo_height, u_mo_kind, u_mo_symbols, .ref h_mo_wide, .ref h_mo_high, u_mo_dark, .int mo_instances, .ref h_mo_symbolOf, u_mo_xs, u_mo_ys, .ref h_mo_differs, u_mo_ways, u_mo_ordered, u_mo_page, u_mo_told, u_mo_keeps, u_mo_toldBytes, u_mo_out, u_mo_counts, u_mo_lengths, u_mo_codes, u_mo_weight, u_mo_over, u_mo_used, u_mo_row, u_mo_came, u_mo_in, u_mo_at, u_mo_refused, u_mo_place, u_mo_readMany, u_mo_readSymbol, u_mo_readX, u_mo_readY, u_mo_readDiffers, u_mo_readWays]))]) [0] rfl
  have hKc := hK.sub (tys' := []) [] rfl
  refine vp_callSi (va_Run.run (va_runV (As := [.int p0]) (rest := [.ref h_mo]) ⟨hx, hb, hml, hown, hB⟩ (c_Mo_isInstance l dC dI h_mo (.int mo_thrown) u_mo_width u_mo_height u_mo_kind u_mo_symbols (.ref h_mo_wide) (.ref h_mo_high) u_mo_dark (.ref h_mo_symbolOf) u_mo_xs u_mo_ys (.ref h_mo_differs) u_mo_ways u_mo_ordered u_mo_page u_mo_told u_mo_keeps u_mo_toldBytes u_mo_out u_mo_counts u_mo_lengths u_mo_codes u_mo_weight u_mo_over u_mo_used u_mo_row u_mo_came u_mo_in u_mo_at u_mo_refused u_mo_place u_mo_readMany u_mo_readSymbol u_mo_readX u_mo_readY u_mo_readDiffers u_mo_readWays mo_instances p0 o9 hc9) (cwV 1 hB (goodA (m4 bw_1016 bw_1018 bs_56 bw_13) (goodB bw_1019)) rfl rfl rfl (by decide +kernel) ⟨Nat.le_of_ble_eq_true rfl, Nat.le_of_ble_eq_true rfl⟩) ⟨fb_p, va_recv hK hP (ci := 1) (q0 := 0) rfl rfl, (pre_p hPc hKc hnw [.ref h_mo, .int p0])⟩ rfl rfl hl.1 rfl (lv_room (Nat.le_of_ble_eq_true rfl)) d_Mo_refine_3 ⟨Nat.zero_le _, Nat.zero_le _⟩)) (fun r_1 e_r_1 => ?_)
  subst e_r_1
  clear hPc hKc hc9
  obtain ⟨j29, e_j29, h⟩ := jn_e h
  have w_j29 : ∀ (s_2 : Int32) (H : Heap) (locs : List Loc) (ls : Array Slot), j29 s_2 = some o → va_P (dC, dI) CL [(h_mo, .inr (1, [.int mo_thrown, u_mo_width, u_mo_height, u_mo_kind, u_mo_symbols, .ref h_mo_wide, .ref h_mo_high, u_mo_dark, .int mo_instances, .ref h_mo_symbolOf, u_mo_xs, u_mo_ys, .ref h_mo_differs, u_mo_ways, u_mo_ordered, u_mo_page, u_mo_told, u_mo_keeps, u_mo_toldBytes, u_mo_out, u_mo_counts, u_mo_lengths, u_mo_codes, u_mo_weight, u_mo_over, u_mo_used, u_mo_row, u_mo_came, u_mo_in, u_mo_at, u_mo_refused, u_mo_place, u_mo_readMany, u_mo_readSymbol, u_mo_readX, u_mo_readY, u_mo_readDiffers, u_mo_readWays])), (h_mo_differs, .inl (c_mo_differs, 40, .inr (.inl mo_differs))), (h_mo_symbolOf, .inl (c_mo_symbolOf, 40, .inl mo_symbolOf)), (h_mo_wide, .inl (c_mo_wide, 16, .inl mo_wide)), (h_mo_high, .inl (c_mo_high, 16, .inl mo_high))] H → va_D A [(h_mo, .inr (1, [.int mo_thrown, u_mo_width, u_mo_height, u_mo_kind, u_mo_symbols, .ref h_mo_wide, .ref h_mo_high, u_mo_dark, .int mo_instances, .ref h_mo_symbolOf, u_mo_xs, u_mo_ys, .ref h_mo_differs, u_mo_ways, u_mo_ordered, u_mo_page, u_mo_told, u_mo_keeps, u_mo_toldBytes, u_mo_out, u_mo_counts, u_mo_lengths, u_mo_codes, u_mo_weight, u_mo_over, u_mo_used, u_mo_row, u_mo_came, u_mo_in, u_mo_at, u_mo_refused, u_mo_place, u_mo_readMany, u_mo_readSymbol, u_mo_readX, u_mo_readY, u_mo_readDiffers, u_mo_readWays])), (h_mo_differs, .inl (c_mo_differs, 40, .inr (.inl mo_differs))), (h_mo_symbolOf, .inl (c_mo_symbolOf, 40, .inl mo_symbolOf)), (h_mo_wide, .inl (c_mo_wide, 16, .inl mo_wide)), (h_mo_high, .inl (c_mo_high, 16, .inl mo_high))] → va_S A s.heap H locs → lv_has ls 8 [(0, .ref h_mo), (1, .int p0), (2, .int p1), (3, .int p2), (4, .int p3)] → W p l e ({ frames := 2, cells := 0, slots := 0, locals := 45 } : Room) s m ([.ref h_mo, .int p0, .int p1, .int p2, .int p3] : List Value).toArray below meth c H locs 0 0 Q9 (F0 m 29 ls [.int s_2, .ref h_mo]) := by
    intro s_2 H locs ls h hP hD hS hl
    rw [e_j29] at h
    refine va_put (D := (dC, dI)) (ci := 1) (v := .int s_2) (ty := .int) (C := R_Mo) (T := T_Mo) (N := 38) hx hb hB iw_Mo ty_Mo tk_Mo n_Mo hown hK hP hD hS 0 rfl rfl 0 (by decide) (hB _ bw_873) (fun _ h9 => h9) rfl (by decide +kernel) rfl rfl (Nat.le_of_ble_eq_true rfl) d_Mo_refine_29 (fun H locs hP hD hS => ?_)
    have hP : va_P (dC, dI) CL [(h_mo, .inr (1, [.int s_2, u_mo_width, u_mo_height, u_mo_kind, u_mo_symbols, .ref h_mo_wide, .ref h_mo_high, u_mo_dark, .int mo_instances, .ref h_mo_symbolOf, u_mo_xs, u_mo_ys, .ref h_mo_differs, u_mo_ways, u_mo_ordered, u_mo_page, u_mo_told, u_mo_keeps, u_mo_toldBytes, u_mo_out, u_mo_counts, u_mo_lengths, u_mo_codes, u_mo_weight, u_mo_over, u_mo_used, u_mo_row, u_mo_came, u_mo_in, u_mo_at, u_mo_refused, u_mo_place, u_mo_readMany, u_mo_readSymbol, u_mo_readX, u_mo_readY, u_mo_readDiffers, u_mo_readWays])), (h_mo_differs, .inl (c_mo_differs, 40, .inr (.inl mo_differs))), (h_mo_symbolOf, .inl (c_mo_symbolOf, 40, .inl mo_symbolOf)), (h_mo_wide, .inl (c_mo_wide, 16, .inl mo_wide)), (h_mo_high, .inl (c_mo_high, 16, .inl mo_high))] H := hP
    have hD : va_D A [(h_mo, .inr (1, [.int s_2, u_mo_width, u_mo_height, u_mo_kind, u_mo_symbols, .ref h_mo_wide, .ref h_mo_high, u_mo_dark, .int mo_instances, .ref h_mo_symbolOf, u_mo_xs, u_mo_ys, .ref h_mo_differs, u_mo_ways, u_mo_ordered, u_mo_page, u_mo_told, u_mo_keeps, u_mo_toldBytes, u_mo_out, u_mo_counts, u_mo_lengths, u_mo_codes, u_mo_weight, u_mo_over, u_mo_used, u_mo_row, u_mo_came, u_mo_in, u_mo_at, u_mo_refused, u_mo_place, u_mo_readMany, u_mo_readSymbol, u_mo_readX, u_mo_readY, u_mo_readDiffers, u_mo_readWays])), (h_mo_differs, .inl (c_mo_differs, 40, .inr (.inl mo_differs))), (h_mo_symbolOf, .inl (c_mo_symbolOf, 40, .inl mo_symbolOf)), (h_mo_wide, .inl (c_mo_wide, 16, .inl mo_wide)), (h_mo_high, .inl (c_mo_high, 16, .inl mo_high))] := hD
    refine lv_aload_n hx hb d_Mo_refine_32 rfl (lv_at hl 0 rfl) ?_
    refine va_get (D := (dC, dI)) (ci := 1) (v := .int s_2) (C := R_Mo) (T := T_Mo) (N := 38) hx hb hB iw_Mo hown hK hP 0 rfl rfl 0 (by decide) (hB _ bw_873) (fun _ h9 => h9) rfl d_Mo_refine_33 ?_
    refine lv_if_le (tgt := 41) hx hb d_Mo_refine_36 (by decide) (fun c_1 => ?_) (fun c_1 => ?_)
    · have h := if_t h c_1
      refine lv_lconst (v := 1) hx hb d_Mo_refine_41 (by decide) ?_
      refine lv_bipush (v := 8) hx hb d_Mo_refine_42 (by decide) ?_
      refine lv_iload_n hx hb d_Mo_refine_44 rfl (lv_at hl 3 rfl) ?_
      refine lv_imul hx hb d_Mo_refine_45 ?_
      refine lv_iload_n hx hb d_Mo_refine_46 rfl (lv_at hl 2 rfl) ?_
      refine lv_iadd hx hb d_Mo_refine_47 ?_
      refine lv_lshl hx hb d_Mo_refine_48 rfl ?_
      refine lv_topl (fun v5_3 e_v5_3 => ?_)
      have h := nl_u e_v5_3 h
      refine lv_lstore (lv' := [(5, .long v5_3), (0, .ref h_mo), (1, .int p0), (2, .int p1), (3, .int p2), (4, .int p3)]) hx hb d_Mo_refine_49 hl (by decide) rfl (fun ls hl => ?_)
      refine lv_aload_n hx hb d_Mo_refine_51 rfl (lv_at hl 1 rfl) ?_
      refine va_get (D := (dC, dI)) (ci := 1) (v := .ref h_mo_differs) (C := R_Mo) (T := T_Mo) (N := 38) hx hb hB iw_Mo hown hK hP 0 rfl rfl 12 (by decide) (hB _ bw_885) (fun _ h9 => h9) rfl d_Mo_refine_52 ?_
      refine lv_iload_n hx hb d_Mo_refine_55 rfl (lv_at hl 2 rfl) ?_
      obtain ⟨hin, h⟩ := gq_e h
      refine va_lald hx hb hK hP 1 0 rfl rfl hin d_Mo_refine_56 ?_
      refine lv_lload hx hb d_Mo_refine_57 (lv_at hl 0 rfl) ?_
      refine lv_land hx hb d_Mo_refine_59 ?_
      refine lv_lconst (v := 0) hx hb d_Mo_refine_60 (by decide) ?_
      refine W.lcmp hx hb d_Mo_refine_61 ?_
      obtain ⟨j70, e_j70, h⟩ := jn_e h
      have w_j70 : ∀ (s_4 : Int32) (H : Heap) (locs : List Loc) (ls : Array Slot), j70 s_4 = some o → va_P (dC, dI) CL [(h_mo, .inr (1, [.int s_2, u_mo_width, u_mo_height, u_mo_kind, u_mo_symbols, .ref h_mo_wide, .ref h_mo_high, u_mo_dark, .int mo_instances, .ref h_mo_symbolOf, u_mo_xs, u_mo_ys, .ref h_mo_differs, u_mo_ways, u_mo_ordered, u_mo_page, u_mo_told, u_mo_keeps, u_mo_toldBytes, u_mo_out, u_mo_counts, u_mo_lengths, u_mo_codes, u_mo_weight, u_mo_over, u_mo_used, u_mo_row, u_mo_came, u_mo_in, u_mo_at, u_mo_refused, u_mo_place, u_mo_readMany, u_mo_readSymbol, u_mo_readX, u_mo_readY, u_mo_readDiffers, u_mo_readWays])), (h_mo_differs, .inl (c_mo_differs, 40, .inr (.inl mo_differs))), (h_mo_symbolOf, .inl (c_mo_symbolOf, 40, .inl mo_symbolOf)), (h_mo_wide, .inl (c_mo_wide, 16, .inl mo_wide)), (h_mo_high, .inl (c_mo_high, 16, .inl mo_high))] H → va_D A [(h_mo, .inr (1, [.int s_2, u_mo_width, u_mo_height, u_mo_kind, u_mo_symbols, .ref h_mo_wide, .ref h_mo_high, u_mo_dark, .int mo_instances, .ref h_mo_symbolOf, u_mo_xs, u_mo_ys, .ref h_mo_differs, u_mo_ways, u_mo_ordered, u_mo_page, u_mo_told, u_mo_keeps, u_mo_toldBytes, u_mo_out, u_mo_counts, u_mo_lengths, u_mo_codes, u_mo_weight, u_mo_over, u_mo_used, u_mo_row, u_mo_came, u_mo_in, u_mo_at, u_mo_refused, u_mo_place, u_mo_readMany, u_mo_readSymbol, u_mo_readX, u_mo_readY, u_mo_readDiffers, u_mo_readWays])), (h_mo_differs, .inl (c_mo_differs, 40, .inr (.inl mo_differs))), (h_mo_symbolOf, .inl (c_mo_symbolOf, 40, .inl mo_symbolOf)), (h_mo_wide, .inl (c_mo_wide, 16, .inl mo_wide)), (h_mo_high, .inl (c_mo_high, 16, .inl mo_high))] → va_S A s.heap H locs → lv_has ls 8 [(5, .long v5_3), (0, .ref h_mo), (1, .int p0), (4, .int p3)] → W p l e ({ frames := 2, cells := 0, slots := 0, locals := 45 } : Room) s m ([.ref h_mo, .int p0, .int p1, .int p2, .int p3] : List Value).toArray below meth c H locs 0 0 Q9 (F0 m 70 ls [.int s_4]) := by
        intro s_4 H locs ls h hP hD hS hl
        rw [e_j70] at h
        refine lv_istore (lv' := [(7, .int s_4), (5, .long v5_3), (0, .ref h_mo), (1, .int p0), (4, .int p3)]) hx hb d_Mo_refine_70 hl (by decide) rfl (fun ls hl => ?_)
        refine lv_aload_n hx hb d_Mo_refine_72 rfl (lv_at hl 2 rfl) ?_
        refine va_get (D := (dC, dI)) (ci := 1) (v := .ref h_mo_differs) (C := R_Mo) (T := T_Mo) (N := 38) hx hb hB iw_Mo hown hK hP 0 rfl rfl 12 (by decide) (hB _ bw_885) (fun _ h9 => h9) rfl d_Mo_refine_73 ?_
        refine lv_iload_n hx hb d_Mo_refine_76 rfl (lv_at hl 3 rfl) ?_
        refine lv_iload hx hb d_Mo_refine_77 (lv_at hl 4 rfl) ?_
        obtain ⟨j107, e_j107, h⟩ := jn_e h
        have w_j107 : ∀ (s_5 : Int32) (s_6 : Int64) (H : Heap) (locs : List Loc) (ls : Array Slot), j107 s_5 s_6 = some o → va_P (dC, dI) CL [(h_mo, .inr (1, [.int s_2, u_mo_width, u_mo_height, u_mo_kind, u_mo_symbols, .ref h_mo_wide, .ref h_mo_high, u_mo_dark, .int mo_instances, .ref h_mo_symbolOf, u_mo_xs, u_mo_ys, .ref h_mo_differs, u_mo_ways, u_mo_ordered, u_mo_page, u_mo_told, u_mo_keeps, u_mo_toldBytes, u_mo_out, u_mo_counts, u_mo_lengths, u_mo_codes, u_mo_weight, u_mo_over, u_mo_used, u_mo_row, u_mo_came, u_mo_in, u_mo_at, u_mo_refused, u_mo_place, u_mo_readMany, u_mo_readSymbol, u_mo_readX, u_mo_readY, u_mo_readDiffers, u_mo_readWays])), (h_mo_differs, .inl (c_mo_differs, 40, .inr (.inl mo_differs))), (h_mo_symbolOf, .inl (c_mo_symbolOf, 40, .inl mo_symbolOf)), (h_mo_wide, .inl (c_mo_wide, 16, .inl mo_wide)), (h_mo_high, .inl (c_mo_high, 16, .inl mo_high))] H → va_D A [(h_mo, .inr (1, [.int s_2, u_mo_width, u_mo_height, u_mo_kind, u_mo_symbols, .ref h_mo_wide, .ref h_mo_high, u_mo_dark, .int mo_instances, .ref h_mo_symbolOf, u_mo_xs, u_mo_ys, .ref h_mo_differs, u_mo_ways, u_mo_ordered, u_mo_page, u_mo_told, u_mo_keeps, u_mo_toldBytes, u_mo_out, u_mo_counts, u_mo_lengths, u_mo_codes, u_mo_weight, u_mo_over, u_mo_used, u_mo_row, u_mo_came, u_mo_in, u_mo_at, u_mo_refused, u_mo_place, u_mo_readMany, u_mo_readSymbol, u_mo_readX, u_mo_readY, u_mo_readDiffers, u_mo_readWays])), (h_mo_differs, .inl (c_mo_differs, 40, .inr (.inl mo_differs))), (h_mo_symbolOf, .inl (c_mo_symbolOf, 40, .inl mo_symbolOf)), (h_mo_wide, .inl (c_mo_wide, 16, .inl mo_wide)), (h_mo_high, .inl (c_mo_high, 16, .inl mo_high))] → va_S A s.heap H locs → lv_has ls 8 [(7, .int s_4), (4, .int p3)] → W p l e ({ frames := 2, cells := 0, slots := 0, locals := 45 } : Room) s m ([.ref h_mo, .int p0, .int p1, .int p2, .int p3] : List Value).toArray below meth c H locs 0 0 Q9 (F0 m 107 ls [.long s_6, .int s_5, .ref h_mo_differs]) := by
          intro s_5 s_6 H locs ls h hP hD hS hl
          rw [e_j107] at h
          obtain ⟨hin, h⟩ := gq_e h
          refine va_last hx hb hK hP hD hS 1 0 rfl rfl hin d_Mo_refine_107 (fun H locs hP hD hS => ?_)
          have hP : va_P (dC, dI) CL [(h_mo, .inr (1, [.int s_2, u_mo_width, u_mo_height, u_mo_kind, u_mo_symbols, .ref h_mo_wide, .ref h_mo_high, u_mo_dark, .int mo_instances, .ref h_mo_symbolOf, u_mo_xs, u_mo_ys, .ref h_mo_differs, u_mo_ways, u_mo_ordered, u_mo_page, u_mo_told, u_mo_keeps, u_mo_toldBytes, u_mo_out, u_mo_counts, u_mo_lengths, u_mo_codes, u_mo_weight, u_mo_over, u_mo_used, u_mo_row, u_mo_came, u_mo_in, u_mo_at, u_mo_refused, u_mo_place, u_mo_readMany, u_mo_readSymbol, u_mo_readX, u_mo_readY, u_mo_readDiffers, u_mo_readWays])), (h_mo_differs, .inl (c_mo_differs, 40, .inr (.inl (vp_updL mo_differs (s_5).toNatClampNeg s_6)))), (h_mo_symbolOf, .inl (c_mo_symbolOf, 40, .inl mo_symbolOf)), (h_mo_wide, .inl (c_mo_wide, 16, .inl mo_wide)), (h_mo_high, .inl (c_mo_high, 16, .inl mo_high))] H := hP
          have hD : va_D A [(h_mo, .inr (1, [.int s_2, u_mo_width, u_mo_height, u_mo_kind, u_mo_symbols, .ref h_mo_wide, .ref h_mo_high, u_mo_dark, .int mo_instances, .ref h_mo_symbolOf, u_mo_xs, u_mo_ys, .ref h_mo_differs, u_mo_ways, u_mo_ordered, u_mo_page, u_mo_told, u_mo_keeps, u_mo_toldBytes, u_mo_out, u_mo_counts, u_mo_lengths, u_mo_codes, u_mo_weight, u_mo_over, u_mo_used, u_mo_row, u_mo_came, u_mo_in, u_mo_at, u_mo_refused, u_mo_place, u_mo_readMany, u_mo_readSymbol, u_mo_readX, u_mo_readY, u_mo_readDiffers, u_mo_readWays])), (h_mo_differs, .inl (c_mo_differs, 40, .inr (.inl (vp_updL mo_differs (s_5).toNatClampNeg s_6)))), (h_mo_symbolOf, .inl (c_mo_symbolOf, 40, .inl mo_symbolOf)), (h_mo_wide, .inl (c_mo_wide, 16, .inl mo_wide)), (h_mo_high, .inl (c_mo_high, 16, .inl mo_high))] := hD
          refine lv_iload hx hb d_Mo_refine_108 (lv_at hl 0 rfl) ?_
          refine lv_iload hx hb d_Mo_refine_110 (lv_at hl 1 rfl) ?_
          refine lv_icmp_eq (tgt := 119) hx hb d_Mo_refine_112 (by decide) (fun c_2 => ?_) (fun c_2 => ?_)
          · have h := if_t h c_2
            refine lv_iconst (v := 0) hx hb d_Mo_refine_119 (by decide) ?_
            subst eQ
            exact W.zret (v := (0 : Int32)) hx hb hr rfl (fun t ht hW => ⟨⟨_, (s_2, (vp_updL mo_differs (s_5).toNatClampNeg s_6)), rfl, Option.some.inj h, by rw [ht]; exact hP, va_K.moved hW.alike hK, hD⟩, hS.F ht⟩) hS.2.2 d_Mo_refine_120
          · have h := if_f h c_2
            refine lv_iconst (v := 1) hx hb d_Mo_refine_115 (by decide) ?_
            refine lv_goto (tgt := 120) hx hb d_Mo_refine_116 (by decide) ?_
            subst eQ
            exact W.zret (v := (1 : Int32)) hx hb hr rfl (fun t ht hW => ⟨⟨_, (s_2, (vp_updL mo_differs (s_5).toNatClampNeg s_6)), rfl, Option.some.inj h, by rw [ht]; exact hP, va_K.moved hW.alike hK, hD⟩, hS.F ht⟩) hS.2.2 d_Mo_refine_120
        refine lv_if_eq (tgt := 94) hx hb d_Mo_refine_79 (by decide) (fun c_3 => ?_) (fun c_3 => ?_)
        · have h := if_t h c_3
          refine lv_aload_n hx hb d_Mo_refine_94 rfl (lv_at hl 2 rfl) ?_
          refine va_get (D := (dC, dI)) (ci := 1) (v := .ref h_mo_differs) (C := R_Mo) (T := T_Mo) (N := 38) hx hb hB iw_Mo hown hK hP 0 rfl rfl 12 (by decide) (hB _ bw_885) (fun _ h9 => h9) rfl d_Mo_refine_95 ?_
          refine lv_iload_n hx hb d_Mo_refine_98 rfl (lv_at hl 3 rfl) ?_
          obtain ⟨hin, h⟩ := gq_e h
          refine va_lald hx hb hK hP 1 0 rfl rfl hin d_Mo_refine_99 ?_
          refine lv_lload hx hb d_Mo_refine_100 (lv_at hl 1 rfl) ?_
          refine lv_ldc2 (v := -1) hx hb hown (hts (.constantLong R_Mo 114 (-1)) (by decide +kernel)) d_Mo_refine_102 ?_
          refine lv_lxor hx hb d_Mo_refine_105 ?_
          refine lv_land hx hb d_Mo_refine_106 ?_
          exact w_j107 _ _ _ _ _ h hP hD hS (lv_sub hl [0, 4] rfl)
        · have h := if_f h c_3
          refine lv_aload_n hx hb d_Mo_refine_82 rfl (lv_at hl 2 rfl) ?_
          refine va_get (D := (dC, dI)) (ci := 1) (v := .ref h_mo_differs) (C := R_Mo) (T := T_Mo) (N := 38) hx hb hB iw_Mo hown hK hP 0 rfl rfl 12 (by decide) (hB _ bw_885) (fun _ h9 => h9) rfl d_Mo_refine_83 ?_
          refine lv_iload_n hx hb d_Mo_refine_86 rfl (lv_at hl 3 rfl) ?_
          obtain ⟨hin, h⟩ := gq_e h
          refine va_lald hx hb hK hP 1 0 rfl rfl hin d_Mo_refine_87 ?_
          refine lv_lload hx hb d_Mo_refine_88 (lv_at hl 1 rfl) ?_
          refine lv_lor hx hb d_Mo_refine_90 ?_
          refine lv_goto (tgt := 107) hx hb d_Mo_refine_91 (by decide) ?_
          exact w_j107 _ _ _ _ _ h hP hD hS (lv_sub hl [0, 4] rfl)
      refine lv_if_eq (tgt := 69) hx hb d_Mo_refine_62 (by decide) (fun c_4 => ?_) (fun c_4 => ?_)
      · have h := if_t h c_4
        refine lv_iconst (v := 0) hx hb d_Mo_refine_69 (by decide) ?_
        exact w_j70 _ _ _ _ h hP hD hS (lv_sub hl [0, 1, 2, 5] rfl)
      · have h := if_f h c_4
        refine lv_iconst (v := 1) hx hb d_Mo_refine_65 (by decide) ?_
        refine lv_goto (tgt := 70) hx hb d_Mo_refine_66 (by decide) ?_
        exact w_j70 _ _ _ _ h hP hD hS (lv_sub hl [0, 1, 2, 5] rfl)
    · have h := if_f h c_1
      refine lv_iconst (v := 0) hx hb d_Mo_refine_39 (by decide) ?_
      subst eQ
      exact W.zret (v := (0 : Int32)) hx hb hr rfl (fun t ht hW => ⟨⟨_, (s_2, mo_differs), rfl, Option.some.inj h, by rw [ht]; exact hP, va_K.moved hW.alike hK, hD⟩, hS.F ht⟩) hS.2.2 d_Mo_refine_40
  obtain ⟨j24, e_j24, h⟩ := jn_e h
  have w_j24 : ∀ (H : Heap) (locs : List Loc) (ls : Array Slot), j24 () = some o → va_P (dC, dI) CL [(h_mo, .inr (1, [.int mo_thrown, u_mo_width, u_mo_height, u_mo_kind, u_mo_symbols, .ref h_mo_wide, .ref h_mo_high, u_mo_dark, .int mo_instances, .ref h_mo_symbolOf, u_mo_xs, u_mo_ys, .ref h_mo_differs, u_mo_ways, u_mo_ordered, u_mo_page, u_mo_told, u_mo_keeps, u_mo_toldBytes, u_mo_out, u_mo_counts, u_mo_lengths, u_mo_codes, u_mo_weight, u_mo_over, u_mo_used, u_mo_row, u_mo_came, u_mo_in, u_mo_at, u_mo_refused, u_mo_place, u_mo_readMany, u_mo_readSymbol, u_mo_readX, u_mo_readY, u_mo_readDiffers, u_mo_readWays])), (h_mo_differs, .inl (c_mo_differs, 40, .inr (.inl mo_differs))), (h_mo_symbolOf, .inl (c_mo_symbolOf, 40, .inl mo_symbolOf)), (h_mo_wide, .inl (c_mo_wide, 16, .inl mo_wide)), (h_mo_high, .inl (c_mo_high, 16, .inl mo_high))] H → va_D A [(h_mo, .inr (1, [.int mo_thrown, u_mo_width, u_mo_height, u_mo_kind, u_mo_symbols, .ref h_mo_wide, .ref h_mo_high, u_mo_dark, .int mo_instances, .ref h_mo_symbolOf, u_mo_xs, u_mo_ys, .ref h_mo_differs, u_mo_ways, u_mo_ordered, u_mo_page, u_mo_told, u_mo_keeps, u_mo_toldBytes, u_mo_out, u_mo_counts, u_mo_lengths, u_mo_codes, u_mo_weight, u_mo_over, u_mo_used, u_mo_row, u_mo_came, u_mo_in, u_mo_at, u_mo_refused, u_mo_place, u_mo_readMany, u_mo_readSymbol, u_mo_readX, u_mo_readY, u_mo_readDiffers, u_mo_readWays])), (h_mo_differs, .inl (c_mo_differs, 40, .inr (.inl mo_differs))), (h_mo_symbolOf, .inl (c_mo_symbolOf, 40, .inl mo_symbolOf)), (h_mo_wide, .inl (c_mo_wide, 16, .inl mo_wide)), (h_mo_high, .inl (c_mo_high, 16, .inl mo_high))] → va_S A s.heap H locs → lv_has ls 8 [(0, .ref h_mo), (1, .int p0), (2, .int p1), (3, .int p2), (4, .int p3)] → W p l e ({ frames := 2, cells := 0, slots := 0, locals := 45 } : Room) s m ([.ref h_mo, .int p0, .int p1, .int p2, .int p3] : List Value).toArray below meth c H locs 0 0 Q9 (F0 m 24 ls [.ref h_mo]) := by
    intro H locs ls h hP hD hS hl
    rw [e_j24] at h
    refine lv_iconst (v := 1) hx hb d_Mo_refine_24 (by decide) ?_
    refine lv_goto (tgt := 29) hx hb d_Mo_refine_25 (by decide) ?_
    exact w_j29 _ _ _ _ h hP hD hS hl
  refine lv_if_eq (tgt := 24) hx hb d_Mo_refine_6 (by decide) (fun c_5 => ?_) (fun c_5 => ?_)
  · have h := if_t h c_5
    exact w_j24 _ _ _ h hP hD hS hl
  · have h := if_f h c_5
    refine lv_aload_n hx hb d_Mo_refine_9 rfl (lv_at hl 0 rfl) ?_
    refine lv_aload_n hx hb d_Mo_refine_10 rfl (lv_at hl 0 rfl) ?_
    refine va_get (D := (dC, dI)) (ci := 1) (v := .ref h_mo_symbolOf) (C := R_Mo) (T := T_Mo) (N := 38) hx hb hB iw_Mo hown hK hP 0 rfl rfl 9 (by decide) (hB _ bw_882) (fun _ h9 => h9) rfl d_Mo_refine_11 ?_
    refine lv_iload_n hx hb d_Mo_refine_14 rfl (lv_at hl 1 rfl) ?_
    obtain ⟨hin, h⟩ := gq_e h
    refine va_iald hx hb hK hP 2 1 rfl rfl hin d_Mo_refine_15 ?_
    refine lv_iload_n hx hb d_Mo_refine_16 rfl (lv_at hl 2 rfl) ?_
    refine lv_iload_n hx hb d_Mo_refine_17 rfl (lv_at hl 3 rfl) ?_
    obtain ⟨o9, hc9, h⟩ := bd_e h
    have hPc := hP.sub (ws' := [(h_mo, .inr (1, [.int mo_thrown, u_mo_width, u_mo_height, u_mo_kind, u_mo_symbols, .ref h_mo_wide, .ref h_mo_high, u_mo_dark, .int mo_instances, .ref h_mo_symbolOf, u_mo_xs, u_mo_ys, .ref h_mo_differs, u_mo_ways, u_mo_ordered, u_mo_page, u_mo_told, u_mo_keeps, u_mo_toldBytes, u_mo_out, u_mo_counts, u_mo_lengths, u_mo_codes, u_mo_weight, u_mo_over, u_mo_used, u_mo_row, u_mo_came, u_mo_in, u_mo_at, u_mo_refused, u_mo_place, u_mo_readMany, u_mo_readSymbol, u_mo_readX, u_mo_readY, u_mo_readDiffers, u_mo_readWays])), (h_mo_wide, .inl (c_mo_wide, 16, .inl mo_wide)), (h_mo_high, .inl (c_mo_high, 16, .inl mo_high))]) [0, 3, 4] rfl
    have hKc := hK.sub (tys' := [(c_mo_wide, .int), (c_mo_high, .int)]) [2, 3] rfl
    refine vp_callSi (va_Run.run (va_runV (As := [.int (mo_symbolOf (p0).toNatClampNeg), .int p1, .int p2]) (rest := [.ref h_mo]) ⟨hx, hb, hml, hown, hB⟩ (c_Mo_isSample l dC dI h_mo h_mo_wide h_mo_high c_mo_wide c_mo_high (.int mo_thrown) u_mo_width u_mo_height u_mo_kind u_mo_symbols u_mo_dark (.int mo_instances) (.ref h_mo_symbolOf) u_mo_xs u_mo_ys (.ref h_mo_differs) u_mo_ways u_mo_ordered u_mo_page u_mo_told u_mo_keeps u_mo_toldBytes u_mo_out u_mo_counts u_mo_lengths u_mo_codes u_mo_weight u_mo_over u_mo_used u_mo_row u_mo_came u_mo_in u_mo_at u_mo_refused u_mo_place u_mo_readMany u_mo_readSymbol u_mo_readX u_mo_readY u_mo_readDiffers u_mo_readWays mo_wide mo_high (mo_symbolOf (p0).toNatClampNeg) p1 p2 o9 hc9) (cwV 3 hB (goodA (m4 bw_1003 bw_1005 bs_55 bw_13) (goodB bw_1006)) rfl rfl rfl (by decide +kernel) ⟨Nat.le_of_ble_eq_true rfl, Nat.le_of_ble_eq_true rfl⟩) ⟨fb_p, va_recv hK hP (ci := 1) (q0 := 0) rfl rfl, (pre_p hPc hKc hnw [.ref h_mo, .int (mo_symbolOf (p0).toNatClampNeg), .int p1, .int p2])⟩ rfl rfl hl.1 rfl (lv_room (Nat.le_of_ble_eq_true rfl)) d_Mo_refine_18 ⟨Nat.zero_le _, Nat.zero_le _⟩)) (fun r_7 e_r_7 => ?_)
    subst e_r_7
    clear hPc hKc hc9
    refine lv_if_ne (tgt := 28) hx hb d_Mo_refine_21 (by decide) (fun c_6 => ?_) (fun c_6 => ?_)
    · have h := if_f h c_6
      refine lv_iconst (v := 0) hx hb d_Mo_refine_28 (by decide) ?_
      exact w_j29 _ _ _ _ h hP hD hS hl
    · have h := if_t h c_6
      exact w_j24 _ _ _ h hP hD hS hl
set_option maxHeartbeats 4000000 in
set_option maxRecDepth 100000 in
theorem c_Mo_way (l : Launch) (dC : Nat → ClassId) (dI : Nat → Nat → Nat) (h_mo : Nat) (h_mo_ways : Nat) (c_mo_ways : ClassId) (u_mo_width : Value) (u_mo_height : Value) (u_mo_kind : Value) (u_mo_symbols : Value) (u_mo_wide : Value) (u_mo_high : Value) (u_mo_dark : Value) (u_mo_instances : Value) (u_mo_symbolOf : Value) (u_mo_xs : Value) (u_mo_ys : Value) (u_mo_differs : Value) (u_mo_ordered : Value) (u_mo_page : Value) (u_mo_told : Value) (u_mo_keeps : Value) (u_mo_toldBytes : Value) (u_mo_out : Value) (u_mo_counts : Value) (u_mo_lengths : Value) (u_mo_codes : Value) (u_mo_weight : Value) (u_mo_over : Value) (u_mo_used : Value) (u_mo_row : Value) (u_mo_came : Value) (u_mo_in : Value) (u_mo_at : Value) (u_mo_refused : Value) (u_mo_place : Value) (u_mo_readMany : Value) (u_mo_readSymbol : Value) (u_mo_readX : Value) (u_mo_readY : Value) (u_mo_readDiffers : Value) (u_mo_readWays : Value) (mo_thrown : Int32) (mo_ways : (Nat → Int32)) (p0 : Int32) (p1 : Int32) (sz : Nat) (o : Int32 × Int32 × (Nat → Int32)) (hf : f_Mo_way mo_ways p0 p1 = some o) :
    Met l y_Mo_way ws_Mo_way { frames := 1, cells := 0, slots := 0, locals := 22 } (va_Pc [.ref h_mo, .int p0, .int p1] (PcM (dC, dI) [(h_mo, .inr (1, [.int mo_thrown, u_mo_width, u_mo_height, u_mo_kind, u_mo_symbols, u_mo_wide, u_mo_high, u_mo_dark, u_mo_instances, u_mo_symbolOf, u_mo_xs, u_mo_ys, u_mo_differs, .ref h_mo_ways, u_mo_ordered, u_mo_page, u_mo_told, u_mo_keeps, u_mo_toldBytes, u_mo_out, u_mo_counts, u_mo_lengths, u_mo_codes, u_mo_weight, u_mo_over, u_mo_used, u_mo_row, u_mo_came, u_mo_in, u_mo_at, u_mo_refused, u_mo_place, u_mo_readMany, u_mo_readSymbol, u_mo_readX, u_mo_readY, u_mo_readDiffers, u_mo_readWays])), (h_mo_ways, .inl (c_mo_ways, 4, .inl mo_ways))] [(c_mo_ways, .int)] sz))
      (va_Qi (fun (r : Int32) (u : Int32 × (Nat → Int32)) => (r, u) = o) (fun u t => va_P (dC, dI) CL [(h_mo, .inr (1, [.int (u.1), u_mo_width, u_mo_height, u_mo_kind, u_mo_symbols, u_mo_wide, u_mo_high, u_mo_dark, u_mo_instances, u_mo_symbolOf, u_mo_xs, u_mo_ys, u_mo_differs, .ref h_mo_ways, u_mo_ordered, u_mo_page, u_mo_told, u_mo_keeps, u_mo_toldBytes, u_mo_out, u_mo_counts, u_mo_lengths, u_mo_codes, u_mo_weight, u_mo_over, u_mo_used, u_mo_row, u_mo_came, u_mo_in, u_mo_at, u_mo_refused, u_mo_place, u_mo_readMany, u_mo_readSymbol, u_mo_readX, u_mo_readY, u_mo_readDiffers, u_mo_readWays])), (h_mo_ways, .inl (c_mo_ways, 4, .inl (u.2)))] t.heap ∧ va_K (dC, dI) CL [(c_mo_ways, .int)] t ∧ va_D (va_A [(h_mo, .inr (1, [.int mo_thrown, u_mo_width, u_mo_height, u_mo_kind, u_mo_symbols, u_mo_wide, u_mo_high, u_mo_dark, u_mo_instances, u_mo_symbolOf, u_mo_xs, u_mo_ys, u_mo_differs, .ref h_mo_ways, u_mo_ordered, u_mo_page, u_mo_told, u_mo_keeps, u_mo_toldBytes, u_mo_out, u_mo_counts, u_mo_lengths, u_mo_codes, u_mo_weight, u_mo_over, u_mo_used, u_mo_row, u_mo_came, u_mo_in, u_mo_at, u_mo_refused, u_mo_place, u_mo_readMany, u_mo_readSymbol, u_mo_readX, u_mo_readY, u_mo_readDiffers, u_mo_readWays])), (h_mo_ways, .inl (c_mo_ways, 4, .inl mo_ways))] sz) [(h_mo, .inr (1, [.int (u.1), u_mo_width, u_mo_height, u_mo_kind, u_mo_symbols, u_mo_wide, u_mo_high, u_mo_dark, u_mo_instances, u_mo_symbolOf, u_mo_xs, u_mo_ys, u_mo_differs, .ref h_mo_ways, u_mo_ordered, u_mo_page, u_mo_told, u_mo_keeps, u_mo_toldBytes, u_mo_out, u_mo_counts, u_mo_lengths, u_mo_codes, u_mo_weight, u_mo_over, u_mo_used, u_mo_row, u_mo_came, u_mo_in, u_mo_at, u_mo_refused, u_mo_place, u_mo_readMany, u_mo_readSymbol, u_mo_readX, u_mo_readY, u_mo_readDiffers, u_mo_readWays])), (h_mo_ways, .inl (c_mo_ways, 4, .inl (u.2)))]) (va_A [(h_mo, .inr (1, [.int mo_thrown, u_mo_width, u_mo_height, u_mo_kind, u_mo_symbols, u_mo_wide, u_mo_high, u_mo_dark, u_mo_instances, u_mo_symbolOf, u_mo_xs, u_mo_ys, u_mo_differs, .ref h_mo_ways, u_mo_ordered, u_mo_page, u_mo_told, u_mo_keeps, u_mo_toldBytes, u_mo_out, u_mo_counts, u_mo_lengths, u_mo_codes, u_mo_weight, u_mo_over, u_mo_used, u_mo_row, u_mo_came, u_mo_in, u_mo_at, u_mo_refused, u_mo_place, u_mo_readMany, u_mo_readSymbol, u_mo_readX, u_mo_readY, u_mo_readDiffers, u_mo_readWays])), (h_mo_ways, .inl (c_mo_ways, 4, .inl mo_ways))] sz)) 0 0 (va_A [(h_mo, .inr (1, [.int mo_thrown, u_mo_width, u_mo_height, u_mo_kind, u_mo_symbols, u_mo_wide, u_mo_high, u_mo_dark, u_mo_instances, u_mo_symbolOf, u_mo_xs, u_mo_ys, u_mo_differs, .ref h_mo_ways, u_mo_ordered, u_mo_page, u_mo_told, u_mo_keeps, u_mo_toldBytes, u_mo_out, u_mo_counts, u_mo_lengths, u_mo_codes, u_mo_weight, u_mo_over, u_mo_used, u_mo_row, u_mo_came, u_mo_in, u_mo_at, u_mo_refused, u_mo_place, u_mo_readMany, u_mo_readSymbol, u_mo_readX, u_mo_readY, u_mo_readDiffers, u_mo_readWays])), (h_mo_ways, .inl (c_mo_ways, 4, .inl mo_ways))] sz) := by
  refine Met.ofW (cc := b_Mo_way) (maxL := 5) (ret := (some .int)) (by decide) rfl ?_
  intro p e s m args below meth c s₁ B hml hv
  obtain ⟨rfl, hsz, hP, hK, hD0, hnw⟩ := hv
  have hx := B.exec
  have hb := B.bytes
  have hr := B.returns
  have hts := atoms_spec (ws := ws_Mo_way) B.pre
  have hB : ∀ w ∈ BIG, w.before _ s = true := fun w h => hts w (List.mem_cons_of_mem _ h)
  have hown : s.vm.findClass R_Mo = some m.cls := findClass_of_methodNamed B.named
  have hlocks := B.notSynchronized
  subst hsz
  have hD := hD0.self (sz := s.heap.size)
  refine W_Q (fun Q9 eQ => ?_)
  generalize hAe : va_A [(h_mo, .inr (1, [.int mo_thrown, u_mo_width, u_mo_height, u_mo_kind, u_mo_symbols, u_mo_wide, u_mo_high, u_mo_dark, u_mo_instances, u_mo_symbolOf, u_mo_xs, u_mo_ys, u_mo_differs, .ref h_mo_ways, u_mo_ordered, u_mo_page, u_mo_told, u_mo_keeps, u_mo_toldBytes, u_mo_out, u_mo_counts, u_mo_lengths, u_mo_codes, u_mo_weight, u_mo_over, u_mo_used, u_mo_row, u_mo_came, u_mo_in, u_mo_at, u_mo_refused, u_mo_place, u_mo_readMany, u_mo_readSymbol, u_mo_readX, u_mo_readY, u_mo_readDiffers, u_mo_readWays])), (h_mo_ways, .inl (c_mo_ways, 4, .inl mo_ways))] s.heap.size = A at hD eQ
  have hA : ∀ q : Nat, s.heap.size ≤ q → A q := fun q h => by rw [← hAe]; exact Or.inr h
  have hS : va_S A s.heap s.heap [] := va_S.rf
  have hl := lv_entry ([.ref h_mo, .int p0, .int p1]) (n := 5) (Nat.le_of_ble_eq_true rfl)
  rw [lg_entry_eq]
  generalize (lg_sl ([.ref h_mo, .int p0, .int p1]) ++ List.replicate (5 - (lg_sl ([.ref h_mo, .int p0, .int p1])).length) Slot.unset).toArray = ls at hl ⊢
  have hl : lv_has ls 5 [(0, .ref h_mo), (1, .int p0), (2, .int p1)] := hl
  have h := hf
  unfold f_Mo_way at h
  refine lv_iload_n hx hb d_Mo_way_0 rfl (lv_at hl 1 rfl) ?_
  refine lv_iconst (v := 1) hx hb d_Mo_way_1 (by decide) ?_
  obtain ⟨j19, e_j19, h⟩ := jn_e h
  have w_j19 : ∀ (s_1 : Int32) (H : Heap) (locs : List Loc) (ls : Array Slot), j19 s_1 = some o → va_P (dC, dI) CL [(h_mo, .inr (1, [.int mo_thrown, u_mo_width, u_mo_height, u_mo_kind, u_mo_symbols, u_mo_wide, u_mo_high, u_mo_dark, u_mo_instances, u_mo_symbolOf, u_mo_xs, u_mo_ys, u_mo_differs, .ref h_mo_ways, u_mo_ordered, u_mo_page, u_mo_told, u_mo_keeps, u_mo_toldBytes, u_mo_out, u_mo_counts, u_mo_lengths, u_mo_codes, u_mo_weight, u_mo_over, u_mo_used, u_mo_row, u_mo_came, u_mo_in, u_mo_at, u_mo_refused, u_mo_place, u_mo_readMany, u_mo_readSymbol, u_mo_readX, u_mo_readY, u_mo_readDiffers, u_mo_readWays])), (h_mo_ways, .inl (c_mo_ways, 4, .inl mo_ways))] H → va_D A [(h_mo, .inr (1, [.int mo_thrown, u_mo_width, u_mo_height, u_mo_kind, u_mo_symbols, u_mo_wide, u_mo_high, u_mo_dark, u_mo_instances, u_mo_symbolOf, u_mo_xs, u_mo_ys, u_mo_differs, .ref h_mo_ways, u_mo_ordered, u_mo_page, u_mo_told, u_mo_keeps, u_mo_toldBytes, u_mo_out, u_mo_counts, u_mo_lengths, u_mo_codes, u_mo_weight, u_mo_over, u_mo_used, u_mo_row, u_mo_came, u_mo_in, u_mo_at, u_mo_refused, u_mo_place, u_mo_readMany, u_mo_readSymbol, u_mo_readX, u_mo_readY, u_mo_readDiffers, u_mo_readWays])), (h_mo_ways, .inl (c_mo_ways, 4, .inl mo_ways))] → va_S A s.heap H locs → lv_has ls 5 [(0, .ref h_mo), (1, .int p0), (2, .int p1)] → W p l e ({ frames := 1, cells := 0, slots := 0, locals := 22 } : Room) s m ([.ref h_mo, .int p0, .int p1] : List Value).toArray below meth c H locs 0 0 Q9 (F0 m 19 ls [.int s_1]) := by
    intro s_1 H locs ls h hP hD hS hl
    rw [e_j19] at h
    refine lv_istore_n (lv' := [(3, .int s_1), (0, .ref h_mo), (1, .int p0), (2, .int p1)]) hx hb d_Mo_way_19 rfl hl (by decide) rfl (fun ls hl => ?_)
    refine lv_aload_n hx hb d_Mo_way_20 rfl (lv_at hl 1 rfl) ?_
    refine lv_iload_n hx hb d_Mo_way_21 rfl (lv_at hl 2 rfl) ?_
    refine lv_iconst (v := 0) hx hb d_Mo_way_22 (by decide) ?_
    refine lv_iconst (v := 3) hx hb d_Mo_way_23 (by decide) ?_
    obtain ⟨o9, hc9, h⟩ := bd_e h
    have hPc := hP.sub (ws' := []) [] rfl
    have hKc := hK.sub (tys' := []) [] rfl
    refine vp_callSi (va_Run.run (va_runS (As := [.int p0, .int (0 : Int32), .int (3 : Int32)]) (rest := [.ref h_mo]) ⟨hx, hb, hml, hown, hB⟩ (c_Mo_isIn l dC dI p0 (0 : Int32) (3 : Int32) o9 hc9) (va_cwS 3 hB (goodA (m3 bw_996 bw_997 bw_13) (goodB bw_998)) rfl rfl rfl (by decide +kernel) ⟨Nat.le_of_ble_eq_true rfl, Nat.le_of_ble_eq_true rfl⟩) ⟨fb_p, (pre_p hPc hKc hnw [.int p0, .int (0 : Int32), .int (3 : Int32)])⟩ rfl rfl hl.1 rfl (lv_room (Nat.le_of_ble_eq_true rfl)) d_Mo_way_24 ⟨Nat.zero_le _, Nat.zero_le _⟩)) (fun r_2 e_r_2 => ?_)
    subst e_r_2
    clear hPc hKc hc9
    obtain ⟨j44, e_j44, h⟩ := jn_e h
    have w_j44 : ∀ (s_3 : Int32) (H : Heap) (locs : List Loc) (ls : Array Slot), j44 s_3 = some o → va_P (dC, dI) CL [(h_mo, .inr (1, [.int mo_thrown, u_mo_width, u_mo_height, u_mo_kind, u_mo_symbols, u_mo_wide, u_mo_high, u_mo_dark, u_mo_instances, u_mo_symbolOf, u_mo_xs, u_mo_ys, u_mo_differs, .ref h_mo_ways, u_mo_ordered, u_mo_page, u_mo_told, u_mo_keeps, u_mo_toldBytes, u_mo_out, u_mo_counts, u_mo_lengths, u_mo_codes, u_mo_weight, u_mo_over, u_mo_used, u_mo_row, u_mo_came, u_mo_in, u_mo_at, u_mo_refused, u_mo_place, u_mo_readMany, u_mo_readSymbol, u_mo_readX, u_mo_readY, u_mo_readDiffers, u_mo_readWays])), (h_mo_ways, .inl (c_mo_ways, 4, .inl mo_ways))] H → va_D A [(h_mo, .inr (1, [.int mo_thrown, u_mo_width, u_mo_height, u_mo_kind, u_mo_symbols, u_mo_wide, u_mo_high, u_mo_dark, u_mo_instances, u_mo_symbolOf, u_mo_xs, u_mo_ys, u_mo_differs, .ref h_mo_ways, u_mo_ordered, u_mo_page, u_mo_told, u_mo_keeps, u_mo_toldBytes, u_mo_out, u_mo_counts, u_mo_lengths, u_mo_codes, u_mo_weight, u_mo_over, u_mo_used, u_mo_row, u_mo_came, u_mo_in, u_mo_at, u_mo_refused, u_mo_place, u_mo_readMany, u_mo_readSymbol, u_mo_readX, u_mo_readY, u_mo_readDiffers, u_mo_readWays])), (h_mo_ways, .inl (c_mo_ways, 4, .inl mo_ways))] → va_S A s.heap H locs → lv_has ls 5 [(0, .ref h_mo), (1, .int p0), (2, .int p1)] → W p l e ({ frames := 1, cells := 0, slots := 0, locals := 22 } : Room) s m ([.ref h_mo, .int p0, .int p1] : List Value).toArray below meth c H locs 0 0 Q9 (F0 m 44 ls [.int s_3, .ref h_mo]) := by
      intro s_3 H locs ls h hP hD hS hl
      rw [e_j44] at h
      refine va_put (D := (dC, dI)) (ci := 1) (v := .int s_3) (ty := .int) (C := R_Mo) (T := T_Mo) (N := 38) hx hb hB iw_Mo ty_Mo tk_Mo n_Mo hown hK hP hD hS 0 rfl rfl 0 (by decide) (hB _ bw_873) (fun _ h9 => h9) rfl (by decide +kernel) rfl rfl (Nat.le_of_ble_eq_true rfl) d_Mo_way_44 (fun H locs hP hD hS => ?_)
      have hP : va_P (dC, dI) CL [(h_mo, .inr (1, [.int s_3, u_mo_width, u_mo_height, u_mo_kind, u_mo_symbols, u_mo_wide, u_mo_high, u_mo_dark, u_mo_instances, u_mo_symbolOf, u_mo_xs, u_mo_ys, u_mo_differs, .ref h_mo_ways, u_mo_ordered, u_mo_page, u_mo_told, u_mo_keeps, u_mo_toldBytes, u_mo_out, u_mo_counts, u_mo_lengths, u_mo_codes, u_mo_weight, u_mo_over, u_mo_used, u_mo_row, u_mo_came, u_mo_in, u_mo_at, u_mo_refused, u_mo_place, u_mo_readMany, u_mo_readSymbol, u_mo_readX, u_mo_readY, u_mo_readDiffers, u_mo_readWays])), (h_mo_ways, .inl (c_mo_ways, 4, .inl mo_ways))] H := hP
      have hD : va_D A [(h_mo, .inr (1, [.int s_3, u_mo_width, u_mo_height, u_mo_kind, u_mo_symbols, u_mo_wide, u_mo_high, u_mo_dark, u_mo_instances, u_mo_symbolOf, u_mo_xs, u_mo_ys, u_mo_differs, .ref h_mo_ways, u_mo_ordered, u_mo_page, u_mo_told, u_mo_keeps, u_mo_toldBytes, u_mo_out, u_mo_counts, u_mo_lengths, u_mo_codes, u_mo_weight, u_mo_over, u_mo_used, u_mo_row, u_mo_came, u_mo_in, u_mo_at, u_mo_refused, u_mo_place, u_mo_readMany, u_mo_readSymbol, u_mo_readX, u_mo_readY, u_mo_readDiffers, u_mo_readWays])), (h_mo_ways, .inl (c_mo_ways, 4, .inl mo_ways))] := hD
      refine lv_aload_n hx hb d_Mo_way_47 rfl (lv_at hl 0 rfl) ?_
      refine va_get (D := (dC, dI)) (ci := 1) (v := .int s_3) (C := R_Mo) (T := T_Mo) (N := 38) hx hb hB iw_Mo hown hK hP 0 rfl rfl 0 (by decide) (hB _ bw_873) (fun _ h9 => h9) rfl d_Mo_way_48 ?_
      refine lv_if_le (tgt := 56) hx hb d_Mo_way_51 (by decide) (fun c_1 => ?_) (fun c_1 => ?_)
      · have h := if_t h c_1
        refine lv_aload_n hx hb d_Mo_way_56 rfl (lv_at hl 0 rfl) ?_
        refine va_get (D := (dC, dI)) (ci := 1) (v := .ref h_mo_ways) (C := R_Mo) (T := T_Mo) (N := 38) hx hb hB iw_Mo hown hK hP 0 rfl rfl 13 (by decide) (hB _ bw_886) (fun _ h9 => h9) rfl d_Mo_way_57 ?_
        refine lv_iload_n hx hb d_Mo_way_60 rfl (lv_at hl 1 rfl) ?_
        obtain ⟨hin, h⟩ := gq_e h
        refine va_iald hx hb hK hP 1 0 rfl rfl hin d_Mo_way_61 ?_
        refine lv_topi (fun v4_4 e_v4_4 => ?_)
        have h := nl_u e_v4_4 h
        refine lv_istore (lv' := [(4, .int v4_4), (0, .ref h_mo), (1, .int p0), (2, .int p1)]) hx hb d_Mo_way_62 hl (by decide) rfl (fun ls hl => ?_)
        refine lv_aload_n hx hb d_Mo_way_64 rfl (lv_at hl 1 rfl) ?_
        refine va_get (D := (dC, dI)) (ci := 1) (v := .ref h_mo_ways) (C := R_Mo) (T := T_Mo) (N := 38) hx hb hB iw_Mo hown hK hP 0 rfl rfl 13 (by decide) (hB _ bw_886) (fun _ h9 => h9) rfl d_Mo_way_65 ?_
        refine lv_iload_n hx hb d_Mo_way_68 rfl (lv_at hl 2 rfl) ?_
        refine lv_iload_n hx hb d_Mo_way_69 rfl (lv_at hl 3 rfl) ?_
        obtain ⟨hin, h⟩ := gq_e h
        refine va_iast hx hb hK hP hD hS 1 0 rfl rfl hin d_Mo_way_70 (fun H locs hP hD hS => ?_)
        have hP : va_P (dC, dI) CL [(h_mo, .inr (1, [.int s_3, u_mo_width, u_mo_height, u_mo_kind, u_mo_symbols, u_mo_wide, u_mo_high, u_mo_dark, u_mo_instances, u_mo_symbolOf, u_mo_xs, u_mo_ys, u_mo_differs, .ref h_mo_ways, u_mo_ordered, u_mo_page, u_mo_told, u_mo_keeps, u_mo_toldBytes, u_mo_out, u_mo_counts, u_mo_lengths, u_mo_codes, u_mo_weight, u_mo_over, u_mo_used, u_mo_row, u_mo_came, u_mo_in, u_mo_at, u_mo_refused, u_mo_place, u_mo_readMany, u_mo_readSymbol, u_mo_readX, u_mo_readY, u_mo_readDiffers, u_mo_readWays])), (h_mo_ways, .inl (c_mo_ways, 4, .inl (upd mo_ways (p0).toNatClampNeg p1)))] H := hP
        have hD : va_D A [(h_mo, .inr (1, [.int s_3, u_mo_width, u_mo_height, u_mo_kind, u_mo_symbols, u_mo_wide, u_mo_high, u_mo_dark, u_mo_instances, u_mo_symbolOf, u_mo_xs, u_mo_ys, u_mo_differs, .ref h_mo_ways, u_mo_ordered, u_mo_page, u_mo_told, u_mo_keeps, u_mo_toldBytes, u_mo_out, u_mo_counts, u_mo_lengths, u_mo_codes, u_mo_weight, u_mo_over, u_mo_used, u_mo_row, u_mo_came, u_mo_in, u_mo_at, u_mo_refused, u_mo_place, u_mo_readMany, u_mo_readSymbol, u_mo_readX, u_mo_readY, u_mo_readDiffers, u_mo_readWays])), (h_mo_ways, .inl (c_mo_ways, 4, .inl (upd mo_ways (p0).toNatClampNeg p1)))] := hD
        refine lv_iload hx hb d_Mo_way_71 (lv_at hl 0 rfl) ?_
        subst eQ
        exact W.iret (v := v4_4) hx hb hr (fun t ht hW => ⟨⟨_, (s_3, (upd mo_ways (p0).toNatClampNeg p1)), rfl, Option.some.inj h, by rw [ht]; exact hP, va_K.moved hW.alike hK, hD⟩, hS.F ht⟩) hS.2.2 d_Mo_way_73
      · have h := if_f h c_1
        refine lv_iconst (v := 0) hx hb d_Mo_way_54 (by decide) ?_
        subst eQ
        exact W.iret (v := (0 : Int32)) hx hb hr (fun t ht hW => ⟨⟨_, (s_3, mo_ways), rfl, Option.some.inj h, by rw [ht]; exact hP, va_K.moved hW.alike hK, hD⟩, hS.F ht⟩) hS.2.2 d_Mo_way_55
    obtain ⟨j43, e_j43, h⟩ := jn_e h
    have w_j43 : ∀ (H : Heap) (locs : List Loc) (ls : Array Slot), j43 () = some o → va_P (dC, dI) CL [(h_mo, .inr (1, [.int mo_thrown, u_mo_width, u_mo_height, u_mo_kind, u_mo_symbols, u_mo_wide, u_mo_high, u_mo_dark, u_mo_instances, u_mo_symbolOf, u_mo_xs, u_mo_ys, u_mo_differs, .ref h_mo_ways, u_mo_ordered, u_mo_page, u_mo_told, u_mo_keeps, u_mo_toldBytes, u_mo_out, u_mo_counts, u_mo_lengths, u_mo_codes, u_mo_weight, u_mo_over, u_mo_used, u_mo_row, u_mo_came, u_mo_in, u_mo_at, u_mo_refused, u_mo_place, u_mo_readMany, u_mo_readSymbol, u_mo_readX, u_mo_readY, u_mo_readDiffers, u_mo_readWays])), (h_mo_ways, .inl (c_mo_ways, 4, .inl mo_ways))] H → va_D A [(h_mo, .inr (1, [.int mo_thrown, u_mo_width, u_mo_height, u_mo_kind, u_mo_symbols, u_mo_wide, u_mo_high, u_mo_dark, u_mo_instances, u_mo_symbolOf, u_mo_xs, u_mo_ys, u_mo_differs, .ref h_mo_ways, u_mo_ordered, u_mo_page, u_mo_told, u_mo_keeps, u_mo_toldBytes, u_mo_out, u_mo_counts, u_mo_lengths, u_mo_codes, u_mo_weight, u_mo_over, u_mo_used, u_mo_row, u_mo_came, u_mo_in, u_mo_at, u_mo_refused, u_mo_place, u_mo_readMany, u_mo_readSymbol, u_mo_readX, u_mo_readY, u_mo_readDiffers, u_mo_readWays])), (h_mo_ways, .inl (c_mo_ways, 4, .inl mo_ways))] → va_S A s.heap H locs → lv_has ls 5 [(0, .ref h_mo), (1, .int p0), (2, .int p1)] → W p l e ({ frames := 1, cells := 0, slots := 0, locals := 22 } : Room) s m ([.ref h_mo, .int p0, .int p1] : List Value).toArray below meth c H locs 0 0 Q9 (F0 m 43 ls [.ref h_mo]) := by
      intro H locs ls h hP hD hS hl
      rw [e_j43] at h
      refine lv_iconst (v := 1) hx hb d_Mo_way_43 (by decide) ?_
      exact w_j44 _ _ _ _ h hP hD hS hl
    refine lv_if_eq (tgt := 43) hx hb d_Mo_way_27 (by decide) (fun c_2 => ?_) (fun c_2 => ?_)
    · have h := if_t h c_2
      exact w_j43 _ _ _ h hP hD hS (lv_sub hl [1, 2, 3] rfl)
    · have h := if_f h c_2
      refine lv_iload_n hx hb d_Mo_way_30 rfl (lv_at hl 3 rfl) ?_
      refine lv_iconst (v := 0) hx hb d_Mo_way_31 (by decide) ?_
      refine lv_iload_n hx hb d_Mo_way_32 rfl (lv_at hl 0 rfl) ?_
      obtain ⟨o9, hc9, h⟩ := bd_e h
      have hPc := hP.sub (ws' := []) [] rfl
      have hKc := hK.sub (tys' := []) [] rfl
      refine vp_callSi (va_Run.run (va_runS (As := [.int p1, .int (0 : Int32), .int s_1]) (rest := [.ref h_mo]) ⟨hx, hb, hml, hown, hB⟩ (c_Mo_isIn l dC dI p1 (0 : Int32) s_1 o9 hc9) (va_cwS 3 hB (goodA (m3 bw_996 bw_997 bw_13) (goodB bw_998)) rfl rfl rfl (by decide +kernel) ⟨Nat.le_of_ble_eq_true rfl, Nat.le_of_ble_eq_true rfl⟩) ⟨fb_p, (pre_p hPc hKc hnw [.int p1, .int (0 : Int32), .int s_1])⟩ rfl rfl hl.1 rfl (lv_room (Nat.le_of_ble_eq_true rfl)) d_Mo_way_33 ⟨Nat.zero_le _, Nat.zero_le _⟩)) (fun r_5 e_r_5 => ?_)
      subst e_r_5
      clear hPc hKc hc9
      refine lv_if_eq (tgt := 43) hx hb d_Mo_way_36 (by decide) (fun c_3 => ?_) (fun c_3 => ?_)
      · have h := if_t h c_3
        exact w_j43 _ _ _ h hP hD hS (lv_sub hl [1, 2, 3] rfl)
      · have h := if_f h c_3
        refine lv_iconst (v := 0) hx hb d_Mo_way_39 (by decide) ?_
        refine lv_goto (tgt := 44) hx hb d_Mo_way_40 (by decide) ?_
        exact w_j44 _ _ _ _ h hP hD hS (lv_sub hl [1, 2, 3] rfl)
  refine lv_icmp_ne (tgt := 9) hx hb d_Mo_way_2 (by decide) (fun c_4 => ?_) (fun c_4 => ?_)
  · have h := if_f h c_4
    refine lv_iload_n hx hb d_Mo_way_9 rfl (lv_at hl 1 rfl) ?_
    refine lv_iconst (v := 3) hx hb d_Mo_way_10 (by decide) ?_
    refine lv_icmp_ne (tgt := 18) hx hb d_Mo_way_11 (by decide) (fun c_5 => ?_) (fun c_5 => ?_)
    · have h := if_f h c_5
      refine lv_iconst (v := 3) hx hb d_Mo_way_18 (by decide) ?_
      exact w_j19 _ _ _ _ h hP hD hS hl
    · have h := if_t h c_5
      refine lv_iconst (v := 4) hx hb d_Mo_way_14 (by decide) ?_
      refine lv_goto (tgt := 19) hx hb d_Mo_way_15 (by decide) ?_
      exact w_j19 _ _ _ _ h hP hD hS hl
  · have h := if_t h c_4
    refine lv_iconst (v := 1) hx hb d_Mo_way_5 (by decide) ?_
    refine lv_goto (tgt := 19) hx hb d_Mo_way_6 (by decide) ?_
    exact w_j19 _ _ _ _ h hP hD hS hl
set_option maxHeartbeats 4000000 in
set_option maxRecDepth 100000 in
theorem c_Mo_columnOf (l : Launch) (dC : Nat → ClassId) (dI : Nat → Nat → Nat) (h_mo : Nat) (h_mo_xs : Nat) (h_mo_ways : Nat) (h_mo_wide : Nat) (h_mo_symbolOf : Nat) (c_mo_xs : ClassId) (c_mo_ways : ClassId) (c_mo_wide : ClassId) (c_mo_symbolOf : ClassId) (u_mo_thrown : Value) (u_mo_width : Value) (u_mo_height : Value) (u_mo_kind : Value) (u_mo_symbols : Value) (u_mo_high : Value) (u_mo_dark : Value) (u_mo_instances : Value) (u_mo_ys : Value) (u_mo_differs : Value) (u_mo_ordered : Value) (u_mo_page : Value) (u_mo_told : Value) (u_mo_keeps : Value) (u_mo_toldBytes : Value) (u_mo_out : Value) (u_mo_counts : Value) (u_mo_lengths : Value) (u_mo_codes : Value) (u_mo_weight : Value) (u_mo_over : Value) (u_mo_used : Value) (u_mo_row : Value) (u_mo_came : Value) (u_mo_in : Value) (u_mo_at : Value) (u_mo_refused : Value) (u_mo_place : Value) (u_mo_readMany : Value) (u_mo_readSymbol : Value) (u_mo_readX : Value) (u_mo_readY : Value) (u_mo_readDiffers : Value) (u_mo_readWays : Value) (mo_xs : (Nat → Int32)) (mo_ways : (Nat → Int32)) (mo_wide : (Nat → Int32)) (mo_symbolOf : (Nat → Int32)) (p0 : Int32) (o : Int32) (hf : f_Mo_columnOf mo_xs mo_ways mo_wide mo_symbolOf p0 = some o) :
    Met l y_Mo_columnOf ws_Mo_columnOf { frames := 0, cells := 0, slots := 0, locals := 0 } (va_Pc [.ref h_mo, .int p0] (PcP (dC, dI) [(h_mo, .inr (1, [u_mo_thrown, u_mo_width, u_mo_height, u_mo_kind, u_mo_symbols, .ref h_mo_wide, u_mo_high, u_mo_dark, u_mo_instances, .ref h_mo_symbolOf, .ref h_mo_xs, u_mo_ys, u_mo_differs, .ref h_mo_ways, u_mo_ordered, u_mo_page, u_mo_told, u_mo_keeps, u_mo_toldBytes, u_mo_out, u_mo_counts, u_mo_lengths, u_mo_codes, u_mo_weight, u_mo_over, u_mo_used, u_mo_row, u_mo_came, u_mo_in, u_mo_at, u_mo_refused, u_mo_place, u_mo_readMany, u_mo_readSymbol, u_mo_readX, u_mo_readY, u_mo_readDiffers, u_mo_readWays])), (h_mo_xs, .inl (c_mo_xs, 40, .inl mo_xs)), (h_mo_ways, .inl (c_mo_ways, 4, .inl mo_ways)), (h_mo_wide, .inl (c_mo_wide, 16, .inl mo_wide)), (h_mo_symbolOf, .inl (c_mo_symbolOf, 40, .inl mo_symbolOf))] [(c_mo_xs, .int), (c_mo_ways, .int), (c_mo_wide, .int), (c_mo_symbolOf, .int)]))
      (vp_Si (fun r => r = o)) 0 0 (fun _ => False) := by
  refine Met.ofW (cc := b_Mo_columnOf) (maxL := 2) (ret := (some .int)) (by decide) rfl ?_
  intro p e s m args below meth c s₁ B hml hv
  obtain ⟨rfl, hP, hK, hnw⟩ := hv
  have hx := B.exec
  have hb := B.bytes
  have hr := B.returns
  have hts := atoms_spec (ws := ws_Mo_columnOf) B.pre
  have hB : ∀ w ∈ BIG, w.before _ s = true := fun w h => hts w (List.mem_cons_of_mem _ h)
  have hown : s.vm.findClass R_Mo = some m.cls := findClass_of_methodNamed B.named
  have hlocks := B.notSynchronized
  refine W_Q (fun Q9 eQ => ?_)
  have hl := lv_entry ([.ref h_mo, .int p0]) (n := 2) (Nat.le_of_ble_eq_true rfl)
  rw [lg_entry_eq]
  generalize (lg_sl ([.ref h_mo, .int p0]) ++ List.replicate (2 - (lg_sl ([.ref h_mo, .int p0])).length) Slot.unset).toArray = ls at hl ⊢
  have hl : lv_has ls 2 [(0, .ref h_mo), (1, .int p0)] := hl
  have h := hf
  unfold f_Mo_columnOf at h
  refine lv_aload_n hx hb d_Mo_columnOf_0 rfl (lv_at hl 0 rfl) ?_
  refine va_get (D := (dC, dI)) (ci := 1) (v := .ref h_mo_xs) (C := R_Mo) (T := T_Mo) (N := 38) hx hb hB iw_Mo hown hK hP 0 rfl rfl 10 (by decide) (hB _ bw_883) (fun _ h9 => h9) rfl d_Mo_columnOf_1 ?_
  refine lv_iload_n hx hb d_Mo_columnOf_4 rfl (lv_at hl 1 rfl) ?_
  obtain ⟨hin, h⟩ := gq_e h
  refine va_iald hx hb hK hP 1 0 rfl rfl hin d_Mo_columnOf_5 ?_
  refine lv_aload_n hx hb d_Mo_columnOf_6 rfl (lv_at hl 0 rfl) ?_
  refine va_get (D := (dC, dI)) (ci := 1) (v := .ref h_mo_ways) (C := R_Mo) (T := T_Mo) (N := 38) hx hb hB iw_Mo hown hK hP 0 rfl rfl 13 (by decide) (hB _ bw_886) (fun _ h9 => h9) rfl d_Mo_columnOf_7 ?_
  refine lv_iconst (v := 0) hx hb d_Mo_columnOf_10 (by decide) ?_
  obtain ⟨hin, h⟩ := gq_e h
  refine va_iald hx hb hK hP 2 1 rfl rfl hin d_Mo_columnOf_11 ?_
  refine lv_iconst (v := 2) hx hb d_Mo_columnOf_12 (by decide) ?_
  refine lv_icmp_lt (tgt := 32) hx hb d_Mo_columnOf_13 (by decide) (fun c_1 => ?_) (fun c_1 => ?_)
  · have h := if_t h c_1
    refine lv_iconst (v := 0) hx hb d_Mo_columnOf_32 (by decide) ?_
    refine lv_iadd hx hb d_Mo_columnOf_33 ?_
    subst eQ
    exact W.iret (v := ((mo_xs (p0).toNatClampNeg) + (0 : Int32))) hx hb hr (fun t ht hW => ⟨_, rfl, Option.some.inj h, ht⟩) (fun _ h9 => absurd h9 List.not_mem_nil) d_Mo_columnOf_34
  · have h := if_f h c_1
    refine lv_aload_n hx hb d_Mo_columnOf_16 rfl (lv_at hl 0 rfl) ?_
    refine va_get (D := (dC, dI)) (ci := 1) (v := .ref h_mo_wide) (C := R_Mo) (T := T_Mo) (N := 38) hx hb hB iw_Mo hown hK hP 0 rfl rfl 5 (by decide) (hB _ bw_878) (fun _ h9 => h9) rfl d_Mo_columnOf_17 ?_
    refine lv_aload_n hx hb d_Mo_columnOf_20 rfl (lv_at hl 0 rfl) ?_
    refine va_get (D := (dC, dI)) (ci := 1) (v := .ref h_mo_symbolOf) (C := R_Mo) (T := T_Mo) (N := 38) hx hb hB iw_Mo hown hK hP 0 rfl rfl 9 (by decide) (hB _ bw_882) (fun _ h9 => h9) rfl d_Mo_columnOf_21 ?_
    refine lv_iload_n hx hb d_Mo_columnOf_24 rfl (lv_at hl 1 rfl) ?_
    obtain ⟨hin, h⟩ := gq_e h
    refine va_iald hx hb hK hP 4 3 rfl rfl hin d_Mo_columnOf_25 ?_
    obtain ⟨hin, h⟩ := gq_e h
    refine va_iald hx hb hK hP 3 2 rfl rfl hin d_Mo_columnOf_26 ?_
    refine lv_iconst (v := 1) hx hb d_Mo_columnOf_27 (by decide) ?_
    refine lv_isub hx hb d_Mo_columnOf_28 ?_
    refine lv_goto (tgt := 33) hx hb d_Mo_columnOf_29 (by decide) ?_
    refine lv_iadd hx hb d_Mo_columnOf_33 ?_
    subst eQ
    exact W.iret (v := ((mo_xs (p0).toNatClampNeg) + ((mo_wide ((mo_symbolOf (p0).toNatClampNeg)).toNatClampNeg) - (1 : Int32)))) hx hb hr (fun t ht hW => ⟨_, rfl, Option.some.inj h, ht⟩) (fun _ h9 => absurd h9 List.not_mem_nil) d_Mo_columnOf_34
set_option maxHeartbeats 4000000 in
set_option maxRecDepth 100000 in
theorem c_Mo_rowOf (l : Launch) (dC : Nat → ClassId) (dI : Nat → Nat → Nat) (h_mo : Nat) (h_mo_ys : Nat) (h_mo_ways : Nat) (h_mo_high : Nat) (h_mo_symbolOf : Nat) (c_mo_ys : ClassId) (c_mo_ways : ClassId) (c_mo_high : ClassId) (c_mo_symbolOf : ClassId) (u_mo_thrown : Value) (u_mo_width : Value) (u_mo_height : Value) (u_mo_kind : Value) (u_mo_symbols : Value) (u_mo_wide : Value) (u_mo_dark : Value) (u_mo_instances : Value) (u_mo_xs : Value) (u_mo_differs : Value) (u_mo_ordered : Value) (u_mo_page : Value) (u_mo_told : Value) (u_mo_keeps : Value) (u_mo_toldBytes : Value) (u_mo_out : Value) (u_mo_counts : Value) (u_mo_lengths : Value) (u_mo_codes : Value) (u_mo_weight : Value) (u_mo_over : Value) (u_mo_used : Value) (u_mo_row : Value) (u_mo_came : Value) (u_mo_in : Value) (u_mo_at : Value) (u_mo_refused : Value) (u_mo_place : Value) (u_mo_readMany : Value) (u_mo_readSymbol : Value) (u_mo_readX : Value) (u_mo_readY : Value) (u_mo_readDiffers : Value) (u_mo_readWays : Value) (mo_ys : (Nat → Int32)) (mo_ways : (Nat → Int32)) (mo_high : (Nat → Int32)) (mo_symbolOf : (Nat → Int32)) (p0 : Int32) (o : Int32) (hf : f_Mo_rowOf mo_ys mo_ways mo_high mo_symbolOf p0 = some o) :
    Met l y_Mo_rowOf ws_Mo_rowOf { frames := 0, cells := 0, slots := 0, locals := 0 } (va_Pc [.ref h_mo, .int p0] (PcP (dC, dI) [(h_mo, .inr (1, [u_mo_thrown, u_mo_width, u_mo_height, u_mo_kind, u_mo_symbols, u_mo_wide, .ref h_mo_high, u_mo_dark, u_mo_instances, .ref h_mo_symbolOf, u_mo_xs, .ref h_mo_ys, u_mo_differs, .ref h_mo_ways, u_mo_ordered, u_mo_page, u_mo_told, u_mo_keeps, u_mo_toldBytes, u_mo_out, u_mo_counts, u_mo_lengths, u_mo_codes, u_mo_weight, u_mo_over, u_mo_used, u_mo_row, u_mo_came, u_mo_in, u_mo_at, u_mo_refused, u_mo_place, u_mo_readMany, u_mo_readSymbol, u_mo_readX, u_mo_readY, u_mo_readDiffers, u_mo_readWays])), (h_mo_ys, .inl (c_mo_ys, 40, .inl mo_ys)), (h_mo_ways, .inl (c_mo_ways, 4, .inl mo_ways)), (h_mo_high, .inl (c_mo_high, 16, .inl mo_high)), (h_mo_symbolOf, .inl (c_mo_symbolOf, 40, .inl mo_symbolOf))] [(c_mo_ys, .int), (c_mo_ways, .int), (c_mo_high, .int), (c_mo_symbolOf, .int)]))
      (vp_Si (fun r => r = o)) 0 0 (fun _ => False) := by
  refine Met.ofW (cc := b_Mo_rowOf) (maxL := 2) (ret := (some .int)) (by decide) rfl ?_
  intro p e s m args below meth c s₁ B hml hv
  obtain ⟨rfl, hP, hK, hnw⟩ := hv
  have hx := B.exec
  have hb := B.bytes
  have hr := B.returns
  have hts := atoms_spec (ws := ws_Mo_rowOf) B.pre
  have hB : ∀ w ∈ BIG, w.before _ s = true := fun w h => hts w (List.mem_cons_of_mem _ h)
  have hown : s.vm.findClass R_Mo = some m.cls := findClass_of_methodNamed B.named
  have hlocks := B.notSynchronized
  refine W_Q (fun Q9 eQ => ?_)
  have hl := lv_entry ([.ref h_mo, .int p0]) (n := 2) (Nat.le_of_ble_eq_true rfl)
  rw [lg_entry_eq]
  generalize (lg_sl ([.ref h_mo, .int p0]) ++ List.replicate (2 - (lg_sl ([.ref h_mo, .int p0])).length) Slot.unset).toArray = ls at hl ⊢
  have hl : lv_has ls 2 [(0, .ref h_mo), (1, .int p0)] := hl
  have h := hf
  unfold f_Mo_rowOf at h
  refine lv_aload_n hx hb d_Mo_rowOf_0 rfl (lv_at hl 0 rfl) ?_
  refine va_get (D := (dC, dI)) (ci := 1) (v := .ref h_mo_ys) (C := R_Mo) (T := T_Mo) (N := 38) hx hb hB iw_Mo hown hK hP 0 rfl rfl 11 (by decide) (hB _ bw_884) (fun _ h9 => h9) rfl d_Mo_rowOf_1 ?_
  refine lv_iload_n hx hb d_Mo_rowOf_4 rfl (lv_at hl 1 rfl) ?_
  obtain ⟨hin, h⟩ := gq_e h
  refine va_iald hx hb hK hP 1 0 rfl rfl hin d_Mo_rowOf_5 ?_
  refine lv_aload_n hx hb d_Mo_rowOf_6 rfl (lv_at hl 0 rfl) ?_
  refine va_get (D := (dC, dI)) (ci := 1) (v := .ref h_mo_ways) (C := R_Mo) (T := T_Mo) (N := 38) hx hb hB iw_Mo hown hK hP 0 rfl rfl 13 (by decide) (hB _ bw_886) (fun _ h9 => h9) rfl d_Mo_rowOf_7 ?_
  refine lv_iconst (v := 0) hx hb d_Mo_rowOf_10 (by decide) ?_
  obtain ⟨hin, h⟩ := gq_e h
  refine va_iald hx hb hK hP 2 1 rfl rfl hin d_Mo_rowOf_11 ?_
  refine lv_iconst (v := 2) hx hb d_Mo_rowOf_12 (by decide) ?_
  refine lv_irem hx hb d_Mo_rowOf_13 (by decide) ?_
  refine lv_iconst (v := 1) hx hb d_Mo_rowOf_14 (by decide) ?_
  refine lv_icmp_ne (tgt := 34) hx hb d_Mo_rowOf_15 (by decide) (fun c_1 => ?_) (fun c_1 => ?_)
  · have h := if_f h c_1
    refine lv_iconst (v := 0) hx hb d_Mo_rowOf_34 (by decide) ?_
    refine lv_iadd hx hb d_Mo_rowOf_35 ?_
    subst eQ
    exact W.iret (v := ((mo_ys (p0).toNatClampNeg) + (0 : Int32))) hx hb hr (fun t ht hW => ⟨_, rfl, Option.some.inj h, ht⟩) (fun _ h9 => absurd h9 List.not_mem_nil) d_Mo_rowOf_36
  · have h := if_t h c_1
    refine lv_aload_n hx hb d_Mo_rowOf_18 rfl (lv_at hl 0 rfl) ?_
    refine va_get (D := (dC, dI)) (ci := 1) (v := .ref h_mo_high) (C := R_Mo) (T := T_Mo) (N := 38) hx hb hB iw_Mo hown hK hP 0 rfl rfl 6 (by decide) (hB _ bw_879) (fun _ h9 => h9) rfl d_Mo_rowOf_19 ?_
    refine lv_aload_n hx hb d_Mo_rowOf_22 rfl (lv_at hl 0 rfl) ?_
    refine va_get (D := (dC, dI)) (ci := 1) (v := .ref h_mo_symbolOf) (C := R_Mo) (T := T_Mo) (N := 38) hx hb hB iw_Mo hown hK hP 0 rfl rfl 9 (by decide) (hB _ bw_882) (fun _ h9 => h9) rfl d_Mo_rowOf_23 ?_
    refine lv_iload_n hx hb d_Mo_rowOf_26 rfl (lv_at hl 1 rfl) ?_
    obtain ⟨hin, h⟩ := gq_e h
    refine va_iald hx hb hK hP 4 3 rfl rfl hin d_Mo_rowOf_27 ?_
    obtain ⟨hin, h⟩ := gq_e h
    refine va_iald hx hb hK hP 3 2 rfl rfl hin d_Mo_rowOf_28 ?_
    refine lv_iconst (v := 1) hx hb d_Mo_rowOf_29 (by decide) ?_
    refine lv_isub hx hb d_Mo_rowOf_30 ?_
    refine lv_goto (tgt := 35) hx hb d_Mo_rowOf_31 (by decide) ?_
    refine lv_iadd hx hb d_Mo_rowOf_35 ?_
    subst eQ
    exact W.iret (v := ((mo_ys (p0).toNatClampNeg) + ((mo_high ((mo_symbolOf (p0).toNatClampNeg)).toNatClampNeg) - (1 : Int32)))) hx hb hr (fun t ht hW => ⟨_, rfl, Option.some.inj h, ht⟩) (fun _ h9 => absurd h9 List.not_mem_nil) d_Mo_rowOf_36
set_option maxHeartbeats 4000000 in
set_option maxRecDepth 100000 in
theorem c_Mo_sOf (l : Launch) (dC : Nat → ClassId) (dI : Nat → Nat → Nat) (h_mo : Nat) (h_mo_ways : Nat) (h_mo_xs : Nat) (h_mo_wide : Nat) (h_mo_symbolOf : Nat) (h_mo_ys : Nat) (h_mo_high : Nat) (c_mo_ways : ClassId) (c_mo_xs : ClassId) (c_mo_wide : ClassId) (c_mo_symbolOf : ClassId) (c_mo_ys : ClassId) (c_mo_high : ClassId) (u_mo_thrown : Value) (u_mo_width : Value) (u_mo_height : Value) (u_mo_kind : Value) (u_mo_symbols : Value) (u_mo_dark : Value) (u_mo_instances : Value) (u_mo_differs : Value) (u_mo_ordered : Value) (u_mo_page : Value) (u_mo_told : Value) (u_mo_keeps : Value) (u_mo_toldBytes : Value) (u_mo_out : Value) (u_mo_counts : Value) (u_mo_lengths : Value) (u_mo_codes : Value) (u_mo_weight : Value) (u_mo_over : Value) (u_mo_used : Value) (u_mo_row : Value) (u_mo_came : Value) (u_mo_in : Value) (u_mo_at : Value) (u_mo_refused : Value) (u_mo_place : Value) (u_mo_readMany : Value) (u_mo_readSymbol : Value) (u_mo_readX : Value) (u_mo_readY : Value) (u_mo_readDiffers : Value) (u_mo_readWays : Value) (mo_ways : (Nat → Int32)) (mo_xs : (Nat → Int32)) (mo_wide : (Nat → Int32)) (mo_symbolOf : (Nat → Int32)) (mo_ys : (Nat → Int32)) (mo_high : (Nat → Int32)) (p0 : Int32) (o : Int32) (hf : f_Mo_sOf mo_ways mo_xs mo_wide mo_symbolOf mo_ys mo_high p0 = some o) :
    Met l y_Mo_sOf ws_Mo_sOf { frames := 1, cells := 0, slots := 0, locals := 21 } (va_Pc [.ref h_mo, .int p0] (PcP (dC, dI) [(h_mo, .inr (1, [u_mo_thrown, u_mo_width, u_mo_height, u_mo_kind, u_mo_symbols, .ref h_mo_wide, .ref h_mo_high, u_mo_dark, u_mo_instances, .ref h_mo_symbolOf, .ref h_mo_xs, .ref h_mo_ys, u_mo_differs, .ref h_mo_ways, u_mo_ordered, u_mo_page, u_mo_told, u_mo_keeps, u_mo_toldBytes, u_mo_out, u_mo_counts, u_mo_lengths, u_mo_codes, u_mo_weight, u_mo_over, u_mo_used, u_mo_row, u_mo_came, u_mo_in, u_mo_at, u_mo_refused, u_mo_place, u_mo_readMany, u_mo_readSymbol, u_mo_readX, u_mo_readY, u_mo_readDiffers, u_mo_readWays])), (h_mo_ways, .inl (c_mo_ways, 4, .inl mo_ways)), (h_mo_xs, .inl (c_mo_xs, 40, .inl mo_xs)), (h_mo_wide, .inl (c_mo_wide, 16, .inl mo_wide)), (h_mo_symbolOf, .inl (c_mo_symbolOf, 40, .inl mo_symbolOf)), (h_mo_ys, .inl (c_mo_ys, 40, .inl mo_ys)), (h_mo_high, .inl (c_mo_high, 16, .inl mo_high))] [(c_mo_ways, .int), (c_mo_xs, .int), (c_mo_wide, .int), (c_mo_symbolOf, .int), (c_mo_ys, .int), (c_mo_high, .int)]))
      (vp_Si (fun r => r = o)) 0 0 (fun _ => False) := by
  refine Met.ofW (cc := b_Mo_sOf) (maxL := 2) (ret := (some .int)) (by decide) rfl ?_
  intro p e s m args below meth c s₁ B hml hv
  obtain ⟨rfl, hP, hK, hnw⟩ := hv
  have hx := B.exec
  have hb := B.bytes
  have hr := B.returns
  have hts := atoms_spec (ws := ws_Mo_sOf) B.pre
  have hB : ∀ w ∈ BIG, w.before _ s = true := fun w h => hts w (List.mem_cons_of_mem _ h)
  have hown : s.vm.findClass R_Mo = some m.cls := findClass_of_methodNamed B.named
  have hlocks := B.notSynchronized
  refine W_Q (fun Q9 eQ => ?_)
  have hl := lv_entry ([.ref h_mo, .int p0]) (n := 2) (Nat.le_of_ble_eq_true rfl)
  rw [lg_entry_eq]
  generalize (lg_sl ([.ref h_mo, .int p0]) ++ List.replicate (2 - (lg_sl ([.ref h_mo, .int p0])).length) Slot.unset).toArray = ls at hl ⊢
  have hl : lv_has ls 2 [(0, .ref h_mo), (1, .int p0)] := hl
  have h := hf
  unfold f_Mo_sOf at h
  refine lv_aload_n hx hb d_Mo_sOf_0 rfl (lv_at hl 0 rfl) ?_
  refine va_get (D := (dC, dI)) (ci := 1) (v := .ref h_mo_ways) (C := R_Mo) (T := T_Mo) (N := 38) hx hb hB iw_Mo hown hK hP 0 rfl rfl 13 (by decide) (hB _ bw_886) (fun _ h9 => h9) rfl d_Mo_sOf_1 ?_
  refine lv_iconst (v := 1) hx hb d_Mo_sOf_4 (by decide) ?_
  obtain ⟨hin, h⟩ := gq_e h
  refine va_iald hx hb hK hP 1 0 rfl rfl hin d_Mo_sOf_5 ?_
  refine lv_iconst (v := 1) hx hb d_Mo_sOf_6 (by decide) ?_
  refine lv_icmp_ne (tgt := 18) hx hb d_Mo_sOf_7 (by decide) (fun c_1 => ?_) (fun c_1 => ?_)
  · have h := if_f h c_1
    refine lv_aload_n hx hb d_Mo_sOf_18 rfl (lv_at hl 0 rfl) ?_
    refine lv_iload_n hx hb d_Mo_sOf_19 rfl (lv_at hl 1 rfl) ?_
    obtain ⟨o9, hc9, h⟩ := bd_e h
    have hPc := hP.sub (ws' := [(h_mo, .inr (1, [u_mo_thrown, u_mo_width, u_mo_height, u_mo_kind, u_mo_symbols, .ref h_mo_wide, .ref h_mo_high, u_mo_dark, u_mo_instances, .ref h_mo_symbolOf, .ref h_mo_xs, .ref h_mo_ys, u_mo_differs, .ref h_mo_ways, u_mo_ordered, u_mo_page, u_mo_told, u_mo_keeps, u_mo_toldBytes, u_mo_out, u_mo_counts, u_mo_lengths, u_mo_codes, u_mo_weight, u_mo_over, u_mo_used, u_mo_row, u_mo_came, u_mo_in, u_mo_at, u_mo_refused, u_mo_place, u_mo_readMany, u_mo_readSymbol, u_mo_readX, u_mo_readY, u_mo_readDiffers, u_mo_readWays])), (h_mo_xs, .inl (c_mo_xs, 40, .inl mo_xs)), (h_mo_ways, .inl (c_mo_ways, 4, .inl mo_ways)), (h_mo_wide, .inl (c_mo_wide, 16, .inl mo_wide)), (h_mo_symbolOf, .inl (c_mo_symbolOf, 40, .inl mo_symbolOf))]) [0, 2, 1, 3, 4] rfl
    have hKc := hK.sub (tys' := [(c_mo_xs, .int), (c_mo_ways, .int), (c_mo_wide, .int), (c_mo_symbolOf, .int)]) [1, 0, 2, 3] rfl
    refine vp_callSi (va_Run.run (va_runV (As := [.int p0]) (rest := []) ⟨hx, hb, hml, hown, hB⟩ (c_Mo_columnOf l dC dI h_mo h_mo_xs h_mo_ways h_mo_wide h_mo_symbolOf c_mo_xs c_mo_ways c_mo_wide c_mo_symbolOf u_mo_thrown u_mo_width u_mo_height u_mo_kind u_mo_symbols (.ref h_mo_high) u_mo_dark u_mo_instances (.ref h_mo_ys) u_mo_differs u_mo_ordered u_mo_page u_mo_told u_mo_keeps u_mo_toldBytes u_mo_out u_mo_counts u_mo_lengths u_mo_codes u_mo_weight u_mo_over u_mo_used u_mo_row u_mo_came u_mo_in u_mo_at u_mo_refused u_mo_place u_mo_readMany u_mo_readSymbol u_mo_readX u_mo_readY u_mo_readDiffers u_mo_readWays mo_xs mo_ways mo_wide mo_symbolOf p0 o9 hc9) (cwV 1 hB (goodA (m4 bw_1040 bw_1042 bs_60 bw_13) (goodB bw_1043)) rfl rfl rfl (by decide +kernel) ⟨Nat.le_of_ble_eq_true rfl, Nat.le_of_ble_eq_true rfl⟩) ⟨fb_p, va_recv hK hP (ci := 1) (q0 := 0) rfl rfl, (pre_p hPc hKc hnw [.ref h_mo, .int p0])⟩ rfl rfl hl.1 rfl (lv_room (Nat.le_of_ble_eq_true rfl)) d_Mo_sOf_20 ⟨Nat.zero_le _, Nat.zero_le _⟩)) (fun r_1 e_r_1 => ?_)
    subst e_r_1
    clear hPc hKc hc9
    subst eQ
    exact W.iret (v := r_1) hx hb hr (fun t ht hW => ⟨_, rfl, Option.some.inj h, ht⟩) (fun _ h9 => absurd h9 List.not_mem_nil) d_Mo_sOf_23
  · have h := if_t h c_1
    refine lv_aload_n hx hb d_Mo_sOf_10 rfl (lv_at hl 0 rfl) ?_
    refine lv_iload_n hx hb d_Mo_sOf_11 rfl (lv_at hl 1 rfl) ?_
    obtain ⟨o9, hc9, h⟩ := bd_e h
    have hPc := hP.sub (ws' := [(h_mo, .inr (1, [u_mo_thrown, u_mo_width, u_mo_height, u_mo_kind, u_mo_symbols, .ref h_mo_wide, .ref h_mo_high, u_mo_dark, u_mo_instances, .ref h_mo_symbolOf, .ref h_mo_xs, .ref h_mo_ys, u_mo_differs, .ref h_mo_ways, u_mo_ordered, u_mo_page, u_mo_told, u_mo_keeps, u_mo_toldBytes, u_mo_out, u_mo_counts, u_mo_lengths, u_mo_codes, u_mo_weight, u_mo_over, u_mo_used, u_mo_row, u_mo_came, u_mo_in, u_mo_at, u_mo_refused, u_mo_place, u_mo_readMany, u_mo_readSymbol, u_mo_readX, u_mo_readY, u_mo_readDiffers, u_mo_readWays])), (h_mo_ys, .inl (c_mo_ys, 40, .inl mo_ys)), (h_mo_ways, .inl (c_mo_ways, 4, .inl mo_ways)), (h_mo_high, .inl (c_mo_high, 16, .inl mo_high)), (h_mo_symbolOf, .inl (c_mo_symbolOf, 40, .inl mo_symbolOf))]) [0, 5, 1, 6, 4] rfl
    have hKc := hK.sub (tys' := [(c_mo_ys, .int), (c_mo_ways, .int), (c_mo_high, .int), (c_mo_symbolOf, .int)]) [4, 0, 5, 3] rfl
    refine vp_callSi (va_Run.run (va_runV (As := [.int p0]) (rest := []) ⟨hx, hb, hml, hown, hB⟩ (c_Mo_rowOf l dC dI h_mo h_mo_ys h_mo_ways h_mo_high h_mo_symbolOf c_mo_ys c_mo_ways c_mo_high c_mo_symbolOf u_mo_thrown u_mo_width u_mo_height u_mo_kind u_mo_symbols (.ref h_mo_wide) u_mo_dark u_mo_instances (.ref h_mo_xs) u_mo_differs u_mo_ordered u_mo_page u_mo_told u_mo_keeps u_mo_toldBytes u_mo_out u_mo_counts u_mo_lengths u_mo_codes u_mo_weight u_mo_over u_mo_used u_mo_row u_mo_came u_mo_in u_mo_at u_mo_refused u_mo_place u_mo_readMany u_mo_readSymbol u_mo_readX u_mo_readY u_mo_readDiffers u_mo_readWays mo_ys mo_ways mo_high mo_symbolOf p0 o9 hc9) (cwV 1 hB (goodA (m4 bw_1044 bw_1046 bs_61 bw_13) (goodB bw_1047)) rfl rfl rfl (by decide +kernel) ⟨Nat.le_of_ble_eq_true rfl, Nat.le_of_ble_eq_true rfl⟩) ⟨fb_p, va_recv hK hP (ci := 1) (q0 := 0) rfl rfl, (pre_p hPc hKc hnw [.ref h_mo, .int p0])⟩ rfl rfl hl.1 rfl (lv_room (Nat.le_of_ble_eq_true rfl)) d_Mo_sOf_12 ⟨Nat.zero_le _, Nat.zero_le _⟩)) (fun r_2 e_r_2 => ?_)
    subst e_r_2
    clear hPc hKc hc9
    refine lv_goto (tgt := 23) hx hb d_Mo_sOf_15 (by decide) ?_
    subst eQ
    exact W.iret (v := r_2) hx hb hr (fun t ht hW => ⟨_, rfl, Option.some.inj h, ht⟩) (fun _ h9 => absurd h9 List.not_mem_nil) d_Mo_sOf_23
set_option maxHeartbeats 4000000 in
set_option maxRecDepth 100000 in
theorem c_Mo_tOf (l : Launch) (dC : Nat → ClassId) (dI : Nat → Nat → Nat) (h_mo : Nat) (h_mo_ways : Nat) (h_mo_ys : Nat) (h_mo_high : Nat) (h_mo_symbolOf : Nat) (h_mo_xs : Nat) (h_mo_wide : Nat) (c_mo_ways : ClassId) (c_mo_ys : ClassId) (c_mo_high : ClassId) (c_mo_symbolOf : ClassId) (c_mo_xs : ClassId) (c_mo_wide : ClassId) (u_mo_thrown : Value) (u_mo_width : Value) (u_mo_height : Value) (u_mo_kind : Value) (u_mo_symbols : Value) (u_mo_dark : Value) (u_mo_instances : Value) (u_mo_differs : Value) (u_mo_ordered : Value) (u_mo_page : Value) (u_mo_told : Value) (u_mo_keeps : Value) (u_mo_toldBytes : Value) (u_mo_out : Value) (u_mo_counts : Value) (u_mo_lengths : Value) (u_mo_codes : Value) (u_mo_weight : Value) (u_mo_over : Value) (u_mo_used : Value) (u_mo_row : Value) (u_mo_came : Value) (u_mo_in : Value) (u_mo_at : Value) (u_mo_refused : Value) (u_mo_place : Value) (u_mo_readMany : Value) (u_mo_readSymbol : Value) (u_mo_readX : Value) (u_mo_readY : Value) (u_mo_readDiffers : Value) (u_mo_readWays : Value) (mo_ways : (Nat → Int32)) (mo_ys : (Nat → Int32)) (mo_high : (Nat → Int32)) (mo_symbolOf : (Nat → Int32)) (mo_xs : (Nat → Int32)) (mo_wide : (Nat → Int32)) (p0 : Int32) (o : Int32) (hf : f_Mo_tOf mo_ways mo_ys mo_high mo_symbolOf mo_xs mo_wide p0 = some o) :
    Met l y_Mo_tOf ws_Mo_tOf { frames := 1, cells := 0, slots := 0, locals := 21 } (va_Pc [.ref h_mo, .int p0] (PcP (dC, dI) [(h_mo, .inr (1, [u_mo_thrown, u_mo_width, u_mo_height, u_mo_kind, u_mo_symbols, .ref h_mo_wide, .ref h_mo_high, u_mo_dark, u_mo_instances, .ref h_mo_symbolOf, .ref h_mo_xs, .ref h_mo_ys, u_mo_differs, .ref h_mo_ways, u_mo_ordered, u_mo_page, u_mo_told, u_mo_keeps, u_mo_toldBytes, u_mo_out, u_mo_counts, u_mo_lengths, u_mo_codes, u_mo_weight, u_mo_over, u_mo_used, u_mo_row, u_mo_came, u_mo_in, u_mo_at, u_mo_refused, u_mo_place, u_mo_readMany, u_mo_readSymbol, u_mo_readX, u_mo_readY, u_mo_readDiffers, u_mo_readWays])), (h_mo_ways, .inl (c_mo_ways, 4, .inl mo_ways)), (h_mo_ys, .inl (c_mo_ys, 40, .inl mo_ys)), (h_mo_high, .inl (c_mo_high, 16, .inl mo_high)), (h_mo_symbolOf, .inl (c_mo_symbolOf, 40, .inl mo_symbolOf)), (h_mo_xs, .inl (c_mo_xs, 40, .inl mo_xs)), (h_mo_wide, .inl (c_mo_wide, 16, .inl mo_wide))] [(c_mo_ways, .int), (c_mo_ys, .int), (c_mo_high, .int), (c_mo_symbolOf, .int), (c_mo_xs, .int), (c_mo_wide, .int)]))
      (vp_Si (fun r => r = o)) 0 0 (fun _ => False) := by
  refine Met.ofW (cc := b_Mo_tOf) (maxL := 2) (ret := (some .int)) (by decide) rfl ?_
  intro p e s m args below meth c s₁ B hml hv
  obtain ⟨rfl, hP, hK, hnw⟩ := hv
  have hx := B.exec
  have hb := B.bytes
  have hr := B.returns
  have hts := atoms_spec (ws := ws_Mo_tOf) B.pre
  have hB : ∀ w ∈ BIG, w.before _ s = true := fun w h => hts w (List.mem_cons_of_mem _ h)
  have hown : s.vm.findClass R_Mo = some m.cls := findClass_of_methodNamed B.named
  have hlocks := B.notSynchronized
  refine W_Q (fun Q9 eQ => ?_)
  have hl := lv_entry ([.ref h_mo, .int p0]) (n := 2) (Nat.le_of_ble_eq_true rfl)
  rw [lg_entry_eq]
  generalize (lg_sl ([.ref h_mo, .int p0]) ++ List.replicate (2 - (lg_sl ([.ref h_mo, .int p0])).length) Slot.unset).toArray = ls at hl ⊢
  have hl : lv_has ls 2 [(0, .ref h_mo), (1, .int p0)] := hl
  have h := hf
  unfold f_Mo_tOf at h
  refine lv_aload_n hx hb d_Mo_tOf_0 rfl (lv_at hl 0 rfl) ?_
  refine va_get (D := (dC, dI)) (ci := 1) (v := .ref h_mo_ways) (C := R_Mo) (T := T_Mo) (N := 38) hx hb hB iw_Mo hown hK hP 0 rfl rfl 13 (by decide) (hB _ bw_886) (fun _ h9 => h9) rfl d_Mo_tOf_1 ?_
  refine lv_iconst (v := 1) hx hb d_Mo_tOf_4 (by decide) ?_
  obtain ⟨hin, h⟩ := gq_e h
  refine va_iald hx hb hK hP 1 0 rfl rfl hin d_Mo_tOf_5 ?_
  refine lv_iconst (v := 1) hx hb d_Mo_tOf_6 (by decide) ?_
  refine lv_icmp_ne (tgt := 18) hx hb d_Mo_tOf_7 (by decide) (fun c_1 => ?_) (fun c_1 => ?_)
  · have h := if_f h c_1
    refine lv_aload_n hx hb d_Mo_tOf_18 rfl (lv_at hl 0 rfl) ?_
    refine lv_iload_n hx hb d_Mo_tOf_19 rfl (lv_at hl 1 rfl) ?_
    obtain ⟨o9, hc9, h⟩ := bd_e h
    have hPc := hP.sub (ws' := [(h_mo, .inr (1, [u_mo_thrown, u_mo_width, u_mo_height, u_mo_kind, u_mo_symbols, .ref h_mo_wide, .ref h_mo_high, u_mo_dark, u_mo_instances, .ref h_mo_symbolOf, .ref h_mo_xs, .ref h_mo_ys, u_mo_differs, .ref h_mo_ways, u_mo_ordered, u_mo_page, u_mo_told, u_mo_keeps, u_mo_toldBytes, u_mo_out, u_mo_counts, u_mo_lengths, u_mo_codes, u_mo_weight, u_mo_over, u_mo_used, u_mo_row, u_mo_came, u_mo_in, u_mo_at, u_mo_refused, u_mo_place, u_mo_readMany, u_mo_readSymbol, u_mo_readX, u_mo_readY, u_mo_readDiffers, u_mo_readWays])), (h_mo_ys, .inl (c_mo_ys, 40, .inl mo_ys)), (h_mo_ways, .inl (c_mo_ways, 4, .inl mo_ways)), (h_mo_high, .inl (c_mo_high, 16, .inl mo_high)), (h_mo_symbolOf, .inl (c_mo_symbolOf, 40, .inl mo_symbolOf))]) [0, 2, 1, 3, 4] rfl
    have hKc := hK.sub (tys' := [(c_mo_ys, .int), (c_mo_ways, .int), (c_mo_high, .int), (c_mo_symbolOf, .int)]) [1, 0, 2, 3] rfl
    refine vp_callSi (va_Run.run (va_runV (As := [.int p0]) (rest := []) ⟨hx, hb, hml, hown, hB⟩ (c_Mo_rowOf l dC dI h_mo h_mo_ys h_mo_ways h_mo_high h_mo_symbolOf c_mo_ys c_mo_ways c_mo_high c_mo_symbolOf u_mo_thrown u_mo_width u_mo_height u_mo_kind u_mo_symbols (.ref h_mo_wide) u_mo_dark u_mo_instances (.ref h_mo_xs) u_mo_differs u_mo_ordered u_mo_page u_mo_told u_mo_keeps u_mo_toldBytes u_mo_out u_mo_counts u_mo_lengths u_mo_codes u_mo_weight u_mo_over u_mo_used u_mo_row u_mo_came u_mo_in u_mo_at u_mo_refused u_mo_place u_mo_readMany u_mo_readSymbol u_mo_readX u_mo_readY u_mo_readDiffers u_mo_readWays mo_ys mo_ways mo_high mo_symbolOf p0 o9 hc9) (cwV 1 hB (goodA (m4 bw_1044 bw_1046 bs_61 bw_13) (goodB bw_1047)) rfl rfl rfl (by decide +kernel) ⟨Nat.le_of_ble_eq_true rfl, Nat.le_of_ble_eq_true rfl⟩) ⟨fb_p, va_recv hK hP (ci := 1) (q0 := 0) rfl rfl, (pre_p hPc hKc hnw [.ref h_mo, .int p0])⟩ rfl rfl hl.1 rfl (lv_room (Nat.le_of_ble_eq_true rfl)) d_Mo_tOf_20 ⟨Nat.zero_le _, Nat.zero_le _⟩)) (fun r_1 e_r_1 => ?_)
    subst e_r_1
    clear hPc hKc hc9
    subst eQ
    exact W.iret (v := r_1) hx hb hr (fun t ht hW => ⟨_, rfl, Option.some.inj h, ht⟩) (fun _ h9 => absurd h9 List.not_mem_nil) d_Mo_tOf_23
  · have h := if_t h c_1
    refine lv_aload_n hx hb d_Mo_tOf_10 rfl (lv_at hl 0 rfl) ?_
    refine lv_iload_n hx hb d_Mo_tOf_11 rfl (lv_at hl 1 rfl) ?_
    obtain ⟨o9, hc9, h⟩ := bd_e h
    have hPc := hP.sub (ws' := [(h_mo, .inr (1, [u_mo_thrown, u_mo_width, u_mo_height, u_mo_kind, u_mo_symbols, .ref h_mo_wide, .ref h_mo_high, u_mo_dark, u_mo_instances, .ref h_mo_symbolOf, .ref h_mo_xs, .ref h_mo_ys, u_mo_differs, .ref h_mo_ways, u_mo_ordered, u_mo_page, u_mo_told, u_mo_keeps, u_mo_toldBytes, u_mo_out, u_mo_counts, u_mo_lengths, u_mo_codes, u_mo_weight, u_mo_over, u_mo_used, u_mo_row, u_mo_came, u_mo_in, u_mo_at, u_mo_refused, u_mo_place, u_mo_readMany, u_mo_readSymbol, u_mo_readX, u_mo_readY, u_mo_readDiffers, u_mo_readWays])), (h_mo_xs, .inl (c_mo_xs, 40, .inl mo_xs)), (h_mo_ways, .inl (c_mo_ways, 4, .inl mo_ways)), (h_mo_wide, .inl (c_mo_wide, 16, .inl mo_wide)), (h_mo_symbolOf, .inl (c_mo_symbolOf, 40, .inl mo_symbolOf))]) [0, 5, 1, 6, 4] rfl
    have hKc := hK.sub (tys' := [(c_mo_xs, .int), (c_mo_ways, .int), (c_mo_wide, .int), (c_mo_symbolOf, .int)]) [4, 0, 5, 3] rfl
    refine vp_callSi (va_Run.run (va_runV (As := [.int p0]) (rest := []) ⟨hx, hb, hml, hown, hB⟩ (c_Mo_columnOf l dC dI h_mo h_mo_xs h_mo_ways h_mo_wide h_mo_symbolOf c_mo_xs c_mo_ways c_mo_wide c_mo_symbolOf u_mo_thrown u_mo_width u_mo_height u_mo_kind u_mo_symbols (.ref h_mo_high) u_mo_dark u_mo_instances (.ref h_mo_ys) u_mo_differs u_mo_ordered u_mo_page u_mo_told u_mo_keeps u_mo_toldBytes u_mo_out u_mo_counts u_mo_lengths u_mo_codes u_mo_weight u_mo_over u_mo_used u_mo_row u_mo_came u_mo_in u_mo_at u_mo_refused u_mo_place u_mo_readMany u_mo_readSymbol u_mo_readX u_mo_readY u_mo_readDiffers u_mo_readWays mo_xs mo_ways mo_wide mo_symbolOf p0 o9 hc9) (cwV 1 hB (goodA (m4 bw_1040 bw_1042 bs_60 bw_13) (goodB bw_1043)) rfl rfl rfl (by decide +kernel) ⟨Nat.le_of_ble_eq_true rfl, Nat.le_of_ble_eq_true rfl⟩) ⟨fb_p, va_recv hK hP (ci := 1) (q0 := 0) rfl rfl, (pre_p hPc hKc hnw [.ref h_mo, .int p0])⟩ rfl rfl hl.1 rfl (lv_room (Nat.le_of_ble_eq_true rfl)) d_Mo_tOf_12 ⟨Nat.zero_le _, Nat.zero_le _⟩)) (fun r_2 e_r_2 => ?_)
    subst e_r_2
    clear hPc hKc hc9
    refine lv_goto (tgt := 23) hx hb d_Mo_tOf_15 (by decide) ?_
    subst eQ
    exact W.iret (v := r_2) hx hb hr (fun t ht hW => ⟨_, rfl, Option.some.inj h, ht⟩) (fun _ h9 => absurd h9 List.not_mem_nil) d_Mo_tOf_23
