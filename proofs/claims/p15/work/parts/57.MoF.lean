set_option maxHeartbeats 4000000 in
set_option maxRecDepth 100000 in
theorem c_Mo_feed (l : Launch) (dC : Nat → ClassId) (dI : Nat → Nat → Nat) (h_mo : Nat) (h_mo_in : Nat) (c_mo_in : ClassId) (u_mo_width : Value) (u_mo_height : Value) (u_mo_kind : Value) (u_mo_symbols : Value) (u_mo_wide : Value) (u_mo_high : Value) (u_mo_dark : Value) (u_mo_instances : Value) (u_mo_symbolOf : Value) (u_mo_xs : Value) (u_mo_ys : Value) (u_mo_differs : Value) (u_mo_ways : Value) (u_mo_ordered : Value) (u_mo_page : Value) (u_mo_told : Value) (u_mo_keeps : Value) (u_mo_toldBytes : Value) (u_mo_out : Value) (u_mo_counts : Value) (u_mo_lengths : Value) (u_mo_codes : Value) (u_mo_weight : Value) (u_mo_over : Value) (u_mo_used : Value) (u_mo_row : Value) (u_mo_at : Value) (u_mo_refused : Value) (u_mo_place : Value) (u_mo_readMany : Value) (u_mo_readSymbol : Value) (u_mo_readX : Value) (u_mo_readY : Value) (u_mo_readDiffers : Value) (u_mo_readWays : Value) (mo_thrown : Int32) (mo_came : Int32) (mo_in : (Nat → Int32)) (p0 : Int32) (sz : Nat) (o : Int32 × Int32 × Int32 × (Nat → Int32)) (hf : f_Mo_feed mo_came mo_in p0 = some o) :
    Met l y_Mo_feed ws_Mo_feed { frames := 1, cells := 0, slots := 0, locals := 22 } (va_Pc [.ref h_mo, .int p0] (PcM (dC, dI) [(h_mo, .inr (1, [.int mo_thrown, u_mo_width, u_mo_height, u_mo_kind, u_mo_symbols, u_mo_wide, u_mo_high, u_mo_dark, u_mo_instances, u_mo_symbolOf, u_mo_xs, u_mo_ys, u_mo_differs, u_mo_ways, u_mo_ordered, u_mo_page, u_mo_told, u_mo_keeps, u_mo_toldBytes, u_mo_out, u_mo_counts, u_mo_lengths, u_mo_codes, u_mo_weight, u_mo_over, u_mo_used, u_mo_row, .int mo_came, .ref h_mo_in, u_mo_at, u_mo_refused, u_mo_place, u_mo_readMany, u_mo_readSymbol, u_mo_readX, u_mo_readY, u_mo_readDiffers, u_mo_readWays])), (h_mo_in, .inl (c_mo_in, 2000, .inl mo_in))] [(c_mo_in, .int)] sz))
      (va_Qi (fun (r : Int32) (u : Int32 × Int32 × (Nat → Int32)) => (r, u) = o) (fun u t => va_P (dC, dI) CL [(h_mo, .inr (1, [.int (u.1), u_mo_width, u_mo_height, u_mo_kind, u_mo_symbols, u_mo_wide, u_mo_high, u_mo_dark, u_mo_instances, u_mo_symbolOf, u_mo_xs, u_mo_ys, u_mo_differs, u_mo_ways, u_mo_ordered, u_mo_page, u_mo_told, u_mo_keeps, u_mo_toldBytes, u_mo_out, u_mo_counts, u_mo_lengths, u_mo_codes, u_mo_weight, u_mo_over, u_mo_used, u_mo_row, .int (u.2.1), .ref h_mo_in, u_mo_at, u_mo_refused, u_mo_place, u_mo_readMany, u_mo_readSymbol, u_mo_readX, u_mo_readY, u_mo_readDiffers, u_mo_readWays])), (h_mo_in, .inl (c_mo_in, 2000, .inl (u.2.2)))] t.heap ∧ va_K (dC, dI) CL [(c_mo_in, .int)] t ∧ va_D (va_A [(h_mo, .inr (1, [.int mo_thrown, u_mo_width, u_mo_height, u_mo_kind, u_mo_symbols, u_mo_wide, u_mo_high, u_mo_dark, u_mo_instances, u_mo_symbolOf, u_mo_xs, u_mo_ys, u_mo_differs, u_mo_ways, u_mo_ordered, u_mo_page, u_mo_told, u_mo_keeps, u_mo_toldBytes, u_mo_out, u_mo_counts, u_mo_lengths, u_mo_codes, u_mo_weight, u_mo_over, u_mo_used, u_mo_row, .int mo_came, .ref h_mo_in, u_mo_at, u_mo_refused, u_mo_place, u_mo_readMany, u_mo_readSymbol, u_mo_readX, u_mo_readY, u_mo_readDiffers, u_mo_readWays])), (h_mo_in, .inl (c_mo_in, 2000, .inl mo_in))] sz) [(h_mo, .inr (1, [.int (u.1), u_mo_width, u_mo_height, u_mo_kind, u_mo_symbols, u_mo_wide, u_mo_high, u_mo_dark, u_mo_instances, u_mo_symbolOf, u_mo_xs, u_mo_ys, u_mo_differs, u_mo_ways, u_mo_ordered, u_mo_page, u_mo_told, u_mo_keeps, u_mo_toldBytes, u_mo_out, u_mo_counts, u_mo_lengths, u_mo_codes, u_mo_weight, u_mo_over, u_mo_used, u_mo_row, .int (u.2.1), .ref h_mo_in, u_mo_at, u_mo_refused, u_mo_place, u_mo_readMany, u_mo_readSymbol, u_mo_readX, u_mo_readY, u_mo_readDiffers, u_mo_readWays])), (h_mo_in, .inl (c_mo_in, 2000, .inl (u.2.2)))]) (va_A [(h_mo, .inr (1, [.int mo_thrown, u_mo_width, u_mo_height, u_mo_kind, u_mo_symbols, u_mo_wide, u_mo_high, u_mo_dark, u_mo_instances, u_mo_symbolOf, u_mo_xs, u_mo_ys, u_mo_differs, u_mo_ways, u_mo_ordered, u_mo_page, u_mo_told, u_mo_keeps, u_mo_toldBytes, u_mo_out, u_mo_counts, u_mo_lengths, u_mo_codes, u_mo_weight, u_mo_over, u_mo_used, u_mo_row, .int mo_came, .ref h_mo_in, u_mo_at, u_mo_refused, u_mo_place, u_mo_readMany, u_mo_readSymbol, u_mo_readX, u_mo_readY, u_mo_readDiffers, u_mo_readWays])), (h_mo_in, .inl (c_mo_in, 2000, .inl mo_in))] sz)) 0 0 (va_A [(h_mo, .inr (1, [.int mo_thrown, u_mo_width, u_mo_height, u_mo_kind, u_mo_symbols, u_mo_wide, u_mo_high, u_mo_dark, u_mo_instances, u_mo_symbolOf, u_mo_xs, u_mo_ys, u_mo_differs, u_mo_ways, u_mo_ordered, u_mo_page, u_mo_told, u_mo_keeps, u_mo_toldBytes, u_mo_out, u_mo_counts, u_mo_lengths, u_mo_codes, u_mo_weight, u_mo_over, u_mo_used, u_mo_row, .int mo_came, .ref h_mo_in, u_mo_at, u_mo_refused, u_mo_place, u_mo_readMany, u_mo_readSymbol, u_mo_readX, u_mo_readY, u_mo_readDiffers, u_mo_readWays])), (h_mo_in, .inl (c_mo_in, 2000, .inl mo_in))] sz) := by
  refine Met.ofW (cc := b_Mo_feed) (maxL := 2) (ret := (some .int)) (by decide) rfl ?_
  intro p e s m args below meth c s₁ B hml hv
  obtain ⟨rfl, hsz, hP, hK, hD0, hnw⟩ := hv
  have hx := B.exec
  have hb := B.bytes
  have hr := B.returns
  have hts := atoms_spec (ws := ws_Mo_feed) B.pre
  have hB : ∀ w ∈ BIG, w.before _ s = true := fun w h => hts w (List.mem_cons_of_mem _ h)
  have hown : s.vm.findClass R_Mo = some m.cls := findClass_of_methodNamed B.named
  have hlocks := B.notSynchronized
  subst hsz
  have hD := hD0.self (sz := s.heap.size)
  refine W_Q (fun Q9 eQ => ?_)
  generalize hAe : va_A [(h_mo, .inr (1, [.int mo_thrown, u_mo_width, u_mo_height, u_mo_kind, u_mo_symbols, u_mo_wide, u_mo_high, u_mo_dark, u_mo_instances, u_mo_symbolOf, u_mo_xs, u_mo_ys, u_mo_differs, u_mo_ways, u_mo_ordered, u_mo_page, u_mo_told, u_mo_keeps, u_mo_toldBytes, u_mo_out, u_mo_counts, u_mo_lengths, u_mo_codes, u_mo_weight, u_mo_over, u_mo_used, u_mo_row, .int mo_came, .ref h_mo_in, u_mo_at, u_mo_refused, u_mo_place, u_mo_readMany, u_mo_readSymbol, u_mo_readX, u_mo_readY, u_mo_readDiffers, u_mo_readWays])), (h_mo_in, .inl (c_mo_in, 2000, .inl mo_in))] s.heap.size = A at hD eQ
  have hA : ∀ q : Nat, s.heap.size ≤ q → A q := fun q h => by rw [← hAe]; exact Or.inr h
  have hS : va_S A s.heap s.heap [] := va_S.rf
  have hl := lv_entry ([.ref h_mo, .int p0]) (n := 2) (Nat.le_of_ble_eq_true rfl)
  rw [lg_entry_eq]
  generalize (lg_sl ([.ref h_mo, .int p0]) ++ List.replicate (2 - (lg_sl ([.ref h_mo, .int p0])).length) Slot.unset).toArray = ls at hl ⊢
  have hl : lv_has ls 2 [(0, .ref h_mo), (1, .int p0)] := hl
  have h := hf
  unfold f_Mo_feed at h
  refine lv_aload_n hx hb d_Mo_feed_0 rfl (lv_at hl 0 rfl) ?_
  refine lv_iload_n hx hb d_Mo_feed_1 rfl (lv_at hl 1 rfl) ?_
  refine lv_iconst (v := 0) hx hb d_Mo_feed_2 (by decide) ?_
  refine lv_sipush (v := 255) hx hb d_Mo_feed_3 (by decide) ?_
  obtain ⟨o9, hc9, h⟩ := bd_e h
  have hPc := hP.sub (ws' := []) [] rfl
  have hKc := hK.sub (tys' := []) [] rfl
  refine vp_callSi (va_Run.run (va_runS (As := [.int p0, .int (0 : Int32), .int (255 : Int32)]) (rest := [.ref h_mo]) ⟨hx, hb, hml, hown, hB⟩ (c_Mo_isIn l dC dI p0 (0 : Int32) (255 : Int32) o9 hc9) (va_cwS 3 hB (goodA (m3 bw_996 bw_997 bw_13) (goodB bw_998)) rfl rfl rfl (by decide +kernel) ⟨Nat.le_of_ble_eq_true rfl, Nat.le_of_ble_eq_true rfl⟩) ⟨fb_p, (pre_p hPc hKc hnw [.int p0, .int (0 : Int32), .int (255 : Int32)])⟩ rfl rfl hl.1 rfl (lv_room (Nat.le_of_ble_eq_true rfl)) d_Mo_feed_6 ⟨Nat.zero_le _, Nat.zero_le _⟩)) (fun r_1 e_r_1 => ?_)
  subst e_r_1
  clear hPc hKc hc9
  obtain ⟨j31, e_j31, h⟩ := jn_e h
  have w_j31 : ∀ (s_2 : Int32) (H : Heap) (locs : List Loc) (ls : Array Slot), j31 s_2 = some o → va_P (dC, dI) CL [(h_mo, .inr (1, [.int mo_thrown, u_mo_width, u_mo_height, u_mo_kind, u_mo_symbols, u_mo_wide, u_mo_high, u_mo_dark, u_mo_instances, u_mo_symbolOf, u_mo_xs, u_mo_ys, u_mo_differs, u_mo_ways, u_mo_ordered, u_mo_page, u_mo_told, u_mo_keeps, u_mo_toldBytes, u_mo_out, u_mo_counts, u_mo_lengths, u_mo_codes, u_mo_weight, u_mo_over, u_mo_used, u_mo_row, .int mo_came, .ref h_mo_in, u_mo_at, u_mo_refused, u_mo_place, u_mo_readMany, u_mo_readSymbol, u_mo_readX, u_mo_readY, u_mo_readDiffers, u_mo_readWays])), (h_mo_in, .inl (c_mo_in, 2000, .inl mo_in))] H → va_D A [(h_mo, .inr (1, [.int mo_thrown, u_mo_width, u_mo_height, u_mo_kind, u_mo_symbols, u_mo_wide, u_mo_high, u_mo_dark, u_mo_instances, u_mo_symbolOf, u_mo_xs, u_mo_ys, u_mo_differs, u_mo_ways, u_mo_ordered, u_mo_page, u_mo_told, u_mo_keeps, u_mo_toldBytes, u_mo_out, u_mo_counts, u_mo_lengths, u_mo_codes, u_mo_weight, u_mo_over, u_mo_used, u_mo_row, .int mo_came, .ref h_mo_in, u_mo_at, u_mo_refused, u_mo_place, u_mo_readMany, u_mo_readSymbol, u_mo_readX, u_mo_readY, u_mo_readDiffers, u_mo_readWays])), (h_mo_in, .inl (c_mo_in, 2000, .inl mo_in))] → va_S A s.heap H locs → lv_has ls 2 [(0, .ref h_mo), (1, .int p0)] → W p l e ({ frames := 1, cells := 0, slots := 0, locals := 22 } : Room) s m ([.ref h_mo, .int p0] : List Value).toArray below meth c H locs 0 0 Q9 (F0 m 31 ls [.int s_2, .ref h_mo]) := by
    intro s_2 H locs ls h hP hD hS hl
    rw [e_j31] at h
    refine va_put (D := (dC, dI)) (ci := 1) (v := .int s_2) (ty := .int) (C := R_Mo) (T := T_Mo) (N := 38) hx hb hB iw_Mo ty_Mo tk_Mo n_Mo hown hK hP hD hS 0 rfl rfl 0 (by decide) (hB _ bw_873) (fun _ h9 => h9) rfl (by decide +kernel) rfl rfl (Nat.le_of_ble_eq_true rfl) d_Mo_feed_31 (fun H locs hP hD hS => ?_)
    have hP : va_P (dC, dI) CL [(h_mo, .inr (1, [.int s_2, u_mo_width, u_mo_height, u_mo_kind, u_mo_symbols, u_mo_wide, u_mo_high, u_mo_dark, u_mo_instances, u_mo_symbolOf, u_mo_xs, u_mo_ys, u_mo_differs, u_mo_ways, u_mo_ordered, u_mo_page, u_mo_told, u_mo_keeps, u_mo_toldBytes, u_mo_out, u_mo_counts, u_mo_lengths, u_mo_codes, u_mo_weight, u_mo_over, u_mo_used, u_mo_row, .int mo_came, .ref h_mo_in, u_mo_at, u_mo_refused, u_mo_place, u_mo_readMany, u_mo_readSymbol, u_mo_readX, u_mo_readY, u_mo_readDiffers, u_mo_readWays])), (h_mo_in, .inl (c_mo_in, 2000, .inl mo_in))] H := hP
    have hD : va_D A [(h_mo, .inr (1, [.int s_2, u_mo_width, u_mo_height, u_mo_kind, u_mo_symbols, u_mo_wide, u_mo_high, u_mo_dark, u_mo_instances, u_mo_symbolOf, u_mo_xs, u_mo_ys, u_mo_differs, u_mo_ways, u_mo_ordered, u_mo_page, u_mo_told, u_mo_keeps, u_mo_toldBytes, u_mo_out, u_mo_counts, u_mo_lengths, u_mo_codes, u_mo_weight, u_mo_over, u_mo_used, u_mo_row, .int mo_came, .ref h_mo_in, u_mo_at, u_mo_refused, u_mo_place, u_mo_readMany, u_mo_readSymbol, u_mo_readX, u_mo_readY, u_mo_readDiffers, u_mo_readWays])), (h_mo_in, .inl (c_mo_in, 2000, .inl mo_in))] := hD
    refine lv_aload_n hx hb d_Mo_feed_34 rfl (lv_at hl 0 rfl) ?_
    refine va_get (D := (dC, dI)) (ci := 1) (v := .int s_2) (C := R_Mo) (T := T_Mo) (N := 38) hx hb hB iw_Mo hown hK hP 0 rfl rfl 0 (by decide) (hB _ bw_873) (fun _ h9 => h9) rfl d_Mo_feed_35 ?_
    refine lv_if_le (tgt := 43) hx hb d_Mo_feed_38 (by decide) (fun c_1 => ?_) (fun c_1 => ?_)
    · have h := if_t h c_1
      refine lv_aload_n hx hb d_Mo_feed_43 rfl (lv_at hl 0 rfl) ?_
      refine va_get (D := (dC, dI)) (ci := 1) (v := .ref h_mo_in) (C := R_Mo) (T := T_Mo) (N := 38) hx hb hB iw_Mo hown hK hP 0 rfl rfl 28 (by decide) (hB _ bw_901) (fun _ h9 => h9) rfl d_Mo_feed_44 ?_
      refine lv_aload_n hx hb d_Mo_feed_47 rfl (lv_at hl 0 rfl) ?_
      refine va_get (D := (dC, dI)) (ci := 1) (v := .int mo_came) (C := R_Mo) (T := T_Mo) (N := 38) hx hb hB iw_Mo hown hK hP 0 rfl rfl 27 (by decide) (hB _ bw_900) (fun _ h9 => h9) rfl d_Mo_feed_48 ?_
      refine lv_iload_n hx hb d_Mo_feed_51 rfl (lv_at hl 1 rfl) ?_
      obtain ⟨hin, h⟩ := gq_e h
      refine va_iast hx hb hK hP hD hS 1 0 rfl rfl hin d_Mo_feed_52 (fun H locs hP hD hS => ?_)
      have hP : va_P (dC, dI) CL [(h_mo, .inr (1, [.int s_2, u_mo_width, u_mo_height, u_mo_kind, u_mo_symbols, u_mo_wide, u_mo_high, u_mo_dark, u_mo_instances, u_mo_symbolOf, u_mo_xs, u_mo_ys, u_mo_differs, u_mo_ways, u_mo_ordered, u_mo_page, u_mo_told, u_mo_keeps, u_mo_toldBytes, u_mo_out, u_mo_counts, u_mo_lengths, u_mo_codes, u_mo_weight, u_mo_over, u_mo_used, u_mo_row, .int mo_came, .ref h_mo_in, u_mo_at, u_mo_refused, u_mo_place, u_mo_readMany, u_mo_readSymbol, u_mo_readX, u_mo_readY, u_mo_readDiffers, u_mo_readWays])), (h_mo_in, .inl (c_mo_in, 2000, .inl (upd mo_in (mo_came).toNatClampNeg p0)))] H := hP
      have hD : va_D A [(h_mo, .inr (1, [.int s_2, u_mo_width, u_mo_height, u_mo_kind, u_mo_symbols, u_mo_wide, u_mo_high, u_mo_dark, u_mo_instances, u_mo_symbolOf, u_mo_xs, u_mo_ys, u_mo_differs, u_mo_ways, u_mo_ordered, u_mo_page, u_mo_told, u_mo_keeps, u_mo_toldBytes, u_mo_out, u_mo_counts, u_mo_lengths, u_mo_codes, u_mo_weight, u_mo_over, u_mo_used, u_mo_row, .int mo_came, .ref h_mo_in, u_mo_at, u_mo_refused, u_mo_place, u_mo_readMany, u_mo_readSymbol, u_mo_readX, u_mo_readY, u_mo_readDiffers, u_mo_readWays])), (h_mo_in, .inl (c_mo_in, 2000, .inl (upd mo_in (mo_came).toNatClampNeg p0)))] := hD
      refine lv_aload_n hx hb d_Mo_feed_53 rfl (lv_at hl 0 rfl) ?_
      refine lv_dup hx hb d_Mo_feed_54 rfl ?_
      refine va_get (D := (dC, dI)) (ci := 1) (v := .int mo_came) (C := R_Mo) (T := T_Mo) (N := 38) hx hb hB iw_Mo hown hK hP 0 rfl rfl 27 (by decide) (hB _ bw_900) (fun _ h9 => h9) rfl d_Mo_feed_55 ?_
      refine lv_iconst (v := 1) hx hb d_Mo_feed_58 (by decide) ?_
      refine lv_iadd hx hb d_Mo_feed_59 ?_
      refine lv_topi (fun came_3 e_came_3 => ?_)
      have h := nl_u e_came_3 h
      refine va_put (D := (dC, dI)) (ci := 1) (v := .int came_3) (ty := .int) (C := R_Mo) (T := T_Mo) (N := 38) hx hb hB iw_Mo ty_Mo tk_Mo n_Mo hown hK hP hD hS 0 rfl rfl 27 (by decide) (hB _ bw_900) (fun _ h9 => h9) rfl (by decide +kernel) rfl rfl (Nat.le_of_ble_eq_true rfl) d_Mo_feed_60 (fun H locs hP hD hS => ?_)
      have hP : va_P (dC, dI) CL [(h_mo, .inr (1, [.int s_2, u_mo_width, u_mo_height, u_mo_kind, u_mo_symbols, u_mo_wide, u_mo_high, u_mo_dark, u_mo_instances, u_mo_symbolOf, u_mo_xs, u_mo_ys, u_mo_differs, u_mo_ways, u_mo_ordered, u_mo_page, u_mo_told, u_mo_keeps, u_mo_toldBytes, u_mo_out, u_mo_counts, u_mo_lengths, u_mo_codes, u_mo_weight, u_mo_over, u_mo_used, u_mo_row, .int came_3, .ref h_mo_in, u_mo_at, u_mo_refused, u_mo_place, u_mo_readMany, u_mo_readSymbol, u_mo_readX, u_mo_readY, u_mo_readDiffers, u_mo_readWays])), (h_mo_in, .inl (c_mo_in, 2000, .inl (upd mo_in (mo_came).toNatClampNeg p0)))] H := hP
      have hD : va_D A [(h_mo, .inr (1, [.int s_2, u_mo_width, u_mo_height, u_mo_kind, u_mo_symbols, u_mo_wide, u_mo_high, u_mo_dark, u_mo_instances, u_mo_symbolOf, u_mo_xs, u_mo_ys, u_mo_differs, u_mo_ways, u_mo_ordered, u_mo_page, u_mo_told, u_mo_keeps, u_mo_toldBytes, u_mo_out, u_mo_counts, u_mo_lengths, u_mo_codes, u_mo_weight, u_mo_over, u_mo_used, u_mo_row, .int came_3, .ref h_mo_in, u_mo_at, u_mo_refused, u_mo_place, u_mo_readMany, u_mo_readSymbol, u_mo_readX, u_mo_readY, u_mo_readDiffers, u_mo_readWays])), (h_mo_in, .inl (c_mo_in, 2000, .inl (upd mo_in (mo_came).toNatClampNeg p0)))] := hD
      refine lv_aload_n hx hb d_Mo_feed_63 rfl (lv_at hl 0 rfl) ?_
      refine va_get (D := (dC, dI)) (ci := 1) (v := .int came_3) (C := R_Mo) (T := T_Mo) (N := 38) hx hb hB iw_Mo hown hK hP 0 rfl rfl 27 (by decide) (hB _ bw_900) (fun _ h9 => h9) rfl d_Mo_feed_64 ?_
      subst eQ
      exact W.iret (v := came_3) hx hb hr (fun t ht hW => ⟨⟨_, (s_2, came_3, (upd mo_in (mo_came).toNatClampNeg p0)), rfl, Option.some.inj h, by rw [ht]; exact hP, va_K.moved hW.alike hK, hD⟩, hS.F ht⟩) hS.2.2 d_Mo_feed_67
    · have h := if_f h c_1
      refine lv_iconst (v := 0) hx hb d_Mo_feed_41 (by decide) ?_
      subst eQ
      exact W.iret (v := (0 : Int32)) hx hb hr (fun t ht hW => ⟨⟨_, (s_2, mo_came, mo_in), rfl, Option.some.inj h, by rw [ht]; exact hP, va_K.moved hW.alike hK, hD⟩, hS.F ht⟩) hS.2.2 d_Mo_feed_42
  refine lv_if_ne (tgt := 16) hx hb d_Mo_feed_9 (by decide) (fun c_2 => ?_) (fun c_2 => ?_)
  · have h := if_f h c_2
    refine lv_aload_n hx hb d_Mo_feed_16 rfl (lv_at hl 0 rfl) ?_
    refine va_get (D := (dC, dI)) (ci := 1) (v := .int mo_came) (C := R_Mo) (T := T_Mo) (N := 38) hx hb hB iw_Mo hown hK hP 0 rfl rfl 27 (by decide) (hB _ bw_900) (fun _ h9 => h9) rfl d_Mo_feed_17 ?_
    refine lv_sipush (v := 2000) hx hb d_Mo_feed_20 (by decide) ?_
    refine lv_icmp_ne (tgt := 30) hx hb d_Mo_feed_23 (by decide) (fun c_3 => ?_) (fun c_3 => ?_)
    · have h := if_f h c_3
      refine lv_iconst (v := 0) hx hb d_Mo_feed_30 (by decide) ?_
      exact w_j31 _ _ _ _ h hP hD hS hl
    · have h := if_t h c_3
      refine lv_iconst (v := 2) hx hb d_Mo_feed_26 (by decide) ?_
      refine lv_goto (tgt := 31) hx hb d_Mo_feed_27 (by decide) ?_
      exact w_j31 _ _ _ _ h hP hD hS hl
  · have h := if_t h c_2
    refine lv_iconst (v := 1) hx hb d_Mo_feed_12 (by decide) ?_
    refine lv_goto (tgt := 31) hx hb d_Mo_feed_13 (by decide) ?_
    exact w_j31 _ _ _ _ h hP hD hS hl
set_option maxHeartbeats 4000000 in
set_option maxRecDepth 100000 in
theorem c_Mo_pass (l : Launch) (dC : Nat → ClassId) (dI : Nat → Nat → Nat) (h_mo : Nat) (h_mo_in : Nat) (h_mo_out : Nat) (c_mo_in : ClassId) (c_mo_out : ClassId) (u_mo_width : Value) (u_mo_height : Value) (u_mo_kind : Value) (u_mo_symbols : Value) (u_mo_wide : Value) (u_mo_high : Value) (u_mo_dark : Value) (u_mo_instances : Value) (u_mo_symbolOf : Value) (u_mo_xs : Value) (u_mo_ys : Value) (u_mo_differs : Value) (u_mo_ways : Value) (u_mo_ordered : Value) (u_mo_page : Value) (u_mo_told : Value) (u_mo_keeps : Value) (u_mo_counts : Value) (u_mo_lengths : Value) (u_mo_codes : Value) (u_mo_weight : Value) (u_mo_over : Value) (u_mo_used : Value) (u_mo_row : Value) (u_mo_at : Value) (u_mo_refused : Value) (u_mo_place : Value) (u_mo_readMany : Value) (u_mo_readSymbol : Value) (u_mo_readX : Value) (u_mo_readY : Value) (u_mo_readDiffers : Value) (u_mo_readWays : Value) (mo_thrown : Int32) (mo_toldBytes : Int32) (mo_came : Int32) (mo_in : (Nat → Int32)) (mo_out : (Nat → Int32)) (sz : Nat) (o : Int32 × Int32 × Int32 × (Nat → Int32)) (hf : f_Mo_pass mo_toldBytes mo_came mo_in mo_out = some o) :
    Met l y_Mo_pass ws_Mo_pass { frames := 0, cells := 0, slots := 0, locals := 0 } (va_Pc [.ref h_mo] (PcM (dC, dI) [(h_mo, .inr (1, [.int mo_thrown, u_mo_width, u_mo_height, u_mo_kind, u_mo_symbols, u_mo_wide, u_mo_high, u_mo_dark, u_mo_instances, u_mo_symbolOf, u_mo_xs, u_mo_ys, u_mo_differs, u_mo_ways, u_mo_ordered, u_mo_page, u_mo_told, u_mo_keeps, .int mo_toldBytes, .ref h_mo_out, u_mo_counts, u_mo_lengths, u_mo_codes, u_mo_weight, u_mo_over, u_mo_used, u_mo_row, .int mo_came, .ref h_mo_in, u_mo_at, u_mo_refused, u_mo_place, u_mo_readMany, u_mo_readSymbol, u_mo_readX, u_mo_readY, u_mo_readDiffers, u_mo_readWays])), (h_mo_in, .inl (c_mo_in, 2000, .inl mo_in)), (h_mo_out, .inl (c_mo_out, 2000, .inl mo_out))] [(c_mo_in, .int), (c_mo_out, .int)] sz))
      (va_Qi (fun (r : Int32) (u : Int32 × Int32 × (Nat → Int32)) => (r, u) = o) (fun u t => va_P (dC, dI) CL [(h_mo, .inr (1, [.int (u.1), u_mo_width, u_mo_height, u_mo_kind, u_mo_symbols, u_mo_wide, u_mo_high, u_mo_dark, u_mo_instances, u_mo_symbolOf, u_mo_xs, u_mo_ys, u_mo_differs, u_mo_ways, u_mo_ordered, u_mo_page, u_mo_told, u_mo_keeps, .int mo_toldBytes, .ref h_mo_out, u_mo_counts, u_mo_lengths, u_mo_codes, u_mo_weight, u_mo_over, u_mo_used, u_mo_row, .int (u.2.1), .ref h_mo_in, u_mo_at, u_mo_refused, u_mo_place, u_mo_readMany, u_mo_readSymbol, u_mo_readX, u_mo_readY, u_mo_readDiffers, u_mo_readWays])), (h_mo_in, .inl (c_mo_in, 2000, .inl (u.2.2))), (h_mo_out, .inl (c_mo_out, 2000, .inl mo_out))] t.heap ∧ va_K (dC, dI) CL [(c_mo_in, .int), (c_mo_out, .int)] t ∧ va_D (va_A [(h_mo, .inr (1, [.int mo_thrown, u_mo_width, u_mo_height, u_mo_kind, u_mo_symbols, u_mo_wide, u_mo_high, u_mo_dark, u_mo_instances, u_mo_symbolOf, u_mo_xs, u_mo_ys, u_mo_differs, u_mo_ways, u_mo_ordered, u_mo_page, u_mo_told, u_mo_keeps, .int mo_toldBytes, .ref h_mo_out, u_mo_counts, u_mo_lengths, u_mo_codes, u_mo_weight, u_mo_over, u_mo_used, u_mo_row, .int mo_came, .ref h_mo_in, u_mo_at, u_mo_refused, u_mo_place, u_mo_readMany, u_mo_readSymbol, u_mo_readX, u_mo_readY, u_mo_readDiffers, u_mo_readWays])), (h_mo_in, .inl (c_mo_in, 2000, .inl mo_in)), (h_mo_out, .inl (c_mo_out, 2000, .inl mo_out))] sz) [(h_mo, .inr (1, [.int (u.1), u_mo_width, u_mo_height, u_mo_kind, u_mo_symbols, u_mo_wide, u_mo_high, u_mo_dark, u_mo_instances, u_mo_symbolOf, u_mo_xs, u_mo_ys, u_mo_differs, u_mo_ways, u_mo_ordered, u_mo_page, u_mo_told, u_mo_keeps, .int mo_toldBytes, .ref h_mo_out, u_mo_counts, u_mo_lengths, u_mo_codes, u_mo_weight, u_mo_over, u_mo_used, u_mo_row, .int (u.2.1), .ref h_mo_in, u_mo_at, u_mo_refused, u_mo_place, u_mo_readMany, u_mo_readSymbol, u_mo_readX, u_mo_readY, u_mo_readDiffers, u_mo_readWays])), (h_mo_in, .inl (c_mo_in, 2000, .inl (u.2.2))), (h_mo_out, .inl (c_mo_out, 2000, .inl mo_out))]) (va_A [(h_mo, .inr (1, [.int mo_thrown, u_mo_width, u_mo_height, u_mo_kind, u_mo_symbols, u_mo_wide, u_mo_high, u_mo_dark, u_mo_instances, u_mo_symbolOf, u_mo_xs, u_mo_ys, u_mo_differs, u_mo_ways, u_mo_ordered, u_mo_page, u_mo_told, u_mo_keeps, .int mo_toldBytes, .ref h_mo_out, u_mo_counts, u_mo_lengths, u_mo_codes, u_mo_weight, u_mo_over, u_mo_used, u_mo_row, .int mo_came, .ref h_mo_in, u_mo_at, u_mo_refused, u_mo_place, u_mo_readMany, u_mo_readSymbol, u_mo_readX, u_mo_readY, u_mo_readDiffers, u_mo_readWays])), (h_mo_in, .inl (c_mo_in, 2000, .inl mo_in)), (h_mo_out, .inl (c_mo_out, 2000, .inl mo_out))] sz)) 0 0 (va_A [(h_mo, .inr (1, [.int mo_thrown, u_mo_width, u_mo_height, u_mo_kind, u_mo_symbols, u_mo_wide, u_mo_high, u_mo_dark, u_mo_instances, u_mo_symbolOf, u_mo_xs, u_mo_ys, u_mo_differs, u_mo_ways, u_mo_ordered, u_mo_page, u_mo_told, u_mo_keeps, .int mo_toldBytes, .ref h_mo_out, u_mo_counts, u_mo_lengths, u_mo_codes, u_mo_weight, u_mo_over, u_mo_used, u_mo_row, .int mo_came, .ref h_mo_in, u_mo_at, u_mo_refused, u_mo_place, u_mo_readMany, u_mo_readSymbol, u_mo_readX, u_mo_readY, u_mo_readDiffers, u_mo_readWays])), (h_mo_in, .inl (c_mo_in, 2000, .inl mo_in)), (h_mo_out, .inl (c_mo_out, 2000, .inl mo_out))] sz) := by
  refine Met.ofW (cc := b_Mo_pass) (maxL := 2) (ret := (some .int)) (by decide) rfl ?_
  intro p e s m args below meth c s₁ B hml hv
  obtain ⟨rfl, hsz, hP, hK, hD0, hnw⟩ := hv
  have hx := B.exec
  have hb := B.bytes
  have hr := B.returns
  have hts := atoms_spec (ws := ws_Mo_pass) B.pre
  have hB : ∀ w ∈ BIG, w.before _ s = true := fun w h => hts w (List.mem_cons_of_mem _ h)
  have hown : s.vm.findClass R_Mo = some m.cls := findClass_of_methodNamed B.named
  have hlocks := B.notSynchronized
  subst hsz
  have hD := hD0.self (sz := s.heap.size)
  refine W_Q (fun Q9 eQ => ?_)
  generalize hAe : va_A [(h_mo, .inr (1, [.int mo_thrown, u_mo_width, u_mo_height, u_mo_kind, u_mo_symbols, u_mo_wide, u_mo_high, u_mo_dark, u_mo_instances, u_mo_symbolOf, u_mo_xs, u_mo_ys, u_mo_differs, u_mo_ways, u_mo_ordered, u_mo_page, u_mo_told, u_mo_keeps, .int mo_toldBytes, .ref h_mo_out, u_mo_counts, u_mo_lengths, u_mo_codes, u_mo_weight, u_mo_over, u_mo_used, u_mo_row, .int mo_came, .ref h_mo_in, u_mo_at, u_mo_refused, u_mo_place, u_mo_readMany, u_mo_readSymbol, u_mo_readX, u_mo_readY, u_mo_readDiffers, u_mo_readWays])), (h_mo_in, .inl (c_mo_in, 2000, .inl mo_in)), (h_mo_out, .inl (c_mo_out, 2000, .inl mo_out))] s.heap.size = A at hD eQ
  have hA : ∀ q : Nat, s.heap.size ≤ q → A q := fun q h => by rw [← hAe]; exact Or.inr h
  have hS : va_S A s.heap s.heap [] := va_S.rf
  have hl := lv_entry ([.ref h_mo]) (n := 2) (Nat.le_of_ble_eq_true rfl)
  rw [lg_entry_eq]
  generalize (lg_sl ([.ref h_mo]) ++ List.replicate (2 - (lg_sl ([.ref h_mo])).length) Slot.unset).toArray = ls at hl ⊢
  have hl : lv_has ls 2 [(0, .ref h_mo)] := hl
  have h := hf
  unfold f_Mo_pass at h
  refine lv_aload_n hx hb d_Mo_pass_0 rfl (lv_at hl 0 rfl) ?_
  refine lv_aload_n hx hb d_Mo_pass_1 rfl (lv_at hl 0 rfl) ?_
  refine va_get (D := (dC, dI)) (ci := 1) (v := .int mo_came) (C := R_Mo) (T := T_Mo) (N := 38) hx hb hB iw_Mo hown hK hP 0 rfl rfl 27 (by decide) (hB _ bw_900) (fun _ h9 => h9) rfl d_Mo_pass_2 ?_
  refine lv_aload_n hx hb d_Mo_pass_5 rfl (lv_at hl 0 rfl) ?_
  refine va_get (D := (dC, dI)) (ci := 1) (v := .int mo_toldBytes) (C := R_Mo) (T := T_Mo) (N := 38) hx hb hB iw_Mo hown hK hP 0 rfl rfl 18 (by decide) (hB _ bw_891) (fun _ h9 => h9) rfl d_Mo_pass_6 ?_
  refine lv_iadd hx hb d_Mo_pass_9 ?_
  refine lv_sipush (v := 2000) hx hb d_Mo_pass_10 (by decide) ?_
  obtain ⟨j21, e_j21, h⟩ := jn_e h
  have w_j21 : ∀ (s_1 : Int32) (H : Heap) (locs : List Loc) (ls : Array Slot), j21 s_1 = some o → va_P (dC, dI) CL [(h_mo, .inr (1, [.int mo_thrown, u_mo_width, u_mo_height, u_mo_kind, u_mo_symbols, u_mo_wide, u_mo_high, u_mo_dark, u_mo_instances, u_mo_symbolOf, u_mo_xs, u_mo_ys, u_mo_differs, u_mo_ways, u_mo_ordered, u_mo_page, u_mo_told, u_mo_keeps, .int mo_toldBytes, .ref h_mo_out, u_mo_counts, u_mo_lengths, u_mo_codes, u_mo_weight, u_mo_over, u_mo_used, u_mo_row, .int mo_came, .ref h_mo_in, u_mo_at, u_mo_refused, u_mo_place, u_mo_readMany, u_mo_readSymbol, u_mo_readX, u_mo_readY, u_mo_readDiffers, u_mo_readWays])), (h_mo_in, .inl (c_mo_in, 2000, .inl mo_in)), (h_mo_out, .inl (c_mo_out, 2000, .inl mo_out))] H → va_D A [(h_mo, .inr (1, [.int mo_thrown, u_mo_width, u_mo_height, u_mo_kind, u_mo_symbols, u_mo_wide, u_mo_high, u_mo_dark, u_mo_instances, u_mo_symbolOf, u_mo_xs, u_mo_ys, u_mo_differs, u_mo_ways, u_mo_ordered, u_mo_page, u_mo_told, u_mo_keeps, .int mo_toldBytes, .ref h_mo_out, u_mo_counts, u_mo_lengths, u_mo_codes, u_mo_weight, u_mo_over, u_mo_used, u_mo_row, .int mo_came, .ref h_mo_in, u_mo_at, u_mo_refused, u_mo_place, u_mo_readMany, u_mo_readSymbol, u_mo_readX, u_mo_readY, u_mo_readDiffers, u_mo_readWays])), (h_mo_in, .inl (c_mo_in, 2000, .inl mo_in)), (h_mo_out, .inl (c_mo_out, 2000, .inl mo_out))] → va_S A s.heap H locs → lv_has ls 2 [(0, .ref h_mo)] → W p l e ({ frames := 0, cells := 0, slots := 0, locals := 0 } : Room) s m ([.ref h_mo] : List Value).toArray below meth c H locs 0 0 Q9 (F0 m 21 ls [.int s_1, .ref h_mo]) := by
    intro s_1 H locs ls h hP hD hS hl
    rw [e_j21] at h
    refine va_put (D := (dC, dI)) (ci := 1) (v := .int s_1) (ty := .int) (C := R_Mo) (T := T_Mo) (N := 38) hx hb hB iw_Mo ty_Mo tk_Mo n_Mo hown hK hP hD hS 0 rfl rfl 0 (by decide) (hB _ bw_873) (fun _ h9 => h9) rfl (by decide +kernel) rfl rfl (Nat.le_of_ble_eq_true rfl) d_Mo_pass_21 (fun H locs hP hD hS => ?_)
    have hP : va_P (dC, dI) CL [(h_mo, .inr (1, [.int s_1, u_mo_width, u_mo_height, u_mo_kind, u_mo_symbols, u_mo_wide, u_mo_high, u_mo_dark, u_mo_instances, u_mo_symbolOf, u_mo_xs, u_mo_ys, u_mo_differs, u_mo_ways, u_mo_ordered, u_mo_page, u_mo_told, u_mo_keeps, .int mo_toldBytes, .ref h_mo_out, u_mo_counts, u_mo_lengths, u_mo_codes, u_mo_weight, u_mo_over, u_mo_used, u_mo_row, .int mo_came, .ref h_mo_in, u_mo_at, u_mo_refused, u_mo_place, u_mo_readMany, u_mo_readSymbol, u_mo_readX, u_mo_readY, u_mo_readDiffers, u_mo_readWays])), (h_mo_in, .inl (c_mo_in, 2000, .inl mo_in)), (h_mo_out, .inl (c_mo_out, 2000, .inl mo_out))] H := hP
    have hD : va_D A [(h_mo, .inr (1, [.int s_1, u_mo_width, u_mo_height, u_mo_kind, u_mo_symbols, u_mo_wide, u_mo_high, u_mo_dark, u_mo_instances, u_mo_symbolOf, u_mo_xs, u_mo_ys, u_mo_differs, u_mo_ways, u_mo_ordered, u_mo_page, u_mo_told, u_mo_keeps, .int mo_toldBytes, .ref h_mo_out, u_mo_counts, u_mo_lengths, u_mo_codes, u_mo_weight, u_mo_over, u_mo_used, u_mo_row, .int mo_came, .ref h_mo_in, u_mo_at, u_mo_refused, u_mo_place, u_mo_readMany, u_mo_readSymbol, u_mo_readX, u_mo_readY, u_mo_readDiffers, u_mo_readWays])), (h_mo_in, .inl (c_mo_in, 2000, .inl mo_in)), (h_mo_out, .inl (c_mo_out, 2000, .inl mo_out))] := hD
    refine lv_aload_n hx hb d_Mo_pass_24 rfl (lv_at hl 0 rfl) ?_
    refine va_get (D := (dC, dI)) (ci := 1) (v := .int s_1) (C := R_Mo) (T := T_Mo) (N := 38) hx hb hB iw_Mo hown hK hP 0 rfl rfl 0 (by decide) (hB _ bw_873) (fun _ h9 => h9) rfl d_Mo_pass_25 ?_
    refine lv_if_le (tgt := 33) hx hb d_Mo_pass_28 (by decide) (fun c_1 => ?_) (fun c_1 => ?_)
    · have h := if_t h c_1
      refine lv_iconst (v := 0) hx hb d_Mo_pass_33 (by decide) ?_
      refine lv_istore_n (lv' := [(1, .int (0 : Int32)), (0, .ref h_mo)]) hx hb d_Mo_pass_34 rfl hl (by decide) rfl (fun ls hl => ?_)
      obtain ⟨k66, e_k66, h⟩ := abs_k (P := fun k9 => lp (f_Mo_pass_L35 mo_toldBytes mo_out mo_came k9) FU ((0 : Int32), mo_in) = some o) h
      have w_k66 : ∀ (mo_in_4 : (Nat → Int32)) (H : Heap) (locs : List Loc) (ls : Array Slot), k66 mo_in_4 = some o → va_P (dC, dI) CL [(h_mo, .inr (1, [.int s_1, u_mo_width, u_mo_height, u_mo_kind, u_mo_symbols, u_mo_wide, u_mo_high, u_mo_dark, u_mo_instances, u_mo_symbolOf, u_mo_xs, u_mo_ys, u_mo_differs, u_mo_ways, u_mo_ordered, u_mo_page, u_mo_told, u_mo_keeps, .int mo_toldBytes, .ref h_mo_out, u_mo_counts, u_mo_lengths, u_mo_codes, u_mo_weight, u_mo_over, u_mo_used, u_mo_row, .int mo_came, .ref h_mo_in, u_mo_at, u_mo_refused, u_mo_place, u_mo_readMany, u_mo_readSymbol, u_mo_readX, u_mo_readY, u_mo_readDiffers, u_mo_readWays])), (h_mo_in, .inl (c_mo_in, 2000, .inl mo_in_4)), (h_mo_out, .inl (c_mo_out, 2000, .inl mo_out))] H → va_D A [(h_mo, .inr (1, [.int s_1, u_mo_width, u_mo_height, u_mo_kind, u_mo_symbols, u_mo_wide, u_mo_high, u_mo_dark, u_mo_instances, u_mo_symbolOf, u_mo_xs, u_mo_ys, u_mo_differs, u_mo_ways, u_mo_ordered, u_mo_page, u_mo_told, u_mo_keeps, .int mo_toldBytes, .ref h_mo_out, u_mo_counts, u_mo_lengths, u_mo_codes, u_mo_weight, u_mo_over, u_mo_used, u_mo_row, .int mo_came, .ref h_mo_in, u_mo_at, u_mo_refused, u_mo_place, u_mo_readMany, u_mo_readSymbol, u_mo_readX, u_mo_readY, u_mo_readDiffers, u_mo_readWays])), (h_mo_in, .inl (c_mo_in, 2000, .inl mo_in_4)), (h_mo_out, .inl (c_mo_out, 2000, .inl mo_out))] → va_S A s.heap H locs → lv_has ls 2 [(0, .ref h_mo)] → W p l e ({ frames := 0, cells := 0, slots := 0, locals := 0 } : Room) s m ([.ref h_mo] : List Value).toArray below meth c H locs 0 0 Q9 (F0 m 66 ls []) := by
        intro mo_in_4 H locs ls h hP hD hS hl
        rw [e_k66] at h
        refine lv_aload_n hx hb d_Mo_pass_66 rfl (lv_at hl 0 rfl) ?_
        refine lv_aload_n hx hb d_Mo_pass_67 rfl (lv_at hl 0 rfl) ?_
        refine va_get (D := (dC, dI)) (ci := 1) (v := .int mo_came) (C := R_Mo) (T := T_Mo) (N := 38) hx hb hB iw_Mo hown hK hP 0 rfl rfl 27 (by decide) (hB _ bw_900) (fun _ h9 => h9) rfl d_Mo_pass_68 ?_
        refine lv_aload_n hx hb d_Mo_pass_71 rfl (lv_at hl 0 rfl) ?_
        refine va_get (D := (dC, dI)) (ci := 1) (v := .int mo_toldBytes) (C := R_Mo) (T := T_Mo) (N := 38) hx hb hB iw_Mo hown hK hP 0 rfl rfl 18 (by decide) (hB _ bw_891) (fun _ h9 => h9) rfl d_Mo_pass_72 ?_
        refine lv_iadd hx hb d_Mo_pass_75 ?_
        refine lv_topi (fun came_7 e_came_7 => ?_)
        have h := nl_u e_came_7 h
        refine va_put (D := (dC, dI)) (ci := 1) (v := .int came_7) (ty := .int) (C := R_Mo) (T := T_Mo) (N := 38) hx hb hB iw_Mo ty_Mo tk_Mo n_Mo hown hK hP hD hS 0 rfl rfl 27 (by decide) (hB _ bw_900) (fun _ h9 => h9) rfl (by decide +kernel) rfl rfl (Nat.le_of_ble_eq_true rfl) d_Mo_pass_76 (fun H locs hP hD hS => ?_)
        have hP : va_P (dC, dI) CL [(h_mo, .inr (1, [.int s_1, u_mo_width, u_mo_height, u_mo_kind, u_mo_symbols, u_mo_wide, u_mo_high, u_mo_dark, u_mo_instances, u_mo_symbolOf, u_mo_xs, u_mo_ys, u_mo_differs, u_mo_ways, u_mo_ordered, u_mo_page, u_mo_told, u_mo_keeps, .int mo_toldBytes, .ref h_mo_out, u_mo_counts, u_mo_lengths, u_mo_codes, u_mo_weight, u_mo_over, u_mo_used, u_mo_row, .int came_7, .ref h_mo_in, u_mo_at, u_mo_refused, u_mo_place, u_mo_readMany, u_mo_readSymbol, u_mo_readX, u_mo_readY, u_mo_readDiffers, u_mo_readWays])), (h_mo_in, .inl (c_mo_in, 2000, .inl mo_in_4)), (h_mo_out, .inl (c_mo_out, 2000, .inl mo_out))] H := hP
        have hD : va_D A [(h_mo, .inr (1, [.int s_1, u_mo_width, u_mo_height, u_mo_kind, u_mo_symbols, u_mo_wide, u_mo_high, u_mo_dark, u_mo_instances, u_mo_symbolOf, u_mo_xs, u_mo_ys, u_mo_differs, u_mo_ways, u_mo_ordered, u_mo_page, u_mo_told, u_mo_keeps, .int mo_toldBytes, .ref h_mo_out, u_mo_counts, u_mo_lengths, u_mo_codes, u_mo_weight, u_mo_over, u_mo_used, u_mo_row, .int came_7, .ref h_mo_in, u_mo_at, u_mo_refused, u_mo_place, u_mo_readMany, u_mo_readSymbol, u_mo_readX, u_mo_readY, u_mo_readDiffers, u_mo_readWays])), (h_mo_in, .inl (c_mo_in, 2000, .inl mo_in_4)), (h_mo_out, .inl (c_mo_out, 2000, .inl mo_out))] := hD
        refine lv_aload_n hx hb d_Mo_pass_79 rfl (lv_at hl 0 rfl) ?_
        refine va_get (D := (dC, dI)) (ci := 1) (v := .int came_7) (C := R_Mo) (T := T_Mo) (N := 38) hx hb hB iw_Mo hown hK hP 0 rfl rfl 27 (by decide) (hB _ bw_900) (fun _ h9 => h9) rfl d_Mo_pass_80 ?_
        subst eQ
        exact W.iret (v := came_7) hx hb hr (fun t ht hW => ⟨⟨_, (s_1, came_7, mo_in_4), rfl, Option.some.inj h, by rw [ht]; exact hP, va_K.moved hW.alike hK, hD⟩, hS.F ht⟩) hS.2.2 d_Mo_pass_83
      have w_self35 : ∀ n9 : Nat, ∀ (v1_2 : Int32) (mo_in_3 : (Nat → Int32)) (H : Heap) (locs : List Loc) (ls : Array Slot), lp (f_Mo_pass_L35 mo_toldBytes mo_out mo_came k66) n9 (v1_2, mo_in_3) = some o → va_P (dC, dI) CL [(h_mo, .inr (1, [.int s_1, u_mo_width, u_mo_height, u_mo_kind, u_mo_symbols, u_mo_wide, u_mo_high, u_mo_dark, u_mo_instances, u_mo_symbolOf, u_mo_xs, u_mo_ys, u_mo_differs, u_mo_ways, u_mo_ordered, u_mo_page, u_mo_told, u_mo_keeps, .int mo_toldBytes, .ref h_mo_out, u_mo_counts, u_mo_lengths, u_mo_codes, u_mo_weight, u_mo_over, u_mo_used, u_mo_row, .int mo_came, .ref h_mo_in, u_mo_at, u_mo_refused, u_mo_place, u_mo_readMany, u_mo_readSymbol, u_mo_readX, u_mo_readY, u_mo_readDiffers, u_mo_readWays])), (h_mo_in, .inl (c_mo_in, 2000, .inl mo_in_3)), (h_mo_out, .inl (c_mo_out, 2000, .inl mo_out))] H → va_D A [(h_mo, .inr (1, [.int s_1, u_mo_width, u_mo_height, u_mo_kind, u_mo_symbols, u_mo_wide, u_mo_high, u_mo_dark, u_mo_instances, u_mo_symbolOf, u_mo_xs, u_mo_ys, u_mo_differs, u_mo_ways, u_mo_ordered, u_mo_page, u_mo_told, u_mo_keeps, .int mo_toldBytes, .ref h_mo_out, u_mo_counts, u_mo_lengths, u_mo_codes, u_mo_weight, u_mo_over, u_mo_used, u_mo_row, .int mo_came, .ref h_mo_in, u_mo_at, u_mo_refused, u_mo_place, u_mo_readMany, u_mo_readSymbol, u_mo_readX, u_mo_readY, u_mo_readDiffers, u_mo_readWays])), (h_mo_in, .inl (c_mo_in, 2000, .inl mo_in_3)), (h_mo_out, .inl (c_mo_out, 2000, .inl mo_out))] → va_S A s.heap H locs → lv_has ls 2 [(1, .int v1_2), (0, .ref h_mo)] → W p l e ({ frames := 0, cells := 0, slots := 0, locals := 0 } : Room) s m ([.ref h_mo] : List Value).toArray below meth c H locs 0 0 Q9 (F0 m 35 ls []) := by
        intro n9
        induction n9 with
        | zero =>
          intro v1_2 mo_in_3 H locs ls h hP hD hS hl
          exact absurd h (by simp [lp])
        | succ n9 ih_self35 =>
          intro v1_2 mo_in_3 H locs ls h hP hD hS hl
          obtain ⟨self35, e_self35, h⟩ := abs_k (P := fun z9 => f_Mo_pass_L35 mo_toldBytes mo_out mo_came k66 z9 (v1_2, mo_in_3) = some o) (lp_e h)
          rw [← e_self35] at ih_self35
          unfold f_Mo_pass_L35 at h
          try dsimp only at h
          refine lv_iload_n hx hb d_Mo_pass_35 rfl (lv_at hl 0 rfl) ?_
          refine lv_aload_n hx hb d_Mo_pass_36 rfl (lv_at hl 1 rfl) ?_
          refine va_get (D := (dC, dI)) (ci := 1) (v := .int mo_toldBytes) (C := R_Mo) (T := T_Mo) (N := 38) hx hb hB iw_Mo hown hK hP 0 rfl rfl 18 (by decide) (hB _ bw_891) (fun _ h9 => h9) rfl d_Mo_pass_37 ?_
          refine lv_icmp_ge (tgt := 66) hx hb d_Mo_pass_40 (by decide) (fun c_2 => ?_) (fun c_2 => ?_)
          · have h := if_t h c_2
            exact w_k66 _ _ _ _ h hP hD hS (lv_sub hl [1] rfl)
          · have h := if_f h c_2
            refine lv_aload_n hx hb d_Mo_pass_43 rfl (lv_at hl 1 rfl) ?_
            refine va_get (D := (dC, dI)) (ci := 1) (v := .ref h_mo_in) (C := R_Mo) (T := T_Mo) (N := 38) hx hb hB iw_Mo hown hK hP 0 rfl rfl 28 (by decide) (hB _ bw_901) (fun _ h9 => h9) rfl d_Mo_pass_44 ?_
            refine lv_aload_n hx hb d_Mo_pass_47 rfl (lv_at hl 1 rfl) ?_
            refine va_get (D := (dC, dI)) (ci := 1) (v := .int mo_came) (C := R_Mo) (T := T_Mo) (N := 38) hx hb hB iw_Mo hown hK hP 0 rfl rfl 27 (by decide) (hB _ bw_900) (fun _ h9 => h9) rfl d_Mo_pass_48 ?_
            refine lv_iload_n hx hb d_Mo_pass_51 rfl (lv_at hl 0 rfl) ?_
            refine lv_iadd hx hb d_Mo_pass_52 ?_
            refine lv_aload_n hx hb d_Mo_pass_53 rfl (lv_at hl 1 rfl) ?_
            refine va_get (D := (dC, dI)) (ci := 1) (v := .ref h_mo_out) (C := R_Mo) (T := T_Mo) (N := 38) hx hb hB iw_Mo hown hK hP 0 rfl rfl 19 (by decide) (hB _ bw_892) (fun _ h9 => h9) rfl d_Mo_pass_54 ?_
            refine lv_iload_n hx hb d_Mo_pass_57 rfl (lv_at hl 0 rfl) ?_
            obtain ⟨hin, h⟩ := gq_e h
            refine va_iald hx hb hK hP 2 1 rfl rfl hin d_Mo_pass_58 ?_
            refine lv_topi (fun w_5 e_w_5 => ?_)
            have h := nl_u e_w_5 h
            obtain ⟨hin, h⟩ := gq_e h
            refine va_iast hx hb hK hP hD hS 1 0 rfl rfl hin d_Mo_pass_59 (fun H locs hP hD hS => ?_)
            have hP : va_P (dC, dI) CL [(h_mo, .inr (1, [.int s_1, u_mo_width, u_mo_height, u_mo_kind, u_mo_symbols, u_mo_wide, u_mo_high, u_mo_dark, u_mo_instances, u_mo_symbolOf, u_mo_xs, u_mo_ys, u_mo_differs, u_mo_ways, u_mo_ordered, u_mo_page, u_mo_told, u_mo_keeps, .int mo_toldBytes, .ref h_mo_out, u_mo_counts, u_mo_lengths, u_mo_codes, u_mo_weight, u_mo_over, u_mo_used, u_mo_row, .int mo_came, .ref h_mo_in, u_mo_at, u_mo_refused, u_mo_place, u_mo_readMany, u_mo_readSymbol, u_mo_readX, u_mo_readY, u_mo_readDiffers, u_mo_readWays])), (h_mo_in, .inl (c_mo_in, 2000, .inl (upd mo_in_3 ((mo_came + v1_2)).toNatClampNeg w_5))), (h_mo_out, .inl (c_mo_out, 2000, .inl mo_out))] H := hP
            have hD : va_D A [(h_mo, .inr (1, [.int s_1, u_mo_width, u_mo_height, u_mo_kind, u_mo_symbols, u_mo_wide, u_mo_high, u_mo_dark, u_mo_instances, u_mo_symbolOf, u_mo_xs, u_mo_ys, u_mo_differs, u_mo_ways, u_mo_ordered, u_mo_page, u_mo_told, u_mo_keeps, .int mo_toldBytes, .ref h_mo_out, u_mo_counts, u_mo_lengths, u_mo_codes, u_mo_weight, u_mo_over, u_mo_used, u_mo_row, .int mo_came, .ref h_mo_in, u_mo_at, u_mo_refused, u_mo_place, u_mo_readMany, u_mo_readSymbol, u_mo_readX, u_mo_readY, u_mo_readDiffers, u_mo_readWays])), (h_mo_in, .inl (c_mo_in, 2000, .inl (upd mo_in_3 ((mo_came + v1_2)).toNatClampNeg w_5))), (h_mo_out, .inl (c_mo_out, 2000, .inl mo_out))] := hD
            obtain ⟨v1_6, e_v1_6⟩ : ∃ y9 : Int32, y9 = (v1_2 + (1 : Int32)) := ⟨_, rfl⟩
            have h := nl_u e_v1_6 h
            refine lv_iinc (v := v1_6) (lv' := [(1, .int v1_6), (0, .ref h_mo)]) hx hb d_Mo_pass_60 hl (k := 0) rfl (by rw [e_v1_6]; rfl) (by decide) rfl (fun ls hl => ?_)
            refine lv_goto (tgt := 35) hx hb d_Mo_pass_63 (by decide) ?_
            exact ih_self35 _ _ _ _ _ h hP hD hS hl
      exact w_self35 FU _ _ _ _ _ h hP hD hS hl
    · have h := if_f h c_1
      refine lv_iconst (v := 0) hx hb d_Mo_pass_31 (by decide) ?_
      subst eQ
      exact W.iret (v := (0 : Int32)) hx hb hr (fun t ht hW => ⟨⟨_, (s_1, mo_came, mo_in), rfl, Option.some.inj h, by rw [ht]; exact hP, va_K.moved hW.alike hK, hD⟩, hS.F ht⟩) hS.2.2 d_Mo_pass_32
  refine lv_icmp_le (tgt := 20) hx hb d_Mo_pass_13 (by decide) (fun c_3 => ?_) (fun c_3 => ?_)
  · have h := if_t h c_3
    refine lv_iconst (v := 0) hx hb d_Mo_pass_20 (by decide) ?_
    exact w_j21 _ _ _ _ h hP hD hS hl
  · have h := if_f h c_3
    refine lv_iconst (v := 1) hx hb d_Mo_pass_16 (by decide) ?_
    refine lv_goto (tgt := 21) hx hb d_Mo_pass_17 (by decide) ?_
    exact w_j21 _ _ _ _ h hP hD hS hl
set_option maxHeartbeats 4000000 in
set_option maxRecDepth 100000 in
theorem c_Mo_refuse (l : Launch) (dC : Nat → ClassId) (dI : Nat → Nat → Nat) (h_mo : Nat) (u_mo_thrown : Value) (u_mo_width : Value) (u_mo_height : Value) (u_mo_kind : Value) (u_mo_symbols : Value) (u_mo_wide : Value) (u_mo_high : Value) (u_mo_dark : Value) (u_mo_instances : Value) (u_mo_symbolOf : Value) (u_mo_xs : Value) (u_mo_ys : Value) (u_mo_differs : Value) (u_mo_ways : Value) (u_mo_ordered : Value) (u_mo_page : Value) (u_mo_told : Value) (u_mo_keeps : Value) (u_mo_toldBytes : Value) (u_mo_out : Value) (u_mo_counts : Value) (u_mo_lengths : Value) (u_mo_codes : Value) (u_mo_weight : Value) (u_mo_over : Value) (u_mo_used : Value) (u_mo_row : Value) (u_mo_came : Value) (u_mo_in : Value) (u_mo_at : Value) (u_mo_place : Value) (u_mo_readMany : Value) (u_mo_readSymbol : Value) (u_mo_readX : Value) (u_mo_readY : Value) (u_mo_readDiffers : Value) (u_mo_readWays : Value) (mo_refused : Int32) (p0 : Int32) (sz : Nat) (o : Int32) (hf : f_Mo_refuse mo_refused p0 = some o) :
    Met l y_Mo_refuse ws_Mo_refuse { frames := 0, cells := 0, slots := 0, locals := 0 } (va_Pc [.ref h_mo, .int p0] (PcM (dC, dI) [(h_mo, .inr (1, [u_mo_thrown, u_mo_width, u_mo_height, u_mo_kind, u_mo_symbols, u_mo_wide, u_mo_high, u_mo_dark, u_mo_instances, u_mo_symbolOf, u_mo_xs, u_mo_ys, u_mo_differs, u_mo_ways, u_mo_ordered, u_mo_page, u_mo_told, u_mo_keeps, u_mo_toldBytes, u_mo_out, u_mo_counts, u_mo_lengths, u_mo_codes, u_mo_weight, u_mo_over, u_mo_used, u_mo_row, u_mo_came, u_mo_in, u_mo_at, .int mo_refused, u_mo_place, u_mo_readMany, u_mo_readSymbol, u_mo_readX, u_mo_readY, u_mo_readDiffers, u_mo_readWays]))] [] sz))
      (va_Qv (fun u : Int32 => u = o) (fun u t => va_P (dC, dI) CL [(h_mo, .inr (1, [u_mo_thrown, u_mo_width, u_mo_height, u_mo_kind, u_mo_symbols, u_mo_wide, u_mo_high, u_mo_dark, u_mo_instances, u_mo_symbolOf, u_mo_xs, u_mo_ys, u_mo_differs, u_mo_ways, u_mo_ordered, u_mo_page, u_mo_told, u_mo_keeps, u_mo_toldBytes, u_mo_out, u_mo_counts, u_mo_lengths, u_mo_codes, u_mo_weight, u_mo_over, u_mo_used, u_mo_row, u_mo_came, u_mo_in, u_mo_at, .int (u), u_mo_place, u_mo_readMany, u_mo_readSymbol, u_mo_readX, u_mo_readY, u_mo_readDiffers, u_mo_readWays]))] t.heap ∧ va_K (dC, dI) CL [] t ∧ va_D (va_A [(h_mo, .inr (1, [u_mo_thrown, u_mo_width, u_mo_height, u_mo_kind, u_mo_symbols, u_mo_wide, u_mo_high, u_mo_dark, u_mo_instances, u_mo_symbolOf, u_mo_xs, u_mo_ys, u_mo_differs, u_mo_ways, u_mo_ordered, u_mo_page, u_mo_told, u_mo_keeps, u_mo_toldBytes, u_mo_out, u_mo_counts, u_mo_lengths, u_mo_codes, u_mo_weight, u_mo_over, u_mo_used, u_mo_row, u_mo_came, u_mo_in, u_mo_at, .int mo_refused, u_mo_place, u_mo_readMany, u_mo_readSymbol, u_mo_readX, u_mo_readY, u_mo_readDiffers, u_mo_readWays]))] sz) [(h_mo, .inr (1, [u_mo_thrown, u_mo_width, u_mo_height, u_mo_kind, u_mo_symbols, u_mo_wide, u_mo_high, u_mo_dark, u_mo_instances, u_mo_symbolOf, u_mo_xs, u_mo_ys, u_mo_differs, u_mo_ways, u_mo_ordered, u_mo_page, u_mo_told, u_mo_keeps, u_mo_toldBytes, u_mo_out, u_mo_counts, u_mo_lengths, u_mo_codes, u_mo_weight, u_mo_over, u_mo_used, u_mo_row, u_mo_came, u_mo_in, u_mo_at, .int (u), u_mo_place, u_mo_readMany, u_mo_readSymbol, u_mo_readX, u_mo_readY, u_mo_readDiffers, u_mo_readWays]))]) (va_A [(h_mo, .inr (1, [u_mo_thrown, u_mo_width, u_mo_height, u_mo_kind, u_mo_symbols, u_mo_wide, u_mo_high, u_mo_dark, u_mo_instances, u_mo_symbolOf, u_mo_xs, u_mo_ys, u_mo_differs, u_mo_ways, u_mo_ordered, u_mo_page, u_mo_told, u_mo_keeps, u_mo_toldBytes, u_mo_out, u_mo_counts, u_mo_lengths, u_mo_codes, u_mo_weight, u_mo_over, u_mo_used, u_mo_row, u_mo_came, u_mo_in, u_mo_at, .int mo_refused, u_mo_place, u_mo_readMany, u_mo_readSymbol, u_mo_readX, u_mo_readY, u_mo_readDiffers, u_mo_readWays]))] sz)) 0 0 (va_A [(h_mo, .inr (1, [u_mo_thrown, u_mo_width, u_mo_height, u_mo_kind, u_mo_symbols, u_mo_wide, u_mo_high, u_mo_dark, u_mo_instances, u_mo_symbolOf, u_mo_xs, u_mo_ys, u_mo_differs, u_mo_ways, u_mo_ordered, u_mo_page, u_mo_told, u_mo_keeps, u_mo_toldBytes, u_mo_out, u_mo_counts, u_mo_lengths, u_mo_codes, u_mo_weight, u_mo_over, u_mo_used, u_mo_row, u_mo_came, u_mo_in, u_mo_at, .int mo_refused, u_mo_place, u_mo_readMany, u_mo_readSymbol, u_mo_readX, u_mo_readY, u_mo_readDiffers, u_mo_readWays]))] sz) := by
  refine Met.ofW (cc := b_Mo_refuse) (maxL := 2) (ret := none) (by decide) rfl ?_
  intro p e s m args below meth c s₁ B hml hv
  obtain ⟨rfl, hsz, hP, hK, hD0, hnw⟩ := hv
  have hx := B.exec
  have hb := B.bytes
  have hr := B.returns
  have hts := atoms_spec (ws := ws_Mo_refuse) B.pre
  have hB : ∀ w ∈ BIG, w.before _ s = true := fun w h => hts w (List.mem_cons_of_mem _ h)
  have hown : s.vm.findClass R_Mo = some m.cls := findClass_of_methodNamed B.named
  have hlocks := B.notSynchronized
  subst hsz
  have hD := hD0.self (sz := s.heap.size)
  refine W_Q (fun Q9 eQ => ?_)
  generalize hAe : va_A [(h_mo, .inr (1, [u_mo_thrown, u_mo_width, u_mo_height, u_mo_kind, u_mo_symbols, u_mo_wide, u_mo_high, u_mo_dark, u_mo_instances, u_mo_symbolOf, u_mo_xs, u_mo_ys, u_mo_differs, u_mo_ways, u_mo_ordered, u_mo_page, u_mo_told, u_mo_keeps, u_mo_toldBytes, u_mo_out, u_mo_counts, u_mo_lengths, u_mo_codes, u_mo_weight, u_mo_over, u_mo_used, u_mo_row, u_mo_came, u_mo_in, u_mo_at, .int mo_refused, u_mo_place, u_mo_readMany, u_mo_readSymbol, u_mo_readX, u_mo_readY, u_mo_readDiffers, u_mo_readWays]))] s.heap.size = A at hD eQ
  have hA : ∀ q : Nat, s.heap.size ≤ q → A q := fun q h => by rw [← hAe]; exact Or.inr h
  have hS : va_S A s.heap s.heap [] := va_S.rf
  have hl := lv_entry ([.ref h_mo, .int p0]) (n := 2) (Nat.le_of_ble_eq_true rfl)
  rw [lg_entry_eq]
  generalize (lg_sl ([.ref h_mo, .int p0]) ++ List.replicate (2 - (lg_sl ([.ref h_mo, .int p0])).length) Slot.unset).toArray = ls at hl ⊢
  have hl : lv_has ls 2 [(0, .ref h_mo), (1, .int p0)] := hl
  have h := hf
  unfold f_Mo_refuse at h
  refine lv_aload_n hx hb d_Mo_refuse_0 rfl (lv_at hl 0 rfl) ?_
  refine lv_aload_n hx hb d_Mo_refuse_1 rfl (lv_at hl 0 rfl) ?_
  refine va_get (D := (dC, dI)) (ci := 1) (v := .int mo_refused) (C := R_Mo) (T := T_Mo) (N := 38) hx hb hB iw_Mo hown hK hP 0 rfl rfl 30 (by decide) (hB _ bw_903) (fun _ h9 => h9) rfl d_Mo_refuse_2 ?_
  refine lv_if_ne (tgt := 12) hx hb d_Mo_refuse_5 (by decide) (fun c_1 => ?_) (fun c_1 => ?_)
  · have h := if_f h c_1
    refine lv_aload_n hx hb d_Mo_refuse_12 rfl (lv_at hl 0 rfl) ?_
    refine va_get (D := (dC, dI)) (ci := 1) (v := .int mo_refused) (C := R_Mo) (T := T_Mo) (N := 38) hx hb hB iw_Mo hown hK hP 0 rfl rfl 30 (by decide) (hB _ bw_903) (fun _ h9 => h9) rfl d_Mo_refuse_13 ?_
    refine va_put (D := (dC, dI)) (ci := 1) (v := .int mo_refused) (ty := .int) (C := R_Mo) (T := T_Mo) (N := 38) hx hb hB iw_Mo ty_Mo tk_Mo n_Mo hown hK hP hD hS 0 rfl rfl 30 (by decide) (hB _ bw_903) (fun _ h9 => h9) rfl (by decide +kernel) rfl rfl (Nat.le_of_ble_eq_true rfl) d_Mo_refuse_16 (fun H locs hP hD hS => ?_)
    have hP : va_P (dC, dI) CL [(h_mo, .inr (1, [u_mo_thrown, u_mo_width, u_mo_height, u_mo_kind, u_mo_symbols, u_mo_wide, u_mo_high, u_mo_dark, u_mo_instances, u_mo_symbolOf, u_mo_xs, u_mo_ys, u_mo_differs, u_mo_ways, u_mo_ordered, u_mo_page, u_mo_told, u_mo_keeps, u_mo_toldBytes, u_mo_out, u_mo_counts, u_mo_lengths, u_mo_codes, u_mo_weight, u_mo_over, u_mo_used, u_mo_row, u_mo_came, u_mo_in, u_mo_at, .int mo_refused, u_mo_place, u_mo_readMany, u_mo_readSymbol, u_mo_readX, u_mo_readY, u_mo_readDiffers, u_mo_readWays]))] H := hP
    have hD : va_D A [(h_mo, .inr (1, [u_mo_thrown, u_mo_width, u_mo_height, u_mo_kind, u_mo_symbols, u_mo_wide, u_mo_high, u_mo_dark, u_mo_instances, u_mo_symbolOf, u_mo_xs, u_mo_ys, u_mo_differs, u_mo_ways, u_mo_ordered, u_mo_page, u_mo_told, u_mo_keeps, u_mo_toldBytes, u_mo_out, u_mo_counts, u_mo_lengths, u_mo_codes, u_mo_weight, u_mo_over, u_mo_used, u_mo_row, u_mo_came, u_mo_in, u_mo_at, .int mo_refused, u_mo_place, u_mo_readMany, u_mo_readSymbol, u_mo_readX, u_mo_readY, u_mo_readDiffers, u_mo_readWays]))] := hD
    subst eQ
    exact W.vret hx hb hr (fun t ht hW => ⟨⟨mo_refused, rfl, Option.some.inj h, by rw [ht]; exact hP, va_K.moved hW.alike hK, hD⟩, hS.F ht⟩) hS.2.2 d_Mo_refuse_19
  · have h := if_t h c_1
    refine lv_iload_n hx hb d_Mo_refuse_8 rfl (lv_at hl 1 rfl) ?_
    refine lv_goto (tgt := 16) hx hb d_Mo_refuse_9 (by decide) ?_
    refine va_put (D := (dC, dI)) (ci := 1) (v := .int p0) (ty := .int) (C := R_Mo) (T := T_Mo) (N := 38) hx hb hB iw_Mo ty_Mo tk_Mo n_Mo hown hK hP hD hS 0 rfl rfl 30 (by decide) (hB _ bw_903) (fun _ h9 => h9) rfl (by decide +kernel) rfl rfl (Nat.le_of_ble_eq_true rfl) d_Mo_refuse_16 (fun H locs hP hD hS => ?_)
    have hP : va_P (dC, dI) CL [(h_mo, .inr (1, [u_mo_thrown, u_mo_width, u_mo_height, u_mo_kind, u_mo_symbols, u_mo_wide, u_mo_high, u_mo_dark, u_mo_instances, u_mo_symbolOf, u_mo_xs, u_mo_ys, u_mo_differs, u_mo_ways, u_mo_ordered, u_mo_page, u_mo_told, u_mo_keeps, u_mo_toldBytes, u_mo_out, u_mo_counts, u_mo_lengths, u_mo_codes, u_mo_weight, u_mo_over, u_mo_used, u_mo_row, u_mo_came, u_mo_in, u_mo_at, .int p0, u_mo_place, u_mo_readMany, u_mo_readSymbol, u_mo_readX, u_mo_readY, u_mo_readDiffers, u_mo_readWays]))] H := hP
    have hD : va_D A [(h_mo, .inr (1, [u_mo_thrown, u_mo_width, u_mo_height, u_mo_kind, u_mo_symbols, u_mo_wide, u_mo_high, u_mo_dark, u_mo_instances, u_mo_symbolOf, u_mo_xs, u_mo_ys, u_mo_differs, u_mo_ways, u_mo_ordered, u_mo_page, u_mo_told, u_mo_keeps, u_mo_toldBytes, u_mo_out, u_mo_counts, u_mo_lengths, u_mo_codes, u_mo_weight, u_mo_over, u_mo_used, u_mo_row, u_mo_came, u_mo_in, u_mo_at, .int p0, u_mo_place, u_mo_readMany, u_mo_readSymbol, u_mo_readX, u_mo_readY, u_mo_readDiffers, u_mo_readWays]))] := hD
    subst eQ
    exact W.vret hx hb hr (fun t ht hW => ⟨⟨p0, rfl, Option.some.inj h, by rw [ht]; exact hP, va_K.moved hW.alike hK, hD⟩, hS.F ht⟩) hS.2.2 d_Mo_refuse_19
set_option maxHeartbeats 4000000 in
set_option maxRecDepth 100000 in
theorem c_Mo_next (l : Launch) (dC : Nat → ClassId) (dI : Nat → Nat → Nat) (h_mo : Nat) (h_mo_in : Nat) (c_mo_in : ClassId) (u_mo_thrown : Value) (u_mo_width : Value) (u_mo_height : Value) (u_mo_kind : Value) (u_mo_symbols : Value) (u_mo_wide : Value) (u_mo_high : Value) (u_mo_dark : Value) (u_mo_instances : Value) (u_mo_symbolOf : Value) (u_mo_xs : Value) (u_mo_ys : Value) (u_mo_differs : Value) (u_mo_ways : Value) (u_mo_ordered : Value) (u_mo_page : Value) (u_mo_told : Value) (u_mo_keeps : Value) (u_mo_toldBytes : Value) (u_mo_out : Value) (u_mo_counts : Value) (u_mo_lengths : Value) (u_mo_codes : Value) (u_mo_weight : Value) (u_mo_over : Value) (u_mo_used : Value) (u_mo_row : Value) (u_mo_place : Value) (u_mo_readMany : Value) (u_mo_readSymbol : Value) (u_mo_readX : Value) (u_mo_readY : Value) (u_mo_readDiffers : Value) (u_mo_readWays : Value) (mo_came : Int32) (mo_at : Int32) (mo_refused : Int32) (mo_in : (Nat → Int32)) (sz : Nat) (o : Int32 × Int32 × Int32) (hf : f_Mo_next mo_came mo_at mo_refused mo_in = some o) :
    Met l y_Mo_next ws_Mo_next { frames := 1, cells := 0, slots := 0, locals := 21 } (va_Pc [.ref h_mo] (PcM (dC, dI) [(h_mo, .inr (1, [u_mo_thrown, u_mo_width, u_mo_height, u_mo_kind, u_mo_symbols, u_mo_wide, u_mo_high, u_mo_dark, u_mo_instances, u_mo_symbolOf, u_mo_xs, u_mo_ys, u_mo_differs, u_mo_ways, u_mo_ordered, u_mo_page, u_mo_told, u_mo_keeps, u_mo_toldBytes, u_mo_out, u_mo_counts, u_mo_lengths, u_mo_codes, u_mo_weight, u_mo_over, u_mo_used, u_mo_row, .int mo_came, .ref h_mo_in, .int mo_at, .int mo_refused, u_mo_place, u_mo_readMany, u_mo_readSymbol, u_mo_readX, u_mo_readY, u_mo_readDiffers, u_mo_readWays])), (h_mo_in, .inl (c_mo_in, 2000, .inl mo_in))] [(c_mo_in, .int)] sz))
      (va_Qi (fun (r : Int32) (u : Int32 × Int32) => (r, u) = o) (fun u t => va_P (dC, dI) CL [(h_mo, .inr (1, [u_mo_thrown, u_mo_width, u_mo_height, u_mo_kind, u_mo_symbols, u_mo_wide, u_mo_high, u_mo_dark, u_mo_instances, u_mo_symbolOf, u_mo_xs, u_mo_ys, u_mo_differs, u_mo_ways, u_mo_ordered, u_mo_page, u_mo_told, u_mo_keeps, u_mo_toldBytes, u_mo_out, u_mo_counts, u_mo_lengths, u_mo_codes, u_mo_weight, u_mo_over, u_mo_used, u_mo_row, .int mo_came, .ref h_mo_in, .int (u.1), .int (u.2), u_mo_place, u_mo_readMany, u_mo_readSymbol, u_mo_readX, u_mo_readY, u_mo_readDiffers, u_mo_readWays])), (h_mo_in, .inl (c_mo_in, 2000, .inl mo_in))] t.heap ∧ va_K (dC, dI) CL [(c_mo_in, .int)] t ∧ va_D (va_A [(h_mo, .inr (1, [u_mo_thrown, u_mo_width, u_mo_height, u_mo_kind, u_mo_symbols, u_mo_wide, u_mo_high, u_mo_dark, u_mo_instances, u_mo_symbolOf, u_mo_xs, u_mo_ys, u_mo_differs, u_mo_ways, u_mo_ordered, u_mo_page, u_mo_told, u_mo_keeps, u_mo_toldBytes, u_mo_out, u_mo_counts, u_mo_lengths, u_mo_codes, u_mo_weight, u_mo_over, u_mo_used, u_mo_row, .int mo_came, .ref h_mo_in, .int mo_at, .int mo_refused, u_mo_place, u_mo_readMany, u_mo_readSymbol, u_mo_readX, u_mo_readY, u_mo_readDiffers, u_mo_readWays])), (h_mo_in, .inl (c_mo_in, 2000, .inl mo_in))] sz) [(h_mo, .inr (1, [u_mo_thrown, u_mo_width, u_mo_height, u_mo_kind, u_mo_symbols, u_mo_wide, u_mo_high, u_mo_dark, u_mo_instances, u_mo_symbolOf, u_mo_xs, u_mo_ys, u_mo_differs, u_mo_ways, u_mo_ordered, u_mo_page, u_mo_told, u_mo_keeps, u_mo_toldBytes, u_mo_out, u_mo_counts, u_mo_lengths, u_mo_codes, u_mo_weight, u_mo_over, u_mo_used, u_mo_row, .int mo_came, .ref h_mo_in, .int (u.1), .int (u.2), u_mo_place, u_mo_readMany, u_mo_readSymbol, u_mo_readX, u_mo_readY, u_mo_readDiffers, u_mo_readWays])), (h_mo_in, .inl (c_mo_in, 2000, .inl mo_in))]) (va_A [(h_mo, .inr (1, [u_mo_thrown, u_mo_width, u_mo_height, u_mo_kind, u_mo_symbols, u_mo_wide, u_mo_high, u_mo_dark, u_mo_instances, u_mo_symbolOf, u_mo_xs, u_mo_ys, u_mo_differs, u_mo_ways, u_mo_ordered, u_mo_page, u_mo_told, u_mo_keeps, u_mo_toldBytes, u_mo_out, u_mo_counts, u_mo_lengths, u_mo_codes, u_mo_weight, u_mo_over, u_mo_used, u_mo_row, .int mo_came, .ref h_mo_in, .int mo_at, .int mo_refused, u_mo_place, u_mo_readMany, u_mo_readSymbol, u_mo_readX, u_mo_readY, u_mo_readDiffers, u_mo_readWays])), (h_mo_in, .inl (c_mo_in, 2000, .inl mo_in))] sz)) 0 0 (va_A [(h_mo, .inr (1, [u_mo_thrown, u_mo_width, u_mo_height, u_mo_kind, u_mo_symbols, u_mo_wide, u_mo_high, u_mo_dark, u_mo_instances, u_mo_symbolOf, u_mo_xs, u_mo_ys, u_mo_differs, u_mo_ways, u_mo_ordered, u_mo_page, u_mo_told, u_mo_keeps, u_mo_toldBytes, u_mo_out, u_mo_counts, u_mo_lengths, u_mo_codes, u_mo_weight, u_mo_over, u_mo_used, u_mo_row, .int mo_came, .ref h_mo_in, .int mo_at, .int mo_refused, u_mo_place, u_mo_readMany, u_mo_readSymbol, u_mo_readX, u_mo_readY, u_mo_readDiffers, u_mo_readWays])), (h_mo_in, .inl (c_mo_in, 2000, .inl mo_in))] sz) := by
  refine Met.ofW (cc := b_Mo_next) (maxL := 2) (ret := (some .int)) (by decide) rfl ?_
  intro p e s m args below meth c s₁ B hml hv
  obtain ⟨rfl, hsz, hP, hK, hD0, hnw⟩ := hv
  have hx := B.exec
  have hb := B.bytes
  have hr := B.returns
  have hts := atoms_spec (ws := ws_Mo_next) B.pre
  have hB : ∀ w ∈ BIG, w.before _ s = true := fun w h => hts w (List.mem_cons_of_mem _ h)
  have hown : s.vm.findClass R_Mo = some m.cls := findClass_of_methodNamed B.named
  have hlocks := B.notSynchronized
  subst hsz
  have hD := hD0.self (sz := s.heap.size)
  refine W_Q (fun Q9 eQ => ?_)
  generalize hAe : va_A [(h_mo, .inr (1, [u_mo_thrown, u_mo_width, u_mo_height, u_mo_kind, u_mo_symbols, u_mo_wide, u_mo_high, u_mo_dark, u_mo_instances, u_mo_symbolOf, u_mo_xs, u_mo_ys, u_mo_differs, u_mo_ways, u_mo_ordered, u_mo_page, u_mo_told, u_mo_keeps, u_mo_toldBytes, u_mo_out, u_mo_counts, u_mo_lengths, u_mo_codes, u_mo_weight, u_mo_over, u_mo_used, u_mo_row, .int mo_came, .ref h_mo_in, .int mo_at, .int mo_refused, u_mo_place, u_mo_readMany, u_mo_readSymbol, u_mo_readX, u_mo_readY, u_mo_readDiffers, u_mo_readWays])), (h_mo_in, .inl (c_mo_in, 2000, .inl mo_in))] s.heap.size = A at hD eQ
  have hA : ∀ q : Nat, s.heap.size ≤ q → A q := fun q h => by rw [← hAe]; exact Or.inr h
  have hS : va_S A s.heap s.heap [] := va_S.rf
  have hl := lv_entry ([.ref h_mo]) (n := 2) (Nat.le_of_ble_eq_true rfl)
  rw [lg_entry_eq]
  generalize (lg_sl ([.ref h_mo]) ++ List.replicate (2 - (lg_sl ([.ref h_mo])).length) Slot.unset).toArray = ls at hl ⊢
  have hl : lv_has ls 2 [(0, .ref h_mo)] := hl
  have h := hf
  unfold f_Mo_next at h
  refine lv_aload_n hx hb d_Mo_next_0 rfl (lv_at hl 0 rfl) ?_
  refine va_get (D := (dC, dI)) (ci := 1) (v := .int mo_refused) (C := R_Mo) (T := T_Mo) (N := 38) hx hb hB iw_Mo hown hK hP 0 rfl rfl 30 (by decide) (hB _ bw_903) (fun _ h9 => h9) rfl d_Mo_next_1 ?_
  obtain ⟨j26, e_j26, h⟩ := jn_e h
  have w_j26 : ∀ (mo_refused_1 : Int32) (H : Heap) (locs : List Loc) (ls : Array Slot), j26 mo_refused_1 = some o → va_P (dC, dI) CL [(h_mo, .inr (1, [u_mo_thrown, u_mo_width, u_mo_height, u_mo_kind, u_mo_symbols, u_mo_wide, u_mo_high, u_mo_dark, u_mo_instances, u_mo_symbolOf, u_mo_xs, u_mo_ys, u_mo_differs, u_mo_ways, u_mo_ordered, u_mo_page, u_mo_told, u_mo_keeps, u_mo_toldBytes, u_mo_out, u_mo_counts, u_mo_lengths, u_mo_codes, u_mo_weight, u_mo_over, u_mo_used, u_mo_row, .int mo_came, .ref h_mo_in, .int mo_at, .int mo_refused_1, u_mo_place, u_mo_readMany, u_mo_readSymbol, u_mo_readX, u_mo_readY, u_mo_readDiffers, u_mo_readWays])), (h_mo_in, .inl (c_mo_in, 2000, .inl mo_in))] H → va_D A [(h_mo, .inr (1, [u_mo_thrown, u_mo_width, u_mo_height, u_mo_kind, u_mo_symbols, u_mo_wide, u_mo_high, u_mo_dark, u_mo_instances, u_mo_symbolOf, u_mo_xs, u_mo_ys, u_mo_differs, u_mo_ways, u_mo_ordered, u_mo_page, u_mo_told, u_mo_keeps, u_mo_toldBytes, u_mo_out, u_mo_counts, u_mo_lengths, u_mo_codes, u_mo_weight, u_mo_over, u_mo_used, u_mo_row, .int mo_came, .ref h_mo_in, .int mo_at, .int mo_refused_1, u_mo_place, u_mo_readMany, u_mo_readSymbol, u_mo_readX, u_mo_readY, u_mo_readDiffers, u_mo_readWays])), (h_mo_in, .inl (c_mo_in, 2000, .inl mo_in))] → va_S A s.heap H locs → lv_has ls 2 [(0, .ref h_mo)] → W p l e ({ frames := 1, cells := 0, slots := 0, locals := 21 } : Room) s m ([.ref h_mo] : List Value).toArray below meth c H locs 0 0 Q9 (F0 m 26 ls []) := by
    intro mo_refused_1 H locs ls h hP hD hS hl
    rw [e_j26] at h
    refine lv_aload_n hx hb d_Mo_next_26 rfl (lv_at hl 0 rfl) ?_
    refine va_get (D := (dC, dI)) (ci := 1) (v := .int mo_refused_1) (C := R_Mo) (T := T_Mo) (N := 38) hx hb hB iw_Mo hown hK hP 0 rfl rfl 30 (by decide) (hB _ bw_903) (fun _ h9 => h9) rfl d_Mo_next_27 ?_
    refine lv_if_le (tgt := 35) hx hb d_Mo_next_30 (by decide) (fun c_1 => ?_) (fun c_1 => ?_)
    · have h := if_t h c_1
      refine lv_aload_n hx hb d_Mo_next_35 rfl (lv_at hl 0 rfl) ?_
      refine va_get (D := (dC, dI)) (ci := 1) (v := .ref h_mo_in) (C := R_Mo) (T := T_Mo) (N := 38) hx hb hB iw_Mo hown hK hP 0 rfl rfl 28 (by decide) (hB _ bw_901) (fun _ h9 => h9) rfl d_Mo_next_36 ?_
      refine lv_aload_n hx hb d_Mo_next_39 rfl (lv_at hl 0 rfl) ?_
      refine va_get (D := (dC, dI)) (ci := 1) (v := .int mo_at) (C := R_Mo) (T := T_Mo) (N := 38) hx hb hB iw_Mo hown hK hP 0 rfl rfl 29 (by decide) (hB _ bw_902) (fun _ h9 => h9) rfl d_Mo_next_40 ?_
      refine lv_bipush (v := 8) hx hb d_Mo_next_43 (by decide) ?_
      refine lv_idiv hx hb d_Mo_next_45 (by decide) ?_
      obtain ⟨hin, h⟩ := gq_e h
      refine va_iald hx hb hK hP 1 0 rfl rfl hin d_Mo_next_46 ?_
      refine lv_bipush (v := 7) hx hb d_Mo_next_47 (by decide) ?_
      refine lv_aload_n hx hb d_Mo_next_49 rfl (lv_at hl 0 rfl) ?_
      refine va_get (D := (dC, dI)) (ci := 1) (v := .int mo_at) (C := R_Mo) (T := T_Mo) (N := 38) hx hb hB iw_Mo hown hK hP 0 rfl rfl 29 (by decide) (hB _ bw_902) (fun _ h9 => h9) rfl d_Mo_next_50 ?_
      refine lv_bipush (v := 8) hx hb d_Mo_next_53 (by decide) ?_
      refine lv_irem hx hb d_Mo_next_55 (by decide) ?_
      refine lv_isub hx hb d_Mo_next_56 ?_
      refine lv_ishr hx hb d_Mo_next_57 ?_
      refine lv_iconst (v := 1) hx hb d_Mo_next_58 (by decide) ?_
      refine lv_iand hx hb d_Mo_next_59 ?_
      refine lv_topi (fun v1_2 e_v1_2 => ?_)
      have h := nl_u e_v1_2 h
      refine lv_istore_n (lv' := [(1, .int v1_2), (0, .ref h_mo)]) hx hb d_Mo_next_60 rfl hl (by decide) rfl (fun ls hl => ?_)
      refine lv_aload_n hx hb d_Mo_next_61 rfl (lv_at hl 1 rfl) ?_
      refine lv_dup hx hb d_Mo_next_62 rfl ?_
      refine va_get (D := (dC, dI)) (ci := 1) (v := .int mo_at) (C := R_Mo) (T := T_Mo) (N := 38) hx hb hB iw_Mo hown hK hP 0 rfl rfl 29 (by decide) (hB _ bw_902) (fun _ h9 => h9) rfl d_Mo_next_63 ?_
      refine lv_iconst (v := 1) hx hb d_Mo_next_66 (by decide) ?_
      refine lv_iadd hx hb d_Mo_next_67 ?_
      refine lv_topi (fun at_3 e_at_3 => ?_)
      have h := nl_u e_at_3 h
      refine va_put (D := (dC, dI)) (ci := 1) (v := .int at_3) (ty := .int) (C := R_Mo) (T := T_Mo) (N := 38) hx hb hB iw_Mo ty_Mo tk_Mo n_Mo hown hK hP hD hS 0 rfl rfl 29 (by decide) (hB _ bw_902) (fun _ h9 => h9) rfl (by decide +kernel) rfl rfl (Nat.le_of_ble_eq_true rfl) d_Mo_next_68 (fun H locs hP hD hS => ?_)
      have hP : va_P (dC, dI) CL [(h_mo, .inr (1, [u_mo_thrown, u_mo_width, u_mo_height, u_mo_kind, u_mo_symbols, u_mo_wide, u_mo_high, u_mo_dark, u_mo_instances, u_mo_symbolOf, u_mo_xs, u_mo_ys, u_mo_differs, u_mo_ways, u_mo_ordered, u_mo_page, u_mo_told, u_mo_keeps, u_mo_toldBytes, u_mo_out, u_mo_counts, u_mo_lengths, u_mo_codes, u_mo_weight, u_mo_over, u_mo_used, u_mo_row, .int mo_came, .ref h_mo_in, .int at_3, .int mo_refused_1, u_mo_place, u_mo_readMany, u_mo_readSymbol, u_mo_readX, u_mo_readY, u_mo_readDiffers, u_mo_readWays])), (h_mo_in, .inl (c_mo_in, 2000, .inl mo_in))] H := hP
      have hD : va_D A [(h_mo, .inr (1, [u_mo_thrown, u_mo_width, u_mo_height, u_mo_kind, u_mo_symbols, u_mo_wide, u_mo_high, u_mo_dark, u_mo_instances, u_mo_symbolOf, u_mo_xs, u_mo_ys, u_mo_differs, u_mo_ways, u_mo_ordered, u_mo_page, u_mo_told, u_mo_keeps, u_mo_toldBytes, u_mo_out, u_mo_counts, u_mo_lengths, u_mo_codes, u_mo_weight, u_mo_over, u_mo_used, u_mo_row, .int mo_came, .ref h_mo_in, .int at_3, .int mo_refused_1, u_mo_place, u_mo_readMany, u_mo_readSymbol, u_mo_readX, u_mo_readY, u_mo_readDiffers, u_mo_readWays])), (h_mo_in, .inl (c_mo_in, 2000, .inl mo_in))] := hD
      refine lv_iload_n hx hb d_Mo_next_71 rfl (lv_at hl 0 rfl) ?_
      subst eQ
      exact W.iret (v := v1_2) hx hb hr (fun t ht hW => ⟨⟨_, (at_3, mo_refused_1), rfl, Option.some.inj h, by rw [ht]; exact hP, va_K.moved hW.alike hK, hD⟩, hS.F ht⟩) hS.2.2 d_Mo_next_72
    · have h := if_f h c_1
      refine lv_iconst (v := 0) hx hb d_Mo_next_33 (by decide) ?_
      subst eQ
      exact W.iret (v := (0 : Int32)) hx hb hr (fun t ht hW => ⟨⟨_, (mo_at, mo_refused_1), rfl, Option.some.inj h, by rw [ht]; exact hP, va_K.moved hW.alike hK, hD⟩, hS.F ht⟩) hS.2.2 d_Mo_next_34
  refine lv_if_ne (tgt := 26) hx hb d_Mo_next_4 (by decide) (fun c_2 => ?_) (fun c_2 => ?_)
  · have h := if_f h c_2
    exact w_j26 _ _ _ _ h hP hD hS hl
  · have h := if_t h c_2
    refine lv_aload_n hx hb d_Mo_next_7 rfl (lv_at hl 0 rfl) ?_
    refine va_get (D := (dC, dI)) (ci := 1) (v := .int mo_at) (C := R_Mo) (T := T_Mo) (N := 38) hx hb hB iw_Mo hown hK hP 0 rfl rfl 29 (by decide) (hB _ bw_902) (fun _ h9 => h9) rfl d_Mo_next_8 ?_
    refine lv_bipush (v := 8) hx hb d_Mo_next_11 (by decide) ?_
    refine lv_aload_n hx hb d_Mo_next_13 rfl (lv_at hl 0 rfl) ?_
    refine va_get (D := (dC, dI)) (ci := 1) (v := .int mo_came) (C := R_Mo) (T := T_Mo) (N := 38) hx hb hB iw_Mo hown hK hP 0 rfl rfl 27 (by decide) (hB _ bw_900) (fun _ h9 => h9) rfl d_Mo_next_14 ?_
    refine lv_imul hx hb d_Mo_next_17 ?_
    refine lv_icmp_ne (tgt := 26) hx hb d_Mo_next_18 (by decide) (fun c_3 => ?_) (fun c_3 => ?_)
    · have h := if_f h c_3
      exact w_j26 _ _ _ _ h hP hD hS hl
    · have h := if_t h c_3
      refine lv_aload_n hx hb d_Mo_next_21 rfl (lv_at hl 0 rfl) ?_
      refine lv_iconst (v := 1) hx hb d_Mo_next_22 (by decide) ?_
      obtain ⟨o9, hc9, h⟩ := bd_e h
      have hPc := hP.sub (ws' := [(h_mo, .inr (1, [u_mo_thrown, u_mo_width, u_mo_height, u_mo_kind, u_mo_symbols, u_mo_wide, u_mo_high, u_mo_dark, u_mo_instances, u_mo_symbolOf, u_mo_xs, u_mo_ys, u_mo_differs, u_mo_ways, u_mo_ordered, u_mo_page, u_mo_told, u_mo_keeps, u_mo_toldBytes, u_mo_out, u_mo_counts, u_mo_lengths, u_mo_codes, u_mo_weight, u_mo_over, u_mo_used, u_mo_row, .int mo_came, .ref h_mo_in, .int mo_at, .int mo_refused, u_mo_place, u_mo_readMany, u_mo_readSymbol, u_mo_readX, u_mo_readY, u_mo_readDiffers, u_mo_readWays]))]) [0] rfl
      have hKc := hK.sub (tys' := []) [] rfl
      have hDc := hD.sub (ws' := [(h_mo, .inr (1, [u_mo_thrown, u_mo_width, u_mo_height, u_mo_kind, u_mo_symbols, u_mo_wide, u_mo_high, u_mo_dark, u_mo_instances, u_mo_symbolOf, u_mo_xs, u_mo_ys, u_mo_differs, u_mo_ways, u_mo_ordered, u_mo_page, u_mo_told, u_mo_keeps, u_mo_toldBytes, u_mo_out, u_mo_counts, u_mo_lengths, u_mo_codes, u_mo_weight, u_mo_over, u_mo_used, u_mo_row, .int mo_came, .ref h_mo_in, .int mo_at, .int mo_refused, u_mo_place, u_mo_readMany, u_mo_readSymbol, u_mo_readX, u_mo_readY, u_mo_readDiffers, u_mo_readWays]))]) [0] (by decide) rfl
      have hFc := va_free (wc := [(h_mo, .inr (1, [u_mo_thrown, u_mo_width, u_mo_height, u_mo_kind, u_mo_symbols, u_mo_wide, u_mo_high, u_mo_dark, u_mo_instances, u_mo_symbolOf, u_mo_xs, u_mo_ys, u_mo_differs, u_mo_ways, u_mo_ordered, u_mo_page, u_mo_told, u_mo_keeps, u_mo_toldBytes, u_mo_out, u_mo_counts, u_mo_lengths, u_mo_codes, u_mo_weight, u_mo_over, u_mo_used, u_mo_row, .int mo_came, .ref h_mo_in, .int mo_at, .int mo_refused, u_mo_place, u_mo_readMany, u_mo_readSymbol, u_mo_readX, u_mo_readY, u_mo_readDiffers, u_mo_readWays]))]) hD hS hA [0] rfl
      refine va_callv (va_runV (As := [.int (1 : Int32)]) (rest := []) ⟨hx, hb, hml, hown, hB⟩ (c_Mo_refuse l dC dI h_mo u_mo_thrown u_mo_width u_mo_height u_mo_kind u_mo_symbols u_mo_wide u_mo_high u_mo_dark u_mo_instances u_mo_symbolOf u_mo_xs u_mo_ys u_mo_differs u_mo_ways u_mo_ordered u_mo_page u_mo_told u_mo_keeps u_mo_toldBytes u_mo_out u_mo_counts u_mo_lengths u_mo_codes u_mo_weight u_mo_over u_mo_used u_mo_row (.int mo_came) (.ref h_mo_in) (.int mo_at) u_mo_place u_mo_readMany u_mo_readSymbol u_mo_readX u_mo_readY u_mo_readDiffers u_mo_readWays mo_refused (1 : Int32) _ o9 hc9) (cwV 1 hB (goodA (m4 bw_1148 bw_1150 bs_80 bw_13) (goodB bw_1151)) rfl rfl rfl (by decide +kernel) ⟨Nat.le_of_ble_eq_true rfl, Nat.le_of_ble_eq_true rfl⟩) ⟨fb_m, va_recv hK hP (ci := 1) (q0 := 0) rfl rfl, (pre_m hPc hKc hDc hnw [.ref h_mo, .int (1 : Int32)])⟩ rfl rfl hl.1 rfl (lv_room (Nat.le_of_ble_eq_true rfl)) d_Mo_next_23 ⟨Nat.zero_le _, Nat.zero_le _⟩) hS (fun q _ h => hFc q h) hFc (fun u9 t H1 locs ht hvm hw hB hz1 hk1 hS => ?_)
      obtain ⟨mo_refused_4, rfl⟩ : ∃ z9, z9 = u9 := ⟨_, rfl⟩
      subst hw
      obtain ⟨hP1, hK1, hD1⟩ := hB
      rw [ht] at hP1
      obtain ⟨hP, hD⟩ := va_join (wr := [(h_mo_in, .inl (c_mo_in, 2000, .inl mo_in))]) (w1 := [(h_mo, .inr (1, [u_mo_thrown, u_mo_width, u_mo_height, u_mo_kind, u_mo_symbols, u_mo_wide, u_mo_high, u_mo_dark, u_mo_instances, u_mo_symbolOf, u_mo_xs, u_mo_ys, u_mo_differs, u_mo_ways, u_mo_ordered, u_mo_page, u_mo_told, u_mo_keeps, u_mo_toldBytes, u_mo_out, u_mo_counts, u_mo_lengths, u_mo_codes, u_mo_weight, u_mo_over, u_mo_used, u_mo_row, .int mo_came, .ref h_mo_in, .int mo_at, .int mo_refused_4, u_mo_place, u_mo_readMany, u_mo_readSymbol, u_mo_readX, u_mo_readY, u_mo_readDiffers, u_mo_readWays]))]) hP hD [0] [1] rfl rfl (by decide) (by decide) hk1 hFc hP1 hD1
      have hP := hP.sub (ws' := [(h_mo, .inr (1, [u_mo_thrown, u_mo_width, u_mo_height, u_mo_kind, u_mo_symbols, u_mo_wide, u_mo_high, u_mo_dark, u_mo_instances, u_mo_symbolOf, u_mo_xs, u_mo_ys, u_mo_differs, u_mo_ways, u_mo_ordered, u_mo_page, u_mo_told, u_mo_keeps, u_mo_toldBytes, u_mo_out, u_mo_counts, u_mo_lengths, u_mo_codes, u_mo_weight, u_mo_over, u_mo_used, u_mo_row, .int mo_came, .ref h_mo_in, .int mo_at, .int mo_refused_4, u_mo_place, u_mo_readMany, u_mo_readSymbol, u_mo_readX, u_mo_readY, u_mo_readDiffers, u_mo_readWays])), (h_mo_in, .inl (c_mo_in, 2000, .inl mo_in))]) [1, 0] rfl
      have hD := hD.sub (ws' := [(h_mo, .inr (1, [u_mo_thrown, u_mo_width, u_mo_height, u_mo_kind, u_mo_symbols, u_mo_wide, u_mo_high, u_mo_dark, u_mo_instances, u_mo_symbolOf, u_mo_xs, u_mo_ys, u_mo_differs, u_mo_ways, u_mo_ordered, u_mo_page, u_mo_told, u_mo_keeps, u_mo_toldBytes, u_mo_out, u_mo_counts, u_mo_lengths, u_mo_codes, u_mo_weight, u_mo_over, u_mo_used, u_mo_row, .int mo_came, .ref h_mo_in, .int mo_at, .int mo_refused_4, u_mo_place, u_mo_readMany, u_mo_readSymbol, u_mo_readX, u_mo_readY, u_mo_readDiffers, u_mo_readWays])), (h_mo_in, .inl (c_mo_in, 2000, .inl mo_in))]) [1, 0] (by decide) rfl
      clear hPc hKc hDc hFc hc9 hP1 hK1 hD1 hk1 hz1 hvm ht
      generalize H1 = H at hP hS ⊢
      try dsimp only at h
      exact w_j26 _ _ _ _ h hP hD hS hl
set_option maxHeartbeats 4000000 in
set_option maxRecDepth 100000 in
theorem c_Mo_nextLow (l : Launch) (dC : Nat → ClassId) (dI : Nat → Nat → Nat) (h_mo : Nat) (h_mo_in : Nat) (c_mo_in : ClassId) (u_mo_thrown : Value) (u_mo_width : Value) (u_mo_height : Value) (u_mo_kind : Value) (u_mo_symbols : Value) (u_mo_wide : Value) (u_mo_high : Value) (u_mo_dark : Value) (u_mo_instances : Value) (u_mo_symbolOf : Value) (u_mo_xs : Value) (u_mo_ys : Value) (u_mo_differs : Value) (u_mo_ways : Value) (u_mo_ordered : Value) (u_mo_page : Value) (u_mo_told : Value) (u_mo_keeps : Value) (u_mo_toldBytes : Value) (u_mo_out : Value) (u_mo_counts : Value) (u_mo_lengths : Value) (u_mo_codes : Value) (u_mo_weight : Value) (u_mo_over : Value) (u_mo_used : Value) (u_mo_row : Value) (u_mo_place : Value) (u_mo_readMany : Value) (u_mo_readSymbol : Value) (u_mo_readX : Value) (u_mo_readY : Value) (u_mo_readDiffers : Value) (u_mo_readWays : Value) (mo_came : Int32) (mo_at : Int32) (mo_refused : Int32) (mo_in : (Nat → Int32)) (p0 : Int32) (sz : Nat) (o : Int32 × Int32 × Int32) (hf : f_Mo_nextLow mo_came mo_at mo_refused mo_in p0 = some o) :
    Met l y_Mo_nextLow ws_Mo_nextLow { frames := 2, cells := 0, slots := 0, locals := 42 } (va_Pc [.ref h_mo, .int p0] (PcM (dC, dI) [(h_mo, .inr (1, [u_mo_thrown, u_mo_width, u_mo_height, u_mo_kind, u_mo_symbols, u_mo_wide, u_mo_high, u_mo_dark, u_mo_instances, u_mo_symbolOf, u_mo_xs, u_mo_ys, u_mo_differs, u_mo_ways, u_mo_ordered, u_mo_page, u_mo_told, u_mo_keeps, u_mo_toldBytes, u_mo_out, u_mo_counts, u_mo_lengths, u_mo_codes, u_mo_weight, u_mo_over, u_mo_used, u_mo_row, .int mo_came, .ref h_mo_in, .int mo_at, .int mo_refused, u_mo_place, u_mo_readMany, u_mo_readSymbol, u_mo_readX, u_mo_readY, u_mo_readDiffers, u_mo_readWays])), (h_mo_in, .inl (c_mo_in, 2000, .inl mo_in))] [(c_mo_in, .int)] sz))
      (va_Qi (fun (r : Int32) (u : Int32 × Int32) => (r, u) = o) (fun u t => va_P (dC, dI) CL [(h_mo, .inr (1, [u_mo_thrown, u_mo_width, u_mo_height, u_mo_kind, u_mo_symbols, u_mo_wide, u_mo_high, u_mo_dark, u_mo_instances, u_mo_symbolOf, u_mo_xs, u_mo_ys, u_mo_differs, u_mo_ways, u_mo_ordered, u_mo_page, u_mo_told, u_mo_keeps, u_mo_toldBytes, u_mo_out, u_mo_counts, u_mo_lengths, u_mo_codes, u_mo_weight, u_mo_over, u_mo_used, u_mo_row, .int mo_came, .ref h_mo_in, .int (u.1), .int (u.2), u_mo_place, u_mo_readMany, u_mo_readSymbol, u_mo_readX, u_mo_readY, u_mo_readDiffers, u_mo_readWays])), (h_mo_in, .inl (c_mo_in, 2000, .inl mo_in))] t.heap ∧ va_K (dC, dI) CL [(c_mo_in, .int)] t ∧ va_D (va_A [(h_mo, .inr (1, [u_mo_thrown, u_mo_width, u_mo_height, u_mo_kind, u_mo_symbols, u_mo_wide, u_mo_high, u_mo_dark, u_mo_instances, u_mo_symbolOf, u_mo_xs, u_mo_ys, u_mo_differs, u_mo_ways, u_mo_ordered, u_mo_page, u_mo_told, u_mo_keeps, u_mo_toldBytes, u_mo_out, u_mo_counts, u_mo_lengths, u_mo_codes, u_mo_weight, u_mo_over, u_mo_used, u_mo_row, .int mo_came, .ref h_mo_in, .int mo_at, .int mo_refused, u_mo_place, u_mo_readMany, u_mo_readSymbol, u_mo_readX, u_mo_readY, u_mo_readDiffers, u_mo_readWays])), (h_mo_in, .inl (c_mo_in, 2000, .inl mo_in))] sz) [(h_mo, .inr (1, [u_mo_thrown, u_mo_width, u_mo_height, u_mo_kind, u_mo_symbols, u_mo_wide, u_mo_high, u_mo_dark, u_mo_instances, u_mo_symbolOf, u_mo_xs, u_mo_ys, u_mo_differs, u_mo_ways, u_mo_ordered, u_mo_page, u_mo_told, u_mo_keeps, u_mo_toldBytes, u_mo_out, u_mo_counts, u_mo_lengths, u_mo_codes, u_mo_weight, u_mo_over, u_mo_used, u_mo_row, .int mo_came, .ref h_mo_in, .int (u.1), .int (u.2), u_mo_place, u_mo_readMany, u_mo_readSymbol, u_mo_readX, u_mo_readY, u_mo_readDiffers, u_mo_readWays])), (h_mo_in, .inl (c_mo_in, 2000, .inl mo_in))]) (va_A [(h_mo, .inr (1, [u_mo_thrown, u_mo_width, u_mo_height, u_mo_kind, u_mo_symbols, u_mo_wide, u_mo_high, u_mo_dark, u_mo_instances, u_mo_symbolOf, u_mo_xs, u_mo_ys, u_mo_differs, u_mo_ways, u_mo_ordered, u_mo_page, u_mo_told, u_mo_keeps, u_mo_toldBytes, u_mo_out, u_mo_counts, u_mo_lengths, u_mo_codes, u_mo_weight, u_mo_over, u_mo_used, u_mo_row, .int mo_came, .ref h_mo_in, .int mo_at, .int mo_refused, u_mo_place, u_mo_readMany, u_mo_readSymbol, u_mo_readX, u_mo_readY, u_mo_readDiffers, u_mo_readWays])), (h_mo_in, .inl (c_mo_in, 2000, .inl mo_in))] sz)) 0 0 (va_A [(h_mo, .inr (1, [u_mo_thrown, u_mo_width, u_mo_height, u_mo_kind, u_mo_symbols, u_mo_wide, u_mo_high, u_mo_dark, u_mo_instances, u_mo_symbolOf, u_mo_xs, u_mo_ys, u_mo_differs, u_mo_ways, u_mo_ordered, u_mo_page, u_mo_told, u_mo_keeps, u_mo_toldBytes, u_mo_out, u_mo_counts, u_mo_lengths, u_mo_codes, u_mo_weight, u_mo_over, u_mo_used, u_mo_row, .int mo_came, .ref h_mo_in, .int mo_at, .int mo_refused, u_mo_place, u_mo_readMany, u_mo_readSymbol, u_mo_readX, u_mo_readY, u_mo_readDiffers, u_mo_readWays])), (h_mo_in, .inl (c_mo_in, 2000, .inl mo_in))] sz) := by
  refine Met.ofW (cc := b_Mo_nextLow) (maxL := 4) (ret := (some .int)) (by decide) rfl ?_
  intro p e s m args below meth c s₁ B hml hv
  obtain ⟨rfl, hsz, hP, hK, hD0, hnw⟩ := hv
  have hx := B.exec
  have hb := B.bytes
  have hr := B.returns
  have hts := atoms_spec (ws := ws_Mo_nextLow) B.pre
  have hB : ∀ w ∈ BIG, w.before _ s = true := fun w h => hts w (List.mem_cons_of_mem _ h)
  have hown : s.vm.findClass R_Mo = some m.cls := findClass_of_methodNamed B.named
  have hlocks := B.notSynchronized
  subst hsz
  have hD := hD0.self (sz := s.heap.size)
  refine W_Q (fun Q9 eQ => ?_)
  generalize hAe : va_A [(h_mo, .inr (1, [u_mo_thrown, u_mo_width, u_mo_height, u_mo_kind, u_mo_symbols, u_mo_wide, u_mo_high, u_mo_dark, u_mo_instances, u_mo_symbolOf, u_mo_xs, u_mo_ys, u_mo_differs, u_mo_ways, u_mo_ordered, u_mo_page, u_mo_told, u_mo_keeps, u_mo_toldBytes, u_mo_out, u_mo_counts, u_mo_lengths, u_mo_codes, u_mo_weight, u_mo_over, u_mo_used, u_mo_row, .int mo_came, .ref h_mo_in, .int mo_at, .int mo_refused, u_mo_place, u_mo_readMany, u_mo_readSymbol, u_mo_readX, u_mo_readY, u_mo_readDiffers, u_mo_readWays])), (h_mo_in, .inl (c_mo_in, 2000, .inl mo_in))] s.heap.size = A at hD eQ
  have hA : ∀ q : Nat, s.heap.size ≤ q → A q := fun q h => by rw [← hAe]; exact Or.inr h
  have hS : va_S A s.heap s.heap [] := va_S.rf
  have hl := lv_entry ([.ref h_mo, .int p0]) (n := 4) (Nat.le_of_ble_eq_true rfl)
  rw [lg_entry_eq]
  generalize (lg_sl ([.ref h_mo, .int p0]) ++ List.replicate (4 - (lg_sl ([.ref h_mo, .int p0])).length) Slot.unset).toArray = ls at hl ⊢
  have hl : lv_has ls 4 [(0, .ref h_mo), (1, .int p0)] := hl
  have h := hf
  unfold f_Mo_nextLow at h
  refine lv_iconst (v := 0) hx hb d_Mo_nextLow_0 (by decide) ?_
  refine lv_istore_n (lv' := [(2, .int (0 : Int32)), (0, .ref h_mo), (1, .int p0)]) hx hb d_Mo_nextLow_1 rfl hl (by decide) rfl (fun ls hl => ?_)
  refine lv_iconst (v := 0) hx hb d_Mo_nextLow_2 (by decide) ?_
  refine lv_istore_n (lv' := [(3, .int (0 : Int32)), (2, .int (0 : Int32)), (0, .ref h_mo), (1, .int p0)]) hx hb d_Mo_nextLow_3 rfl hl (by decide) rfl (fun ls hl => ?_)
  have w_self4 : ∀ n9 : Nat, ∀ (v3_1 : Int32) (v2_2 : Int32) (mo_at_3 : Int32) (mo_refused_4 : Int32) (H : Heap) (locs : List Loc) (ls : Array Slot), lp (f_Mo_nextLow_L4 p0 mo_came mo_in) n9 (v3_1, v2_2, mo_at_3, mo_refused_4) = some o → va_P (dC, dI) CL [(h_mo, .inr (1, [u_mo_thrown, u_mo_width, u_mo_height, u_mo_kind, u_mo_symbols, u_mo_wide, u_mo_high, u_mo_dark, u_mo_instances, u_mo_symbolOf, u_mo_xs, u_mo_ys, u_mo_differs, u_mo_ways, u_mo_ordered, u_mo_page, u_mo_told, u_mo_keeps, u_mo_toldBytes, u_mo_out, u_mo_counts, u_mo_lengths, u_mo_codes, u_mo_weight, u_mo_over, u_mo_used, u_mo_row, .int mo_came, .ref h_mo_in, .int mo_at_3, .int mo_refused_4, u_mo_place, u_mo_readMany, u_mo_readSymbol, u_mo_readX, u_mo_readY, u_mo_readDiffers, u_mo_readWays])), (h_mo_in, .inl (c_mo_in, 2000, .inl mo_in))] H → va_D A [(h_mo, .inr (1, [u_mo_thrown, u_mo_width, u_mo_height, u_mo_kind, u_mo_symbols, u_mo_wide, u_mo_high, u_mo_dark, u_mo_instances, u_mo_symbolOf, u_mo_xs, u_mo_ys, u_mo_differs, u_mo_ways, u_mo_ordered, u_mo_page, u_mo_told, u_mo_keeps, u_mo_toldBytes, u_mo_out, u_mo_counts, u_mo_lengths, u_mo_codes, u_mo_weight, u_mo_over, u_mo_used, u_mo_row, .int mo_came, .ref h_mo_in, .int mo_at_3, .int mo_refused_4, u_mo_place, u_mo_readMany, u_mo_readSymbol, u_mo_readX, u_mo_readY, u_mo_readDiffers, u_mo_readWays])), (h_mo_in, .inl (c_mo_in, 2000, .inl mo_in))] → va_S A s.heap H locs → lv_has ls 4 [(3, .int v3_1), (2, .int v2_2), (0, .ref h_mo), (1, .int p0)] → W p l e ({ frames := 2, cells := 0, slots := 0, locals := 42 } : Room) s m ([.ref h_mo, .int p0] : List Value).toArray below meth c H locs 0 0 Q9 (F0 m 4 ls []) := by
    intro n9
    induction n9 with
    | zero =>
      intro v3_1 v2_2 mo_at_3 mo_refused_4 H locs ls h hP hD hS hl
      exact absurd h (by simp [lp])
    | succ n9 ih_self4 =>
      intro v3_1 v2_2 mo_at_3 mo_refused_4 H locs ls h hP hD hS hl
      obtain ⟨self4, e_self4, h⟩ := abs_k (P := fun z9 => f_Mo_nextLow_L4 p0 mo_came mo_in z9 (v3_1, v2_2, mo_at_3, mo_refused_4) = some o) (lp_e h)
      rw [← e_self4] at ih_self4
      unfold f_Mo_nextLow_L4 at h
      try dsimp only at h
      refine lv_iload_n hx hb d_Mo_nextLow_4 rfl (lv_at hl 0 rfl) ?_
      refine lv_iload_n hx hb d_Mo_nextLow_5 rfl (lv_at hl 3 rfl) ?_
      refine lv_icmp_ge (tgt := 24) hx hb d_Mo_nextLow_6 (by decide) (fun c_1 => ?_) (fun c_1 => ?_)
      · have h := if_t h c_1
        refine lv_iload_n hx hb d_Mo_nextLow_24 rfl (lv_at hl 1 rfl) ?_
        subst eQ
        exact W.iret (v := v2_2) hx hb hr (fun t ht hW => ⟨⟨_, (mo_at_3, mo_refused_4), rfl, Option.some.inj h, by rw [ht]; exact hP, va_K.moved hW.alike hK, hD⟩, hS.F ht⟩) hS.2.2 d_Mo_nextLow_25
      · have h := if_f h c_1
        refine lv_iconst (v := 2) hx hb d_Mo_nextLow_9 (by decide) ?_
        refine lv_iload_n hx hb d_Mo_nextLow_10 rfl (lv_at hl 1 rfl) ?_
        refine lv_imul hx hb d_Mo_nextLow_11 ?_
        refine lv_aload_n hx hb d_Mo_nextLow_12 rfl (lv_at hl 2 rfl) ?_
        obtain ⟨o9, hc9, h⟩ := bd_e h
        have hPc := hP.sub (ws' := [(h_mo, .inr (1, [u_mo_thrown, u_mo_width, u_mo_height, u_mo_kind, u_mo_symbols, u_mo_wide, u_mo_high, u_mo_dark, u_mo_instances, u_mo_symbolOf, u_mo_xs, u_mo_ys, u_mo_differs, u_mo_ways, u_mo_ordered, u_mo_page, u_mo_told, u_mo_keeps, u_mo_toldBytes, u_mo_out, u_mo_counts, u_mo_lengths, u_mo_codes, u_mo_weight, u_mo_over, u_mo_used, u_mo_row, .int mo_came, .ref h_mo_in, .int mo_at_3, .int mo_refused_4, u_mo_place, u_mo_readMany, u_mo_readSymbol, u_mo_readX, u_mo_readY, u_mo_readDiffers, u_mo_readWays])), (h_mo_in, .inl (c_mo_in, 2000, .inl mo_in))]) [0, 1] rfl
        have hKc := hK.sub (tys' := [(c_mo_in, .int)]) [0] rfl
        have hDc := hD.sub (ws' := [(h_mo, .inr (1, [u_mo_thrown, u_mo_width, u_mo_height, u_mo_kind, u_mo_symbols, u_mo_wide, u_mo_high, u_mo_dark, u_mo_instances, u_mo_symbolOf, u_mo_xs, u_mo_ys, u_mo_differs, u_mo_ways, u_mo_ordered, u_mo_page, u_mo_told, u_mo_keeps, u_mo_toldBytes, u_mo_out, u_mo_counts, u_mo_lengths, u_mo_codes, u_mo_weight, u_mo_over, u_mo_used, u_mo_row, .int mo_came, .ref h_mo_in, .int mo_at_3, .int mo_refused_4, u_mo_place, u_mo_readMany, u_mo_readSymbol, u_mo_readX, u_mo_readY, u_mo_readDiffers, u_mo_readWays])), (h_mo_in, .inl (c_mo_in, 2000, .inl mo_in))]) [0, 1] (by decide) rfl
        have hFc := va_free (wc := [(h_mo, .inr (1, [u_mo_thrown, u_mo_width, u_mo_height, u_mo_kind, u_mo_symbols, u_mo_wide, u_mo_high, u_mo_dark, u_mo_instances, u_mo_symbolOf, u_mo_xs, u_mo_ys, u_mo_differs, u_mo_ways, u_mo_ordered, u_mo_page, u_mo_told, u_mo_keeps, u_mo_toldBytes, u_mo_out, u_mo_counts, u_mo_lengths, u_mo_codes, u_mo_weight, u_mo_over, u_mo_used, u_mo_row, .int mo_came, .ref h_mo_in, .int mo_at_3, .int mo_refused_4, u_mo_place, u_mo_readMany, u_mo_readSymbol, u_mo_readX, u_mo_readY, u_mo_readDiffers, u_mo_readWays])), (h_mo_in, .inl (c_mo_in, 2000, .inl mo_in))]) hD hS hA [0, 1] rfl
        refine va_calli (va_runV (As := []) (rest := [.int ((2 : Int32) * v2_2)]) ⟨hx, hb, hml, hown, hB⟩ (c_Mo_next l dC dI h_mo h_mo_in c_mo_in u_mo_thrown u_mo_width u_mo_height u_mo_kind u_mo_symbols u_mo_wide u_mo_high u_mo_dark u_mo_instances u_mo_symbolOf u_mo_xs u_mo_ys u_mo_differs u_mo_ways u_mo_ordered u_mo_page u_mo_told u_mo_keeps u_mo_toldBytes u_mo_out u_mo_counts u_mo_lengths u_mo_codes u_mo_weight u_mo_over u_mo_used u_mo_row u_mo_place u_mo_readMany u_mo_readSymbol u_mo_readX u_mo_readY u_mo_readDiffers u_mo_readWays mo_came mo_at_3 mo_refused_4 mo_in _ o9 hc9) (cwV 0 hB (goodA (m4 bw_1144 bw_1146 bs_79 bw_13) (goodB bw_1147)) rfl rfl rfl (by decide +kernel) ⟨Nat.le_of_ble_eq_true rfl, Nat.le_of_ble_eq_true rfl⟩) ⟨fb_m, va_recv hK hP (ci := 1) (q0 := 0) rfl rfl, (pre_m hPc hKc hDc hnw [.ref h_mo])⟩ rfl rfl hl.1 rfl (lv_room (Nat.le_of_ble_eq_true rfl)) d_Mo_nextLow_13 ⟨Nat.zero_le _, Nat.zero_le _⟩) hS (fun q _ h => hFc q h) hFc (fun r_5 u9 t H1 locs ht hvm hw hB hz1 hk1 hS => ?_)
        obtain ⟨mo_at_6, mo_refused_7⟩ := u9
        subst hw
        obtain ⟨hP1, hK1, hD1⟩ := hB
        rw [ht] at hP1
        obtain ⟨hP, hD⟩ := va_join (wr := []) (w1 := [(h_mo, .inr (1, [u_mo_thrown, u_mo_width, u_mo_height, u_mo_kind, u_mo_symbols, u_mo_wide, u_mo_high, u_mo_dark, u_mo_instances, u_mo_symbolOf, u_mo_xs, u_mo_ys, u_mo_differs, u_mo_ways, u_mo_ordered, u_mo_page, u_mo_told, u_mo_keeps, u_mo_toldBytes, u_mo_out, u_mo_counts, u_mo_lengths, u_mo_codes, u_mo_weight, u_mo_over, u_mo_used, u_mo_row, .int mo_came, .ref h_mo_in, .int mo_at_6, .int mo_refused_7, u_mo_place, u_mo_readMany, u_mo_readSymbol, u_mo_readX, u_mo_readY, u_mo_readDiffers, u_mo_readWays])), (h_mo_in, .inl (c_mo_in, 2000, .inl mo_in))]) hP hD [0, 1] [] rfl rfl (by decide) (by decide) hk1 hFc hP1 hD1
        have hP := hP.sub (ws' := [(h_mo, .inr (1, [u_mo_thrown, u_mo_width, u_mo_height, u_mo_kind, u_mo_symbols, u_mo_wide, u_mo_high, u_mo_dark, u_mo_instances, u_mo_symbolOf, u_mo_xs, u_mo_ys, u_mo_differs, u_mo_ways, u_mo_ordered, u_mo_page, u_mo_told, u_mo_keeps, u_mo_toldBytes, u_mo_out, u_mo_counts, u_mo_lengths, u_mo_codes, u_mo_weight, u_mo_over, u_mo_used, u_mo_row, .int mo_came, .ref h_mo_in, .int mo_at_6, .int mo_refused_7, u_mo_place, u_mo_readMany, u_mo_readSymbol, u_mo_readX, u_mo_readY, u_mo_readDiffers, u_mo_readWays])), (h_mo_in, .inl (c_mo_in, 2000, .inl mo_in))]) [0, 1] rfl
        have hD := hD.sub (ws' := [(h_mo, .inr (1, [u_mo_thrown, u_mo_width, u_mo_height, u_mo_kind, u_mo_symbols, u_mo_wide, u_mo_high, u_mo_dark, u_mo_instances, u_mo_symbolOf, u_mo_xs, u_mo_ys, u_mo_differs, u_mo_ways, u_mo_ordered, u_mo_page, u_mo_told, u_mo_keeps, u_mo_toldBytes, u_mo_out, u_mo_counts, u_mo_lengths, u_mo_codes, u_mo_weight, u_mo_over, u_mo_used, u_mo_row, .int mo_came, .ref h_mo_in, .int mo_at_6, .int mo_refused_7, u_mo_place, u_mo_readMany, u_mo_readSymbol, u_mo_readX, u_mo_readY, u_mo_readDiffers, u_mo_readWays])), (h_mo_in, .inl (c_mo_in, 2000, .inl mo_in))]) [0, 1] (by decide) rfl
        clear hPc hKc hDc hFc hc9 hP1 hK1 hD1 hk1 hz1 hvm ht
        generalize H1 = H at hP hS ⊢
        try dsimp only at h
        refine lv_iadd hx hb d_Mo_nextLow_16 ?_
        refine lv_topi (fun v2_8 e_v2_8 => ?_)
        have h := nl_u e_v2_8 h
        refine lv_istore_n (lv' := [(2, .int v2_8), (3, .int v3_1), (0, .ref h_mo), (1, .int p0)]) hx hb d_Mo_nextLow_17 rfl hl (by decide) rfl (fun ls hl => ?_)
        obtain ⟨v3_9, e_v3_9⟩ : ∃ y9 : Int32, y9 = (v3_1 + (1 : Int32)) := ⟨_, rfl⟩
        have h := nl_u e_v3_9 h
        refine lv_iinc (v := v3_9) (lv' := [(3, .int v3_9), (2, .int v2_8), (0, .ref h_mo), (1, .int p0)]) hx hb d_Mo_nextLow_18 hl (k := 1) rfl (by rw [e_v3_9]; rfl) (by decide) rfl (fun ls hl => ?_)
        refine lv_goto (tgt := 4) hx hb d_Mo_nextLow_21 (by decide) ?_
        exact ih_self4 _ _ _ _ _ _ _ h hP hD hS hl
  exact w_self4 FU _ _ _ _ _ _ _ h hP hD hS hl
set_option maxHeartbeats 4000000 in
set_option maxRecDepth 100000 in
theorem c_Mo_nextNumber (l : Launch) (dC : Nat → ClassId) (dI : Nat → Nat → Nat) (h_mo : Nat) (h_mo_in : Nat) (c_mo_in : ClassId) (u_mo_thrown : Value) (u_mo_width : Value) (u_mo_height : Value) (u_mo_kind : Value) (u_mo_symbols : Value) (u_mo_wide : Value) (u_mo_high : Value) (u_mo_dark : Value) (u_mo_instances : Value) (u_mo_symbolOf : Value) (u_mo_xs : Value) (u_mo_ys : Value) (u_mo_differs : Value) (u_mo_ways : Value) (u_mo_ordered : Value) (u_mo_page : Value) (u_mo_told : Value) (u_mo_keeps : Value) (u_mo_toldBytes : Value) (u_mo_out : Value) (u_mo_counts : Value) (u_mo_lengths : Value) (u_mo_codes : Value) (u_mo_weight : Value) (u_mo_over : Value) (u_mo_used : Value) (u_mo_row : Value) (u_mo_place : Value) (u_mo_readMany : Value) (u_mo_readSymbol : Value) (u_mo_readX : Value) (u_mo_readY : Value) (u_mo_readDiffers : Value) (u_mo_readWays : Value) (mo_came : Int32) (mo_at : Int32) (mo_refused : Int32) (mo_in : (Nat → Int32)) (sz : Nat) (o : Int32 × Int32 × Int32) (hf : f_Mo_nextNumber mo_came mo_at mo_refused mo_in = some o) :
    Met l y_Mo_nextNumber ws_Mo_nextNumber { frames := 3, cells := 0, slots := 0, locals := 65 } (va_Pc [.ref h_mo] (PcM (dC, dI) [(h_mo, .inr (1, [u_mo_thrown, u_mo_width, u_mo_height, u_mo_kind, u_mo_symbols, u_mo_wide, u_mo_high, u_mo_dark, u_mo_instances, u_mo_symbolOf, u_mo_xs, u_mo_ys, u_mo_differs, u_mo_ways, u_mo_ordered, u_mo_page, u_mo_told, u_mo_keeps, u_mo_toldBytes, u_mo_out, u_mo_counts, u_mo_lengths, u_mo_codes, u_mo_weight, u_mo_over, u_mo_used, u_mo_row, .int mo_came, .ref h_mo_in, .int mo_at, .int mo_refused, u_mo_place, u_mo_readMany, u_mo_readSymbol, u_mo_readX, u_mo_readY, u_mo_readDiffers, u_mo_readWays])), (h_mo_in, .inl (c_mo_in, 2000, .inl mo_in))] [(c_mo_in, .int)] sz))
      (va_Qi (fun (r : Int32) (u : Int32 × Int32) => (r, u) = o) (fun u t => va_P (dC, dI) CL [(h_mo, .inr (1, [u_mo_thrown, u_mo_width, u_mo_height, u_mo_kind, u_mo_symbols, u_mo_wide, u_mo_high, u_mo_dark, u_mo_instances, u_mo_symbolOf, u_mo_xs, u_mo_ys, u_mo_differs, u_mo_ways, u_mo_ordered, u_mo_page, u_mo_told, u_mo_keeps, u_mo_toldBytes, u_mo_out, u_mo_counts, u_mo_lengths, u_mo_codes, u_mo_weight, u_mo_over, u_mo_used, u_mo_row, .int mo_came, .ref h_mo_in, .int (u.1), .int (u.2), u_mo_place, u_mo_readMany, u_mo_readSymbol, u_mo_readX, u_mo_readY, u_mo_readDiffers, u_mo_readWays])), (h_mo_in, .inl (c_mo_in, 2000, .inl mo_in))] t.heap ∧ va_K (dC, dI) CL [(c_mo_in, .int)] t ∧ va_D (va_A [(h_mo, .inr (1, [u_mo_thrown, u_mo_width, u_mo_height, u_mo_kind, u_mo_symbols, u_mo_wide, u_mo_high, u_mo_dark, u_mo_instances, u_mo_symbolOf, u_mo_xs, u_mo_ys, u_mo_differs, u_mo_ways, u_mo_ordered, u_mo_page, u_mo_told, u_mo_keeps, u_mo_toldBytes, u_mo_out, u_mo_counts, u_mo_lengths, u_mo_codes, u_mo_weight, u_mo_over, u_mo_used, u_mo_row, .int mo_came, .ref h_mo_in, .int mo_at, .int mo_refused, u_mo_place, u_mo_readMany, u_mo_readSymbol, u_mo_readX, u_mo_readY, u_mo_readDiffers, u_mo_readWays])), (h_mo_in, .inl (c_mo_in, 2000, .inl mo_in))] sz) [(h_mo, .inr (1, [u_mo_thrown, u_mo_width, u_mo_height, u_mo_kind, u_mo_symbols, u_mo_wide, u_mo_high, u_mo_dark, u_mo_instances, u_mo_symbolOf, u_mo_xs, u_mo_ys, u_mo_differs, u_mo_ways, u_mo_ordered, u_mo_page, u_mo_told, u_mo_keeps, u_mo_toldBytes, u_mo_out, u_mo_counts, u_mo_lengths, u_mo_codes, u_mo_weight, u_mo_over, u_mo_used, u_mo_row, .int mo_came, .ref h_mo_in, .int (u.1), .int (u.2), u_mo_place, u_mo_readMany, u_mo_readSymbol, u_mo_readX, u_mo_readY, u_mo_readDiffers, u_mo_readWays])), (h_mo_in, .inl (c_mo_in, 2000, .inl mo_in))]) (va_A [(h_mo, .inr (1, [u_mo_thrown, u_mo_width, u_mo_height, u_mo_kind, u_mo_symbols, u_mo_wide, u_mo_high, u_mo_dark, u_mo_instances, u_mo_symbolOf, u_mo_xs, u_mo_ys, u_mo_differs, u_mo_ways, u_mo_ordered, u_mo_page, u_mo_told, u_mo_keeps, u_mo_toldBytes, u_mo_out, u_mo_counts, u_mo_lengths, u_mo_codes, u_mo_weight, u_mo_over, u_mo_used, u_mo_row, .int mo_came, .ref h_mo_in, .int mo_at, .int mo_refused, u_mo_place, u_mo_readMany, u_mo_readSymbol, u_mo_readX, u_mo_readY, u_mo_readDiffers, u_mo_readWays])), (h_mo_in, .inl (c_mo_in, 2000, .inl mo_in))] sz)) 0 0 (va_A [(h_mo, .inr (1, [u_mo_thrown, u_mo_width, u_mo_height, u_mo_kind, u_mo_symbols, u_mo_wide, u_mo_high, u_mo_dark, u_mo_instances, u_mo_symbolOf, u_mo_xs, u_mo_ys, u_mo_differs, u_mo_ways, u_mo_ordered, u_mo_page, u_mo_told, u_mo_keeps, u_mo_toldBytes, u_mo_out, u_mo_counts, u_mo_lengths, u_mo_codes, u_mo_weight, u_mo_over, u_mo_used, u_mo_row, .int mo_came, .ref h_mo_in, .int mo_at, .int mo_refused, u_mo_place, u_mo_readMany, u_mo_readSymbol, u_mo_readX, u_mo_readY, u_mo_readDiffers, u_mo_readWays])), (h_mo_in, .inl (c_mo_in, 2000, .inl mo_in))] sz) := by
  refine Met.ofW (cc := b_Mo_nextNumber) (maxL := 4) (ret := (some .int)) (by decide) rfl ?_
  intro p e s m args below meth c s₁ B hml hv
  obtain ⟨rfl, hsz, hP, hK, hD0, hnw⟩ := hv
  have hx := B.exec
  have hb := B.bytes
  have hr := B.returns
  have hts := atoms_spec (ws := ws_Mo_nextNumber) B.pre
  have hB : ∀ w ∈ BIG, w.before _ s = true := fun w h => hts w (List.mem_cons_of_mem _ h)
  have hown : s.vm.findClass R_Mo = some m.cls := findClass_of_methodNamed B.named
  have hlocks := B.notSynchronized
  subst hsz
  have hD := hD0.self (sz := s.heap.size)
  refine W_Q (fun Q9 eQ => ?_)
  generalize hAe : va_A [(h_mo, .inr (1, [u_mo_thrown, u_mo_width, u_mo_height, u_mo_kind, u_mo_symbols, u_mo_wide, u_mo_high, u_mo_dark, u_mo_instances, u_mo_symbolOf, u_mo_xs, u_mo_ys, u_mo_differs, u_mo_ways, u_mo_ordered, u_mo_page, u_mo_told, u_mo_keeps, u_mo_toldBytes, u_mo_out, u_mo_counts, u_mo_lengths, u_mo_codes, u_mo_weight, u_mo_over, u_mo_used, u_mo_row, .int mo_came, .ref h_mo_in, .int mo_at, .int mo_refused, u_mo_place, u_mo_readMany, u_mo_readSymbol, u_mo_readX, u_mo_readY, u_mo_readDiffers, u_mo_readWays])), (h_mo_in, .inl (c_mo_in, 2000, .inl mo_in))] s.heap.size = A at hD eQ
  have hA : ∀ q : Nat, s.heap.size ≤ q → A q := fun q h => by rw [← hAe]; exact Or.inr h
  have hS : va_S A s.heap s.heap [] := va_S.rf
  have hl := lv_entry ([.ref h_mo]) (n := 4) (Nat.le_of_ble_eq_true rfl)
  rw [lg_entry_eq]
  generalize (lg_sl ([.ref h_mo]) ++ List.replicate (4 - (lg_sl ([.ref h_mo])).length) Slot.unset).toArray = ls at hl ⊢
  have hl : lv_has ls 4 [(0, .ref h_mo)] := hl
  have h := hf
  unfold f_Mo_nextNumber at h
  refine lv_iconst (v := 0) hx hb d_Mo_nextNumber_0 (by decide) ?_
  refine lv_istore_n (lv' := [(1, .int (0 : Int32)), (0, .ref h_mo)]) hx hb d_Mo_nextNumber_1 rfl hl (by decide) rfl (fun ls hl => ?_)
  refine lv_aload_n hx hb d_Mo_nextNumber_2 rfl (lv_at hl 1 rfl) ?_
  obtain ⟨o9, hc9, h⟩ := bd_e h
  have hPc := hP.sub (ws' := [(h_mo, .inr (1, [u_mo_thrown, u_mo_width, u_mo_height, u_mo_kind, u_mo_symbols, u_mo_wide, u_mo_high, u_mo_dark, u_mo_instances, u_mo_symbolOf, u_mo_xs, u_mo_ys, u_mo_differs, u_mo_ways, u_mo_ordered, u_mo_page, u_mo_told, u_mo_keeps, u_mo_toldBytes, u_mo_out, u_mo_counts, u_mo_lengths, u_mo_codes, u_mo_weight, u_mo_over, u_mo_used, u_mo_row, .int mo_came, .ref h_mo_in, .int mo_at, .int mo_refused, u_mo_place, u_mo_readMany, u_mo_readSymbol, u_mo_readX, u_mo_readY, u_mo_readDiffers, u_mo_readWays])), (h_mo_in, .inl (c_mo_in, 2000, .inl mo_in))]) [0, 1] rfl
  have hKc := hK.sub (tys' := [(c_mo_in, .int)]) [0] rfl
  have hDc := hD.sub (ws' := [(h_mo, .inr (1, [u_mo_thrown, u_mo_width, u_mo_height, u_mo_kind, u_mo_symbols, u_mo_wide, u_mo_high, u_mo_dark, u_mo_instances, u_mo_symbolOf, u_mo_xs, u_mo_ys, u_mo_differs, u_mo_ways, u_mo_ordered, u_mo_page, u_mo_told, u_mo_keeps, u_mo_toldBytes, u_mo_out, u_mo_counts, u_mo_lengths, u_mo_codes, u_mo_weight, u_mo_over, u_mo_used, u_mo_row, .int mo_came, .ref h_mo_in, .int mo_at, .int mo_refused, u_mo_place, u_mo_readMany, u_mo_readSymbol, u_mo_readX, u_mo_readY, u_mo_readDiffers, u_mo_readWays])), (h_mo_in, .inl (c_mo_in, 2000, .inl mo_in))]) [0, 1] (by decide) rfl
  have hFc := va_free (wc := [(h_mo, .inr (1, [u_mo_thrown, u_mo_width, u_mo_height, u_mo_kind, u_mo_symbols, u_mo_wide, u_mo_high, u_mo_dark, u_mo_instances, u_mo_symbolOf, u_mo_xs, u_mo_ys, u_mo_differs, u_mo_ways, u_mo_ordered, u_mo_page, u_mo_told, u_mo_keeps, u_mo_toldBytes, u_mo_out, u_mo_counts, u_mo_lengths, u_mo_codes, u_mo_weight, u_mo_over, u_mo_used, u_mo_row, .int mo_came, .ref h_mo_in, .int mo_at, .int mo_refused, u_mo_place, u_mo_readMany, u_mo_readSymbol, u_mo_readX, u_mo_readY, u_mo_readDiffers, u_mo_readWays])), (h_mo_in, .inl (c_mo_in, 2000, .inl mo_in))]) hD hS hA [0, 1] rfl
  refine va_calli (va_runV (As := []) (rest := []) ⟨hx, hb, hml, hown, hB⟩ (c_Mo_next l dC dI h_mo h_mo_in c_mo_in u_mo_thrown u_mo_width u_mo_height u_mo_kind u_mo_symbols u_mo_wide u_mo_high u_mo_dark u_mo_instances u_mo_symbolOf u_mo_xs u_mo_ys u_mo_differs u_mo_ways u_mo_ordered u_mo_page u_mo_told u_mo_keeps u_mo_toldBytes u_mo_out u_mo_counts u_mo_lengths u_mo_codes u_mo_weight u_mo_over u_mo_used u_mo_row u_mo_place u_mo_readMany u_mo_readSymbol u_mo_readX u_mo_readY u_mo_readDiffers u_mo_readWays mo_came mo_at mo_refused mo_in _ o9 hc9) (cwV 0 hB (goodA (m4 bw_1144 bw_1146 bs_79 bw_13) (goodB bw_1147)) rfl rfl rfl (by decide +kernel) ⟨Nat.le_of_ble_eq_true rfl, Nat.le_of_ble_eq_true rfl⟩) ⟨fb_m, va_recv hK hP (ci := 1) (q0 := 0) rfl rfl, (pre_m hPc hKc hDc hnw [.ref h_mo])⟩ rfl rfl hl.1 rfl (lv_room (Nat.le_of_ble_eq_true rfl)) d_Mo_nextNumber_3 ⟨Nat.zero_le _, Nat.zero_le _⟩) hS (fun q _ h => hFc q h) hFc (fun r_1 u9 t H1 locs ht hvm hw hB hz1 hk1 hS => ?_)
  obtain ⟨mo_at_2, mo_refused_3⟩ := u9
  subst hw
  obtain ⟨hP1, hK1, hD1⟩ := hB
  rw [ht] at hP1
  obtain ⟨hP, hD⟩ := va_join (wr := []) (w1 := [(h_mo, .inr (1, [u_mo_thrown, u_mo_width, u_mo_height, u_mo_kind, u_mo_symbols, u_mo_wide, u_mo_high, u_mo_dark, u_mo_instances, u_mo_symbolOf, u_mo_xs, u_mo_ys, u_mo_differs, u_mo_ways, u_mo_ordered, u_mo_page, u_mo_told, u_mo_keeps, u_mo_toldBytes, u_mo_out, u_mo_counts, u_mo_lengths, u_mo_codes, u_mo_weight, u_mo_over, u_mo_used, u_mo_row, .int mo_came, .ref h_mo_in, .int mo_at_2, .int mo_refused_3, u_mo_place, u_mo_readMany, u_mo_readSymbol, u_mo_readX, u_mo_readY, u_mo_readDiffers, u_mo_readWays])), (h_mo_in, .inl (c_mo_in, 2000, .inl mo_in))]) hP hD [0, 1] [] rfl rfl (by decide) (by decide) hk1 hFc hP1 hD1
  have hP := hP.sub (ws' := [(h_mo, .inr (1, [u_mo_thrown, u_mo_width, u_mo_height, u_mo_kind, u_mo_symbols, u_mo_wide, u_mo_high, u_mo_dark, u_mo_instances, u_mo_symbolOf, u_mo_xs, u_mo_ys, u_mo_differs, u_mo_ways, u_mo_ordered, u_mo_page, u_mo_told, u_mo_keeps, u_mo_toldBytes, u_mo_out, u_mo_counts, u_mo_lengths, u_mo_codes, u_mo_weight, u_mo_over, u_mo_used, u_mo_row, .int mo_came, .ref h_mo_in, .int mo_at_2, .int mo_refused_3, u_mo_place, u_mo_readMany, u_mo_readSymbol, u_mo_readX, u_mo_readY, u_mo_readDiffers, u_mo_readWays])), (h_mo_in, .inl (c_mo_in, 2000, .inl mo_in))]) [0, 1] rfl
  have hD := hD.sub (ws' := [(h_mo, .inr (1, [u_mo_thrown, u_mo_width, u_mo_height, u_mo_kind, u_mo_symbols, u_mo_wide, u_mo_high, u_mo_dark, u_mo_instances, u_mo_symbolOf, u_mo_xs, u_mo_ys, u_mo_differs, u_mo_ways, u_mo_ordered, u_mo_page, u_mo_told, u_mo_keeps, u_mo_toldBytes, u_mo_out, u_mo_counts, u_mo_lengths, u_mo_codes, u_mo_weight, u_mo_over, u_mo_used, u_mo_row, .int mo_came, .ref h_mo_in, .int mo_at_2, .int mo_refused_3, u_mo_place, u_mo_readMany, u_mo_readSymbol, u_mo_readX, u_mo_readY, u_mo_readDiffers, u_mo_readWays])), (h_mo_in, .inl (c_mo_in, 2000, .inl mo_in))]) [0, 1] (by decide) rfl
  clear hPc hKc hDc hFc hc9 hP1 hK1 hD1 hk1 hz1 hvm ht
  generalize H1 = H at hP hS ⊢
  try dsimp only at h
  refine lv_istore_n (lv' := [(2, .int r_1), (1, .int (0 : Int32)), (0, .ref h_mo)]) hx hb d_Mo_nextNumber_6 rfl hl (by decide) rfl (fun ls hl => ?_)
  obtain ⟨k44, e_k44, h⟩ := abs_k (P := fun k9 => lp (f_Mo_nextNumber_L7 mo_came mo_in k9) FU (r_1, (0 : Int32), mo_at_2, mo_refused_3) = some o) h
  have w_k44 : ∀ (v1_8 : Int32) (mo_at_9 : Int32) (mo_refused_10 : Int32) (H : Heap) (locs : List Loc) (ls : Array Slot), k44 v1_8 mo_at_9 mo_refused_10 = some o → va_P (dC, dI) CL [(h_mo, .inr (1, [u_mo_thrown, u_mo_width, u_mo_height, u_mo_kind, u_mo_symbols, u_mo_wide, u_mo_high, u_mo_dark, u_mo_instances, u_mo_symbolOf, u_mo_xs, u_mo_ys, u_mo_differs, u_mo_ways, u_mo_ordered, u_mo_page, u_mo_told, u_mo_keeps, u_mo_toldBytes, u_mo_out, u_mo_counts, u_mo_lengths, u_mo_codes, u_mo_weight, u_mo_over, u_mo_used, u_mo_row, .int mo_came, .ref h_mo_in, .int mo_at_9, .int mo_refused_10, u_mo_place, u_mo_readMany, u_mo_readSymbol, u_mo_readX, u_mo_readY, u_mo_readDiffers, u_mo_readWays])), (h_mo_in, .inl (c_mo_in, 2000, .inl mo_in))] H → va_D A [(h_mo, .inr (1, [u_mo_thrown, u_mo_width, u_mo_height, u_mo_kind, u_mo_symbols, u_mo_wide, u_mo_high, u_mo_dark, u_mo_instances, u_mo_symbolOf, u_mo_xs, u_mo_ys, u_mo_differs, u_mo_ways, u_mo_ordered, u_mo_page, u_mo_told, u_mo_keeps, u_mo_toldBytes, u_mo_out, u_mo_counts, u_mo_lengths, u_mo_codes, u_mo_weight, u_mo_over, u_mo_used, u_mo_row, .int mo_came, .ref h_mo_in, .int mo_at_9, .int mo_refused_10, u_mo_place, u_mo_readMany, u_mo_readSymbol, u_mo_readX, u_mo_readY, u_mo_readDiffers, u_mo_readWays])), (h_mo_in, .inl (c_mo_in, 2000, .inl mo_in))] → va_S A s.heap H locs → lv_has ls 4 [(1, .int v1_8), (0, .ref h_mo)] → W p l e ({ frames := 3, cells := 0, slots := 0, locals := 65 } : Room) s m ([.ref h_mo] : List Value).toArray below meth c H locs 0 0 Q9 (F0 m 44 ls []) := by
    intro v1_8 mo_at_9 mo_refused_10 H locs ls h hP hD hS hl
    rw [e_k44] at h
    refine lv_iconst (v := 1) hx hb d_Mo_nextNumber_44 (by decide) ?_
    refine lv_iload_n hx hb d_Mo_nextNumber_45 rfl (lv_at hl 0 rfl) ?_
    refine lv_ishl hx hb d_Mo_nextNumber_46 ?_
    refine lv_aload_n hx hb d_Mo_nextNumber_47 rfl (lv_at hl 1 rfl) ?_
    refine lv_iload_n hx hb d_Mo_nextNumber_48 rfl (lv_at hl 0 rfl) ?_
    obtain ⟨o9, hc9, h⟩ := bd_e h
    have hPc := hP.sub (ws' := [(h_mo, .inr (1, [u_mo_thrown, u_mo_width, u_mo_height, u_mo_kind, u_mo_symbols, u_mo_wide, u_mo_high, u_mo_dark, u_mo_instances, u_mo_symbolOf, u_mo_xs, u_mo_ys, u_mo_differs, u_mo_ways, u_mo_ordered, u_mo_page, u_mo_told, u_mo_keeps, u_mo_toldBytes, u_mo_out, u_mo_counts, u_mo_lengths, u_mo_codes, u_mo_weight, u_mo_over, u_mo_used, u_mo_row, .int mo_came, .ref h_mo_in, .int mo_at_9, .int mo_refused_10, u_mo_place, u_mo_readMany, u_mo_readSymbol, u_mo_readX, u_mo_readY, u_mo_readDiffers, u_mo_readWays])), (h_mo_in, .inl (c_mo_in, 2000, .inl mo_in))]) [0, 1] rfl
    have hKc := hK.sub (tys' := [(c_mo_in, .int)]) [0] rfl
    have hDc := hD.sub (ws' := [(h_mo, .inr (1, [u_mo_thrown, u_mo_width, u_mo_height, u_mo_kind, u_mo_symbols, u_mo_wide, u_mo_high, u_mo_dark, u_mo_instances, u_mo_symbolOf, u_mo_xs, u_mo_ys, u_mo_differs, u_mo_ways, u_mo_ordered, u_mo_page, u_mo_told, u_mo_keeps, u_mo_toldBytes, u_mo_out, u_mo_counts, u_mo_lengths, u_mo_codes, u_mo_weight, u_mo_over, u_mo_used, u_mo_row, .int mo_came, .ref h_mo_in, .int mo_at_9, .int mo_refused_10, u_mo_place, u_mo_readMany, u_mo_readSymbol, u_mo_readX, u_mo_readY, u_mo_readDiffers, u_mo_readWays])), (h_mo_in, .inl (c_mo_in, 2000, .inl mo_in))]) [0, 1] (by decide) rfl
    have hFc := va_free (wc := [(h_mo, .inr (1, [u_mo_thrown, u_mo_width, u_mo_height, u_mo_kind, u_mo_symbols, u_mo_wide, u_mo_high, u_mo_dark, u_mo_instances, u_mo_symbolOf, u_mo_xs, u_mo_ys, u_mo_differs, u_mo_ways, u_mo_ordered, u_mo_page, u_mo_told, u_mo_keeps, u_mo_toldBytes, u_mo_out, u_mo_counts, u_mo_lengths, u_mo_codes, u_mo_weight, u_mo_over, u_mo_used, u_mo_row, .int mo_came, .ref h_mo_in, .int mo_at_9, .int mo_refused_10, u_mo_place, u_mo_readMany, u_mo_readSymbol, u_mo_readX, u_mo_readY, u_mo_readDiffers, u_mo_readWays])), (h_mo_in, .inl (c_mo_in, 2000, .inl mo_in))]) hD hS hA [0, 1] rfl
    refine va_calli (va_runV (As := [.int v1_8]) (rest := [.int ((1 : Int32) <<< (v1_8 &&& 31))]) ⟨hx, hb, hml, hown, hB⟩ (c_Mo_nextLow l dC dI h_mo h_mo_in c_mo_in u_mo_thrown u_mo_width u_mo_height u_mo_kind u_mo_symbols u_mo_wide u_mo_high u_mo_dark u_mo_instances u_mo_symbolOf u_mo_xs u_mo_ys u_mo_differs u_mo_ways u_mo_ordered u_mo_page u_mo_told u_mo_keeps u_mo_toldBytes u_mo_out u_mo_counts u_mo_lengths u_mo_codes u_mo_weight u_mo_over u_mo_used u_mo_row u_mo_place u_mo_readMany u_mo_readSymbol u_mo_readX u_mo_readY u_mo_readDiffers u_mo_readWays mo_came mo_at_9 mo_refused_10 mo_in v1_8 _ o9 hc9) (cwV 1 hB (goodA (m4 bw_1152 bw_1154 bs_81 bw_13) (goodB bw_1155)) rfl rfl rfl (by decide +kernel) ⟨Nat.le_of_ble_eq_true rfl, Nat.le_of_ble_eq_true rfl⟩) ⟨fb_m, va_recv hK hP (ci := 1) (q0 := 0) rfl rfl, (pre_m hPc hKc hDc hnw [.ref h_mo, .int v1_8])⟩ rfl rfl hl.1 rfl (lv_room (Nat.le_of_ble_eq_true rfl)) d_Mo_nextNumber_49 ⟨Nat.zero_le _, Nat.zero_le _⟩) hS (fun q _ h => hFc q h) hFc (fun r_16 u9 t H1 locs ht hvm hw hB hz1 hk1 hS => ?_)
    obtain ⟨mo_at_17, mo_refused_18⟩ := u9
    subst hw
    obtain ⟨hP1, hK1, hD1⟩ := hB
    rw [ht] at hP1
    obtain ⟨hP, hD⟩ := va_join (wr := []) (w1 := [(h_mo, .inr (1, [u_mo_thrown, u_mo_width, u_mo_height, u_mo_kind, u_mo_symbols, u_mo_wide, u_mo_high, u_mo_dark, u_mo_instances, u_mo_symbolOf, u_mo_xs, u_mo_ys, u_mo_differs, u_mo_ways, u_mo_ordered, u_mo_page, u_mo_told, u_mo_keeps, u_mo_toldBytes, u_mo_out, u_mo_counts, u_mo_lengths, u_mo_codes, u_mo_weight, u_mo_over, u_mo_used, u_mo_row, .int mo_came, .ref h_mo_in, .int mo_at_17, .int mo_refused_18, u_mo_place, u_mo_readMany, u_mo_readSymbol, u_mo_readX, u_mo_readY, u_mo_readDiffers, u_mo_readWays])), (h_mo_in, .inl (c_mo_in, 2000, .inl mo_in))]) hP hD [0, 1] [] rfl rfl (by decide) (by decide) hk1 hFc hP1 hD1
    have hP := hP.sub (ws' := [(h_mo, .inr (1, [u_mo_thrown, u_mo_width, u_mo_height, u_mo_kind, u_mo_symbols, u_mo_wide, u_mo_high, u_mo_dark, u_mo_instances, u_mo_symbolOf, u_mo_xs, u_mo_ys, u_mo_differs, u_mo_ways, u_mo_ordered, u_mo_page, u_mo_told, u_mo_keeps, u_mo_toldBytes, u_mo_out, u_mo_counts, u_mo_lengths, u_mo_codes, u_mo_weight, u_mo_over, u_mo_used, u_mo_row, .int mo_came, .ref h_mo_in, .int mo_at_17, .int mo_refused_18, u_mo_place, u_mo_readMany, u_mo_readSymbol, u_mo_readX, u_mo_readY, u_mo_readDiffers, u_mo_readWays])), (h_mo_in, .inl (c_mo_in, 2000, .inl mo_in))]) [0, 1] rfl
    have hD := hD.sub (ws' := [(h_mo, .inr (1, [u_mo_thrown, u_mo_width, u_mo_height, u_mo_kind, u_mo_symbols, u_mo_wide, u_mo_high, u_mo_dark, u_mo_instances, u_mo_symbolOf, u_mo_xs, u_mo_ys, u_mo_differs, u_mo_ways, u_mo_ordered, u_mo_page, u_mo_told, u_mo_keeps, u_mo_toldBytes, u_mo_out, u_mo_counts, u_mo_lengths, u_mo_codes, u_mo_weight, u_mo_over, u_mo_used, u_mo_row, .int mo_came, .ref h_mo_in, .int mo_at_17, .int mo_refused_18, u_mo_place, u_mo_readMany, u_mo_readSymbol, u_mo_readX, u_mo_readY, u_mo_readDiffers, u_mo_readWays])), (h_mo_in, .inl (c_mo_in, 2000, .inl mo_in))]) [0, 1] (by decide) rfl
    clear hPc hKc hDc hFc hc9 hP1 hK1 hD1 hk1 hz1 hvm ht
    generalize H1 = H at hP hS ⊢
    try dsimp only at h
    refine lv_iadd hx hb d_Mo_nextNumber_52 ?_
    refine lv_iconst (v := 1) hx hb d_Mo_nextNumber_53 (by decide) ?_
    refine lv_isub hx hb d_Mo_nextNumber_54 ?_
    refine lv_topi (fun v3_19 e_v3_19 => ?_)
    have h := nl_u e_v3_19 h
    refine lv_istore_n (lv' := [(3, .int v3_19), (1, .int v1_8), (0, .ref h_mo)]) hx hb d_Mo_nextNumber_55 rfl hl (by decide) rfl (fun ls hl => ?_)
    refine lv_aload_n hx hb d_Mo_nextNumber_56 rfl (lv_at hl 2 rfl) ?_
    refine va_get (D := (dC, dI)) (ci := 1) (v := .int mo_refused_18) (C := R_Mo) (T := T_Mo) (N := 38) hx hb hB iw_Mo hown hK hP 0 rfl rfl 30 (by decide) (hB _ bw_903) (fun _ h9 => h9) rfl d_Mo_nextNumber_57 ?_
    refine lv_if_le (tgt := 67) hx hb d_Mo_nextNumber_60 (by decide) (fun c_1 => ?_) (fun c_1 => ?_)
    · have h := if_t h c_1
      refine lv_iload_n hx hb d_Mo_nextNumber_67 rfl (lv_at hl 0 rfl) ?_
      subst eQ
      exact W.iret (v := v3_19) hx hb hr (fun t ht hW => ⟨⟨_, (mo_at_17, mo_refused_18), rfl, Option.some.inj h, by rw [ht]; exact hP, va_K.moved hW.alike hK, hD⟩, hS.F ht⟩) hS.2.2 d_Mo_nextNumber_68
    · have h := if_f h c_1
      refine lv_iconst (v := 0) hx hb d_Mo_nextNumber_63 (by decide) ?_
      refine lv_goto (tgt := 68) hx hb d_Mo_nextNumber_64 (by decide) ?_
      subst eQ
      exact W.iret (v := (0 : Int32)) hx hb hr (fun t ht hW => ⟨⟨_, (mo_at_17, mo_refused_18), rfl, Option.some.inj h, by rw [ht]; exact hP, va_K.moved hW.alike hK, hD⟩, hS.F ht⟩) hS.2.2 d_Mo_nextNumber_68
  have w_self7 : ∀ n9 : Nat, ∀ (v2_4 : Int32) (v1_5 : Int32) (mo_at_6 : Int32) (mo_refused_7 : Int32) (H : Heap) (locs : List Loc) (ls : Array Slot), lp (f_Mo_nextNumber_L7 mo_came mo_in k44) n9 (v2_4, v1_5, mo_at_6, mo_refused_7) = some o → va_P (dC, dI) CL [(h_mo, .inr (1, [u_mo_thrown, u_mo_width, u_mo_height, u_mo_kind, u_mo_symbols, u_mo_wide, u_mo_high, u_mo_dark, u_mo_instances, u_mo_symbolOf, u_mo_xs, u_mo_ys, u_mo_differs, u_mo_ways, u_mo_ordered, u_mo_page, u_mo_told, u_mo_keeps, u_mo_toldBytes, u_mo_out, u_mo_counts, u_mo_lengths, u_mo_codes, u_mo_weight, u_mo_over, u_mo_used, u_mo_row, .int mo_came, .ref h_mo_in, .int mo_at_6, .int mo_refused_7, u_mo_place, u_mo_readMany, u_mo_readSymbol, u_mo_readX, u_mo_readY, u_mo_readDiffers, u_mo_readWays])), (h_mo_in, .inl (c_mo_in, 2000, .inl mo_in))] H → va_D A [(h_mo, .inr (1, [u_mo_thrown, u_mo_width, u_mo_height, u_mo_kind, u_mo_symbols, u_mo_wide, u_mo_high, u_mo_dark, u_mo_instances, u_mo_symbolOf, u_mo_xs, u_mo_ys, u_mo_differs, u_mo_ways, u_mo_ordered, u_mo_page, u_mo_told, u_mo_keeps, u_mo_toldBytes, u_mo_out, u_mo_counts, u_mo_lengths, u_mo_codes, u_mo_weight, u_mo_over, u_mo_used, u_mo_row, .int mo_came, .ref h_mo_in, .int mo_at_6, .int mo_refused_7, u_mo_place, u_mo_readMany, u_mo_readSymbol, u_mo_readX, u_mo_readY, u_mo_readDiffers, u_mo_readWays])), (h_mo_in, .inl (c_mo_in, 2000, .inl mo_in))] → va_S A s.heap H locs → lv_has ls 4 [(2, .int v2_4), (1, .int v1_5), (0, .ref h_mo)] → W p l e ({ frames := 3, cells := 0, slots := 0, locals := 65 } : Room) s m ([.ref h_mo] : List Value).toArray below meth c H locs 0 0 Q9 (F0 m 7 ls []) := by
    intro n9
    induction n9 with
    | zero =>
      intro v2_4 v1_5 mo_at_6 mo_refused_7 H locs ls h hP hD hS hl
      exact absurd h (by simp [lp])
    | succ n9 ih_self7 =>
      intro v2_4 v1_5 mo_at_6 mo_refused_7 H locs ls h hP hD hS hl
      obtain ⟨self7, e_self7, h⟩ := abs_k (P := fun z9 => f_Mo_nextNumber_L7 mo_came mo_in k44 z9 (v2_4, v1_5, mo_at_6, mo_refused_7) = some o) (lp_e h)
      rw [← e_self7] at ih_self7
      unfold f_Mo_nextNumber_L7 at h
      try dsimp only at h
      refine lv_aload_n hx hb d_Mo_nextNumber_7 rfl (lv_at hl 2 rfl) ?_
      refine va_get (D := (dC, dI)) (ci := 1) (v := .int mo_refused_7) (C := R_Mo) (T := T_Mo) (N := 38) hx hb hB iw_Mo hown hK hP 0 rfl rfl 30 (by decide) (hB _ bw_903) (fun _ h9 => h9) rfl d_Mo_nextNumber_8 ?_
      refine lv_if_ne (tgt := 44) hx hb d_Mo_nextNumber_11 (by decide) (fun c_2 => ?_) (fun c_2 => ?_)
      · have h := if_f h c_2
        exact w_k44 _ _ _ _ _ _ h hP hD hS (lv_sub hl [1, 2] rfl)
      · have h := if_t h c_2
        refine lv_iload_n hx hb d_Mo_nextNumber_14 rfl (lv_at hl 0 rfl) ?_
        refine lv_if_ne (tgt := 44) hx hb d_Mo_nextNumber_15 (by decide) (fun c_3 => ?_) (fun c_3 => ?_)
        · have h := if_f h c_3
          exact w_k44 _ _ _ _ _ _ h hP hD hS (lv_sub hl [1, 2] rfl)
        · have h := if_t h c_3
          obtain ⟨v1_11, e_v1_11⟩ : ∃ y9 : Int32, y9 = (v1_5 + (1 : Int32)) := ⟨_, rfl⟩
          have h := nl_u e_v1_11 h
          refine lv_iinc (v := v1_11) (lv' := [(1, .int v1_11), (2, .int v2_4), (0, .ref h_mo)]) hx hb d_Mo_nextNumber_18 hl (k := 1) rfl (by rw [e_v1_11]; rfl) (by decide) rfl (fun ls hl => ?_)
          refine lv_iload_n hx hb d_Mo_nextNumber_21 rfl (lv_at hl 0 rfl) ?_
          refine lv_bipush (v := 12) hx hb d_Mo_nextNumber_22 (by decide) ?_
          refine lv_icmp_le (tgt := 36) hx hb d_Mo_nextNumber_24 (by decide) (fun c_4 => ?_) (fun c_4 => ?_)
          · have h := if_t h c_4
            refine lv_aload_n hx hb d_Mo_nextNumber_36 rfl (lv_at hl 2 rfl) ?_
            obtain ⟨o9, hc9, h⟩ := bd_e h
            have hPc := hP.sub (ws' := [(h_mo, .inr (1, [u_mo_thrown, u_mo_width, u_mo_height, u_mo_kind, u_mo_symbols, u_mo_wide, u_mo_high, u_mo_dark, u_mo_instances, u_mo_symbolOf, u_mo_xs, u_mo_ys, u_mo_differs, u_mo_ways, u_mo_ordered, u_mo_page, u_mo_told, u_mo_keeps, u_mo_toldBytes, u_mo_out, u_mo_counts, u_mo_lengths, u_mo_codes, u_mo_weight, u_mo_over, u_mo_used, u_mo_row, .int mo_came, .ref h_mo_in, .int mo_at_6, .int mo_refused_7, u_mo_place, u_mo_readMany, u_mo_readSymbol, u_mo_readX, u_mo_readY, u_mo_readDiffers, u_mo_readWays])), (h_mo_in, .inl (c_mo_in, 2000, .inl mo_in))]) [0, 1] rfl
            have hKc := hK.sub (tys' := [(c_mo_in, .int)]) [0] rfl
            have hDc := hD.sub (ws' := [(h_mo, .inr (1, [u_mo_thrown, u_mo_width, u_mo_height, u_mo_kind, u_mo_symbols, u_mo_wide, u_mo_high, u_mo_dark, u_mo_instances, u_mo_symbolOf, u_mo_xs, u_mo_ys, u_mo_differs, u_mo_ways, u_mo_ordered, u_mo_page, u_mo_told, u_mo_keeps, u_mo_toldBytes, u_mo_out, u_mo_counts, u_mo_lengths, u_mo_codes, u_mo_weight, u_mo_over, u_mo_used, u_mo_row, .int mo_came, .ref h_mo_in, .int mo_at_6, .int mo_refused_7, u_mo_place, u_mo_readMany, u_mo_readSymbol, u_mo_readX, u_mo_readY, u_mo_readDiffers, u_mo_readWays])), (h_mo_in, .inl (c_mo_in, 2000, .inl mo_in))]) [0, 1] (by decide) rfl
            have hFc := va_free (wc := [(h_mo, .inr (1, [u_mo_thrown, u_mo_width, u_mo_height, u_mo_kind, u_mo_symbols, u_mo_wide, u_mo_high, u_mo_dark, u_mo_instances, u_mo_symbolOf, u_mo_xs, u_mo_ys, u_mo_differs, u_mo_ways, u_mo_ordered, u_mo_page, u_mo_told, u_mo_keeps, u_mo_toldBytes, u_mo_out, u_mo_counts, u_mo_lengths, u_mo_codes, u_mo_weight, u_mo_over, u_mo_used, u_mo_row, .int mo_came, .ref h_mo_in, .int mo_at_6, .int mo_refused_7, u_mo_place, u_mo_readMany, u_mo_readSymbol, u_mo_readX, u_mo_readY, u_mo_readDiffers, u_mo_readWays])), (h_mo_in, .inl (c_mo_in, 2000, .inl mo_in))]) hD hS hA [0, 1] rfl
            refine va_calli (va_runV (As := []) (rest := []) ⟨hx, hb, hml, hown, hB⟩ (c_Mo_next l dC dI h_mo h_mo_in c_mo_in u_mo_thrown u_mo_width u_mo_height u_mo_kind u_mo_symbols u_mo_wide u_mo_high u_mo_dark u_mo_instances u_mo_symbolOf u_mo_xs u_mo_ys u_mo_differs u_mo_ways u_mo_ordered u_mo_page u_mo_told u_mo_keeps u_mo_toldBytes u_mo_out u_mo_counts u_mo_lengths u_mo_codes u_mo_weight u_mo_over u_mo_used u_mo_row u_mo_place u_mo_readMany u_mo_readSymbol u_mo_readX u_mo_readY u_mo_readDiffers u_mo_readWays mo_came mo_at_6 mo_refused_7 mo_in _ o9 hc9) (cwV 0 hB (goodA (m4 bw_1144 bw_1146 bs_79 bw_13) (goodB bw_1147)) rfl rfl rfl (by decide +kernel) ⟨Nat.le_of_ble_eq_true rfl, Nat.le_of_ble_eq_true rfl⟩) ⟨fb_m, va_recv hK hP (ci := 1) (q0 := 0) rfl rfl, (pre_m hPc hKc hDc hnw [.ref h_mo])⟩ rfl rfl hl.1 rfl (lv_room (Nat.le_of_ble_eq_true rfl)) d_Mo_nextNumber_37 ⟨Nat.zero_le _, Nat.zero_le _⟩) hS (fun q _ h => hFc q h) hFc (fun r_12 u9 t H1 locs ht hvm hw hB hz1 hk1 hS => ?_)
            obtain ⟨mo_at_13, mo_refused_14⟩ := u9
            subst hw
            obtain ⟨hP1, hK1, hD1⟩ := hB
            rw [ht] at hP1
            obtain ⟨hP, hD⟩ := va_join (wr := []) (w1 := [(h_mo, .inr (1, [u_mo_thrown, u_mo_width, u_mo_height, u_mo_kind, u_mo_symbols, u_mo_wide, u_mo_high, u_mo_dark, u_mo_instances, u_mo_symbolOf, u_mo_xs, u_mo_ys, u_mo_differs, u_mo_ways, u_mo_ordered, u_mo_page, u_mo_told, u_mo_keeps, u_mo_toldBytes, u_mo_out, u_mo_counts, u_mo_lengths, u_mo_codes, u_mo_weight, u_mo_over, u_mo_used, u_mo_row, .int mo_came, .ref h_mo_in, .int mo_at_13, .int mo_refused_14, u_mo_place, u_mo_readMany, u_mo_readSymbol, u_mo_readX, u_mo_readY, u_mo_readDiffers, u_mo_readWays])), (h_mo_in, .inl (c_mo_in, 2000, .inl mo_in))]) hP hD [0, 1] [] rfl rfl (by decide) (by decide) hk1 hFc hP1 hD1
            have hP := hP.sub (ws' := [(h_mo, .inr (1, [u_mo_thrown, u_mo_width, u_mo_height, u_mo_kind, u_mo_symbols, u_mo_wide, u_mo_high, u_mo_dark, u_mo_instances, u_mo_symbolOf, u_mo_xs, u_mo_ys, u_mo_differs, u_mo_ways, u_mo_ordered, u_mo_page, u_mo_told, u_mo_keeps, u_mo_toldBytes, u_mo_out, u_mo_counts, u_mo_lengths, u_mo_codes, u_mo_weight, u_mo_over, u_mo_used, u_mo_row, .int mo_came, .ref h_mo_in, .int mo_at_13, .int mo_refused_14, u_mo_place, u_mo_readMany, u_mo_readSymbol, u_mo_readX, u_mo_readY, u_mo_readDiffers, u_mo_readWays])), (h_mo_in, .inl (c_mo_in, 2000, .inl mo_in))]) [0, 1] rfl
            have hD := hD.sub (ws' := [(h_mo, .inr (1, [u_mo_thrown, u_mo_width, u_mo_height, u_mo_kind, u_mo_symbols, u_mo_wide, u_mo_high, u_mo_dark, u_mo_instances, u_mo_symbolOf, u_mo_xs, u_mo_ys, u_mo_differs, u_mo_ways, u_mo_ordered, u_mo_page, u_mo_told, u_mo_keeps, u_mo_toldBytes, u_mo_out, u_mo_counts, u_mo_lengths, u_mo_codes, u_mo_weight, u_mo_over, u_mo_used, u_mo_row, .int mo_came, .ref h_mo_in, .int mo_at_13, .int mo_refused_14, u_mo_place, u_mo_readMany, u_mo_readSymbol, u_mo_readX, u_mo_readY, u_mo_readDiffers, u_mo_readWays])), (h_mo_in, .inl (c_mo_in, 2000, .inl mo_in))]) [0, 1] (by decide) rfl
            clear hPc hKc hDc hFc hc9 hP1 hK1 hD1 hk1 hz1 hvm ht
            generalize H1 = H at hP hS ⊢
            try dsimp only at h
            refine lv_istore_n (lv' := [(2, .int r_12), (1, .int v1_11), (0, .ref h_mo)]) hx hb d_Mo_nextNumber_40 rfl hl (by decide) rfl (fun ls hl => ?_)
            refine lv_goto (tgt := 7) hx hb d_Mo_nextNumber_41 (by decide) ?_
            exact ih_self7 _ _ _ _ _ _ _ h hP hD hS hl
          · have h := if_f h c_4
            refine lv_aload_n hx hb d_Mo_nextNumber_27 rfl (lv_at hl 2 rfl) ?_
            refine lv_bipush (v := 8) hx hb d_Mo_nextNumber_28 (by decide) ?_
            obtain ⟨o9, hc9, h⟩ := bd_e h
            have hPc := hP.sub (ws' := [(h_mo, .inr (1, [u_mo_thrown, u_mo_width, u_mo_height, u_mo_kind, u_mo_symbols, u_mo_wide, u_mo_high, u_mo_dark, u_mo_instances, u_mo_symbolOf, u_mo_xs, u_mo_ys, u_mo_differs, u_mo_ways, u_mo_ordered, u_mo_page, u_mo_told, u_mo_keeps, u_mo_toldBytes, u_mo_out, u_mo_counts, u_mo_lengths, u_mo_codes, u_mo_weight, u_mo_over, u_mo_used, u_mo_row, .int mo_came, .ref h_mo_in, .int mo_at_6, .int mo_refused_7, u_mo_place, u_mo_readMany, u_mo_readSymbol, u_mo_readX, u_mo_readY, u_mo_readDiffers, u_mo_readWays]))]) [0] rfl
            have hKc := hK.sub (tys' := []) [] rfl
            have hDc := hD.sub (ws' := [(h_mo, .inr (1, [u_mo_thrown, u_mo_width, u_mo_height, u_mo_kind, u_mo_symbols, u_mo_wide, u_mo_high, u_mo_dark, u_mo_instances, u_mo_symbolOf, u_mo_xs, u_mo_ys, u_mo_differs, u_mo_ways, u_mo_ordered, u_mo_page, u_mo_told, u_mo_keeps, u_mo_toldBytes, u_mo_out, u_mo_counts, u_mo_lengths, u_mo_codes, u_mo_weight, u_mo_over, u_mo_used, u_mo_row, .int mo_came, .ref h_mo_in, .int mo_at_6, .int mo_refused_7, u_mo_place, u_mo_readMany, u_mo_readSymbol, u_mo_readX, u_mo_readY, u_mo_readDiffers, u_mo_readWays]))]) [0] (by decide) rfl
            have hFc := va_free (wc := [(h_mo, .inr (1, [u_mo_thrown, u_mo_width, u_mo_height, u_mo_kind, u_mo_symbols, u_mo_wide, u_mo_high, u_mo_dark, u_mo_instances, u_mo_symbolOf, u_mo_xs, u_mo_ys, u_mo_differs, u_mo_ways, u_mo_ordered, u_mo_page, u_mo_told, u_mo_keeps, u_mo_toldBytes, u_mo_out, u_mo_counts, u_mo_lengths, u_mo_codes, u_mo_weight, u_mo_over, u_mo_used, u_mo_row, .int mo_came, .ref h_mo_in, .int mo_at_6, .int mo_refused_7, u_mo_place, u_mo_readMany, u_mo_readSymbol, u_mo_readX, u_mo_readY, u_mo_readDiffers, u_mo_readWays]))]) hD hS hA [0] rfl
            refine va_callv (va_runV (As := [.int (8 : Int32)]) (rest := []) ⟨hx, hb, hml, hown, hB⟩ (c_Mo_refuse l dC dI h_mo u_mo_thrown u_mo_width u_mo_height u_mo_kind u_mo_symbols u_mo_wide u_mo_high u_mo_dark u_mo_instances u_mo_symbolOf u_mo_xs u_mo_ys u_mo_differs u_mo_ways u_mo_ordered u_mo_page u_mo_told u_mo_keeps u_mo_toldBytes u_mo_out u_mo_counts u_mo_lengths u_mo_codes u_mo_weight u_mo_over u_mo_used u_mo_row (.int mo_came) (.ref h_mo_in) (.int mo_at_6) u_mo_place u_mo_readMany u_mo_readSymbol u_mo_readX u_mo_readY u_mo_readDiffers u_mo_readWays mo_refused_7 (8 : Int32) _ o9 hc9) (cwV 1 hB (goodA (m4 bw_1148 bw_1150 bs_80 bw_13) (goodB bw_1151)) rfl rfl rfl (by decide +kernel) ⟨Nat.le_of_ble_eq_true rfl, Nat.le_of_ble_eq_true rfl⟩) ⟨fb_m, va_recv hK hP (ci := 1) (q0 := 0) rfl rfl, (pre_m hPc hKc hDc hnw [.ref h_mo, .int (8 : Int32)])⟩ rfl rfl hl.1 rfl (lv_room (Nat.le_of_ble_eq_true rfl)) d_Mo_nextNumber_30 ⟨Nat.zero_le _, Nat.zero_le _⟩) hS (fun q _ h => hFc q h) hFc (fun u9 t H1 locs ht hvm hw hB hz1 hk1 hS => ?_)
            obtain ⟨mo_refused_15, rfl⟩ : ∃ z9, z9 = u9 := ⟨_, rfl⟩
            subst hw
            obtain ⟨hP1, hK1, hD1⟩ := hB
            rw [ht] at hP1
            obtain ⟨hP, hD⟩ := va_join (wr := [(h_mo_in, .inl (c_mo_in, 2000, .inl mo_in))]) (w1 := [(h_mo, .inr (1, [u_mo_thrown, u_mo_width, u_mo_height, u_mo_kind, u_mo_symbols, u_mo_wide, u_mo_high, u_mo_dark, u_mo_instances, u_mo_symbolOf, u_mo_xs, u_mo_ys, u_mo_differs, u_mo_ways, u_mo_ordered, u_mo_page, u_mo_told, u_mo_keeps, u_mo_toldBytes, u_mo_out, u_mo_counts, u_mo_lengths, u_mo_codes, u_mo_weight, u_mo_over, u_mo_used, u_mo_row, .int mo_came, .ref h_mo_in, .int mo_at_6, .int mo_refused_15, u_mo_place, u_mo_readMany, u_mo_readSymbol, u_mo_readX, u_mo_readY, u_mo_readDiffers, u_mo_readWays]))]) hP hD [0] [1] rfl rfl (by decide) (by decide) hk1 hFc hP1 hD1
            have hP := hP.sub (ws' := [(h_mo, .inr (1, [u_mo_thrown, u_mo_width, u_mo_height, u_mo_kind, u_mo_symbols, u_mo_wide, u_mo_high, u_mo_dark, u_mo_instances, u_mo_symbolOf, u_mo_xs, u_mo_ys, u_mo_differs, u_mo_ways, u_mo_ordered, u_mo_page, u_mo_told, u_mo_keeps, u_mo_toldBytes, u_mo_out, u_mo_counts, u_mo_lengths, u_mo_codes, u_mo_weight, u_mo_over, u_mo_used, u_mo_row, .int mo_came, .ref h_mo_in, .int mo_at_6, .int mo_refused_15, u_mo_place, u_mo_readMany, u_mo_readSymbol, u_mo_readX, u_mo_readY, u_mo_readDiffers, u_mo_readWays])), (h_mo_in, .inl (c_mo_in, 2000, .inl mo_in))]) [1, 0] rfl
            have hD := hD.sub (ws' := [(h_mo, .inr (1, [u_mo_thrown, u_mo_width, u_mo_height, u_mo_kind, u_mo_symbols, u_mo_wide, u_mo_high, u_mo_dark, u_mo_instances, u_mo_symbolOf, u_mo_xs, u_mo_ys, u_mo_differs, u_mo_ways, u_mo_ordered, u_mo_page, u_mo_told, u_mo_keeps, u_mo_toldBytes, u_mo_out, u_mo_counts, u_mo_lengths, u_mo_codes, u_mo_weight, u_mo_over, u_mo_used, u_mo_row, .int mo_came, .ref h_mo_in, .int mo_at_6, .int mo_refused_15, u_mo_place, u_mo_readMany, u_mo_readSymbol, u_mo_readX, u_mo_readY, u_mo_readDiffers, u_mo_readWays])), (h_mo_in, .inl (c_mo_in, 2000, .inl mo_in))]) [1, 0] (by decide) rfl
            clear hPc hKc hDc hFc hc9 hP1 hK1 hD1 hk1 hz1 hvm ht
            generalize H1 = H at hP hS ⊢
            try dsimp only at h
            refine lv_goto (tgt := 7) hx hb d_Mo_nextNumber_33 (by decide) ?_
            exact ih_self7 _ _ _ _ _ _ _ h hP hD hS (lv_sub hl [1, 0, 2] rfl)
  exact w_self7 FU _ _ _ _ _ _ _ h hP hD hS hl
set_option maxHeartbeats 4000000 in
set_option maxRecDepth 100000 in
theorem c_Mo_nextSigned (l : Launch) (dC : Nat → ClassId) (dI : Nat → Nat → Nat) (h_mo : Nat) (h_mo_in : Nat) (c_mo_in : ClassId) (u_mo_thrown : Value) (u_mo_width : Value) (u_mo_height : Value) (u_mo_kind : Value) (u_mo_symbols : Value) (u_mo_wide : Value) (u_mo_high : Value) (u_mo_dark : Value) (u_mo_instances : Value) (u_mo_symbolOf : Value) (u_mo_xs : Value) (u_mo_ys : Value) (u_mo_differs : Value) (u_mo_ways : Value) (u_mo_ordered : Value) (u_mo_page : Value) (u_mo_told : Value) (u_mo_keeps : Value) (u_mo_toldBytes : Value) (u_mo_out : Value) (u_mo_counts : Value) (u_mo_lengths : Value) (u_mo_codes : Value) (u_mo_weight : Value) (u_mo_over : Value) (u_mo_used : Value) (u_mo_row : Value) (u_mo_place : Value) (u_mo_readMany : Value) (u_mo_readSymbol : Value) (u_mo_readX : Value) (u_mo_readY : Value) (u_mo_readDiffers : Value) (u_mo_readWays : Value) (mo_came : Int32) (mo_at : Int32) (mo_refused : Int32) (mo_in : (Nat → Int32)) (sz : Nat) (o : Int32 × Int32 × Int32) (hf : f_Mo_nextSigned mo_came mo_at mo_refused mo_in = some o) :
    Met l y_Mo_nextSigned ws_Mo_nextSigned { frames := 4, cells := 0, slots := 0, locals := 88 } (va_Pc [.ref h_mo] (PcM (dC, dI) [(h_mo, .inr (1, [u_mo_thrown, u_mo_width, u_mo_height, u_mo_kind, u_mo_symbols, u_mo_wide, u_mo_high, u_mo_dark, u_mo_instances, u_mo_symbolOf, u_mo_xs, u_mo_ys, u_mo_differs, u_mo_ways, u_mo_ordered, u_mo_page, u_mo_told, u_mo_keeps, u_mo_toldBytes, u_mo_out, u_mo_counts, u_mo_lengths, u_mo_codes, u_mo_weight, u_mo_over, u_mo_used, u_mo_row, .int mo_came, .ref h_mo_in, .int mo_at, .int mo_refused, u_mo_place, u_mo_readMany, u_mo_readSymbol, u_mo_readX, u_mo_readY, u_mo_readDiffers, u_mo_readWays])), (h_mo_in, .inl (c_mo_in, 2000, .inl mo_in))] [(c_mo_in, .int)] sz))
      (va_Qi (fun (r : Int32) (u : Int32 × Int32) => (r, u) = o) (fun u t => va_P (dC, dI) CL [(h_mo, .inr (1, [u_mo_thrown, u_mo_width, u_mo_height, u_mo_kind, u_mo_symbols, u_mo_wide, u_mo_high, u_mo_dark, u_mo_instances, u_mo_symbolOf, u_mo_xs, u_mo_ys, u_mo_differs, u_mo_ways, u_mo_ordered, u_mo_page, u_mo_told, u_mo_keeps, u_mo_toldBytes, u_mo_out, u_mo_counts, u_mo_lengths, u_mo_codes, u_mo_weight, u_mo_over, u_mo_used, u_mo_row, .int mo_came, .ref h_mo_in, .int (u.1), .int (u.2), u_mo_place, u_mo_readMany, u_mo_readSymbol, u_mo_readX, u_mo_readY, u_mo_readDiffers, u_mo_readWays])), (h_mo_in, .inl (c_mo_in, 2000, .inl mo_in))] t.heap ∧ va_K (dC, dI) CL [(c_mo_in, .int)] t ∧ va_D (va_A [(h_mo, .inr (1, [u_mo_thrown, u_mo_width, u_mo_height, u_mo_kind, u_mo_symbols, u_mo_wide, u_mo_high, u_mo_dark, u_mo_instances, u_mo_symbolOf, u_mo_xs, u_mo_ys, u_mo_differs, u_mo_ways, u_mo_ordered, u_mo_page, u_mo_told, u_mo_keeps, u_mo_toldBytes, u_mo_out, u_mo_counts, u_mo_lengths, u_mo_codes, u_mo_weight, u_mo_over, u_mo_used, u_mo_row, .int mo_came, .ref h_mo_in, .int mo_at, .int mo_refused, u_mo_place, u_mo_readMany, u_mo_readSymbol, u_mo_readX, u_mo_readY, u_mo_readDiffers, u_mo_readWays])), (h_mo_in, .inl (c_mo_in, 2000, .inl mo_in))] sz) [(h_mo, .inr (1, [u_mo_thrown, u_mo_width, u_mo_height, u_mo_kind, u_mo_symbols, u_mo_wide, u_mo_high, u_mo_dark, u_mo_instances, u_mo_symbolOf, u_mo_xs, u_mo_ys, u_mo_differs, u_mo_ways, u_mo_ordered, u_mo_page, u_mo_told, u_mo_keeps, u_mo_toldBytes, u_mo_out, u_mo_counts, u_mo_lengths, u_mo_codes, u_mo_weight, u_mo_over, u_mo_used, u_mo_row, .int mo_came, .ref h_mo_in, .int (u.1), .int (u.2), u_mo_place, u_mo_readMany, u_mo_readSymbol, u_mo_readX, u_mo_readY, u_mo_readDiffers, u_mo_readWays])), (h_mo_in, .inl (c_mo_in, 2000, .inl mo_in))]) (va_A [(h_mo, .inr (1, [u_mo_thrown, u_mo_width, u_mo_height, u_mo_kind, u_mo_symbols, u_mo_wide, u_mo_high, u_mo_dark, u_mo_instances, u_mo_symbolOf, u_mo_xs, u_mo_ys, u_mo_differs, u_mo_ways, u_mo_ordered, u_mo_page, u_mo_told, u_mo_keeps, u_mo_toldBytes, u_mo_out, u_mo_counts, u_mo_lengths, u_mo_codes, u_mo_weight, u_mo_over, u_mo_used, u_mo_row, .int mo_came, .ref h_mo_in, .int mo_at, .int mo_refused, u_mo_place, u_mo_readMany, u_mo_readSymbol, u_mo_readX, u_mo_readY, u_mo_readDiffers, u_mo_readWays])), (h_mo_in, .inl (c_mo_in, 2000, .inl mo_in))] sz)) 0 0 (va_A [(h_mo, .inr (1, [u_mo_thrown, u_mo_width, u_mo_height, u_mo_kind, u_mo_symbols, u_mo_wide, u_mo_high, u_mo_dark, u_mo_instances, u_mo_symbolOf, u_mo_xs, u_mo_ys, u_mo_differs, u_mo_ways, u_mo_ordered, u_mo_page, u_mo_told, u_mo_keeps, u_mo_toldBytes, u_mo_out, u_mo_counts, u_mo_lengths, u_mo_codes, u_mo_weight, u_mo_over, u_mo_used, u_mo_row, .int mo_came, .ref h_mo_in, .int mo_at, .int mo_refused, u_mo_place, u_mo_readMany, u_mo_readSymbol, u_mo_readX, u_mo_readY, u_mo_readDiffers, u_mo_readWays])), (h_mo_in, .inl (c_mo_in, 2000, .inl mo_in))] sz) := by
  refine Met.ofW (cc := b_Mo_nextSigned) (maxL := 2) (ret := (some .int)) (by decide) rfl ?_
  intro p e s m args below meth c s₁ B hml hv
  obtain ⟨rfl, hsz, hP, hK, hD0, hnw⟩ := hv
  have hx := B.exec
  have hb := B.bytes
  have hr := B.returns
  have hts := atoms_spec (ws := ws_Mo_nextSigned) B.pre
  have hB : ∀ w ∈ BIG, w.before _ s = true := fun w h => hts w (List.mem_cons_of_mem _ h)
  have hown : s.vm.findClass R_Mo = some m.cls := findClass_of_methodNamed B.named
  have hlocks := B.notSynchronized
  subst hsz
  have hD := hD0.self (sz := s.heap.size)
  refine W_Q (fun Q9 eQ => ?_)
  generalize hAe : va_A [(h_mo, .inr (1, [u_mo_thrown, u_mo_width, u_mo_height, u_mo_kind, u_mo_symbols, u_mo_wide, u_mo_high, u_mo_dark, u_mo_instances, u_mo_symbolOf, u_mo_xs, u_mo_ys, u_mo_differs, u_mo_ways, u_mo_ordered, u_mo_page, u_mo_told, u_mo_keeps, u_mo_toldBytes, u_mo_out, u_mo_counts, u_mo_lengths, u_mo_codes, u_mo_weight, u_mo_over, u_mo_used, u_mo_row, .int mo_came, .ref h_mo_in, .int mo_at, .int mo_refused, u_mo_place, u_mo_readMany, u_mo_readSymbol, u_mo_readX, u_mo_readY, u_mo_readDiffers, u_mo_readWays])), (h_mo_in, .inl (c_mo_in, 2000, .inl mo_in))] s.heap.size = A at hD eQ
  have hA : ∀ q : Nat, s.heap.size ≤ q → A q := fun q h => by rw [← hAe]; exact Or.inr h
  have hS : va_S A s.heap s.heap [] := va_S.rf
  have hl := lv_entry ([.ref h_mo]) (n := 2) (Nat.le_of_ble_eq_true rfl)
  rw [lg_entry_eq]
  generalize (lg_sl ([.ref h_mo]) ++ List.replicate (2 - (lg_sl ([.ref h_mo])).length) Slot.unset).toArray = ls at hl ⊢
  have hl : lv_has ls 2 [(0, .ref h_mo)] := hl
  have h := hf
  unfold f_Mo_nextSigned at h
  refine lv_aload_n hx hb d_Mo_nextSigned_0 rfl (lv_at hl 0 rfl) ?_
  obtain ⟨o9, hc9, h⟩ := bd_e h
  have hPc := hP.sub (ws' := [(h_mo, .inr (1, [u_mo_thrown, u_mo_width, u_mo_height, u_mo_kind, u_mo_symbols, u_mo_wide, u_mo_high, u_mo_dark, u_mo_instances, u_mo_symbolOf, u_mo_xs, u_mo_ys, u_mo_differs, u_mo_ways, u_mo_ordered, u_mo_page, u_mo_told, u_mo_keeps, u_mo_toldBytes, u_mo_out, u_mo_counts, u_mo_lengths, u_mo_codes, u_mo_weight, u_mo_over, u_mo_used, u_mo_row, .int mo_came, .ref h_mo_in, .int mo_at, .int mo_refused, u_mo_place, u_mo_readMany, u_mo_readSymbol, u_mo_readX, u_mo_readY, u_mo_readDiffers, u_mo_readWays])), (h_mo_in, .inl (c_mo_in, 2000, .inl mo_in))]) [0, 1] rfl
  have hKc := hK.sub (tys' := [(c_mo_in, .int)]) [0] rfl
  have hDc := hD.sub (ws' := [(h_mo, .inr (1, [u_mo_thrown, u_mo_width, u_mo_height, u_mo_kind, u_mo_symbols, u_mo_wide, u_mo_high, u_mo_dark, u_mo_instances, u_mo_symbolOf, u_mo_xs, u_mo_ys, u_mo_differs, u_mo_ways, u_mo_ordered, u_mo_page, u_mo_told, u_mo_keeps, u_mo_toldBytes, u_mo_out, u_mo_counts, u_mo_lengths, u_mo_codes, u_mo_weight, u_mo_over, u_mo_used, u_mo_row, .int mo_came, .ref h_mo_in, .int mo_at, .int mo_refused, u_mo_place, u_mo_readMany, u_mo_readSymbol, u_mo_readX, u_mo_readY, u_mo_readDiffers, u_mo_readWays])), (h_mo_in, .inl (c_mo_in, 2000, .inl mo_in))]) [0, 1] (by decide) rfl
  have hFc := va_free (wc := [(h_mo, .inr (1, [u_mo_thrown, u_mo_width, u_mo_height, u_mo_kind, u_mo_symbols, u_mo_wide, u_mo_high, u_mo_dark, u_mo_instances, u_mo_symbolOf, u_mo_xs, u_mo_ys, u_mo_differs, u_mo_ways, u_mo_ordered, u_mo_page, u_mo_told, u_mo_keeps, u_mo_toldBytes, u_mo_out, u_mo_counts, u_mo_lengths, u_mo_codes, u_mo_weight, u_mo_over, u_mo_used, u_mo_row, .int mo_came, .ref h_mo_in, .int mo_at, .int mo_refused, u_mo_place, u_mo_readMany, u_mo_readSymbol, u_mo_readX, u_mo_readY, u_mo_readDiffers, u_mo_readWays])), (h_mo_in, .inl (c_mo_in, 2000, .inl mo_in))]) hD hS hA [0, 1] rfl
  refine va_calli (va_runV (As := []) (rest := []) ⟨hx, hb, hml, hown, hB⟩ (c_Mo_nextNumber l dC dI h_mo h_mo_in c_mo_in u_mo_thrown u_mo_width u_mo_height u_mo_kind u_mo_symbols u_mo_wide u_mo_high u_mo_dark u_mo_instances u_mo_symbolOf u_mo_xs u_mo_ys u_mo_differs u_mo_ways u_mo_ordered u_mo_page u_mo_told u_mo_keeps u_mo_toldBytes u_mo_out u_mo_counts u_mo_lengths u_mo_codes u_mo_weight u_mo_over u_mo_used u_mo_row u_mo_place u_mo_readMany u_mo_readSymbol u_mo_readX u_mo_readY u_mo_readDiffers u_mo_readWays mo_came mo_at mo_refused mo_in _ o9 hc9) (cwV 0 hB (goodA (m4 bw_1140 bw_1142 bs_78 bw_13) (goodB bw_1143)) rfl rfl rfl (by decide +kernel) ⟨Nat.le_of_ble_eq_true rfl, Nat.le_of_ble_eq_true rfl⟩) ⟨fb_m, va_recv hK hP (ci := 1) (q0 := 0) rfl rfl, (pre_m hPc hKc hDc hnw [.ref h_mo])⟩ rfl rfl hl.1 rfl (lv_room (Nat.le_of_ble_eq_true rfl)) d_Mo_nextSigned_1 ⟨Nat.zero_le _, Nat.zero_le _⟩) hS (fun q _ h => hFc q h) hFc (fun r_1 u9 t H1 locs ht hvm hw hB hz1 hk1 hS => ?_)
  obtain ⟨mo_at_2, mo_refused_3⟩ := u9
  subst hw
  obtain ⟨hP1, hK1, hD1⟩ := hB
  rw [ht] at hP1
  obtain ⟨hP, hD⟩ := va_join (wr := []) (w1 := [(h_mo, .inr (1, [u_mo_thrown, u_mo_width, u_mo_height, u_mo_kind, u_mo_symbols, u_mo_wide, u_mo_high, u_mo_dark, u_mo_instances, u_mo_symbolOf, u_mo_xs, u_mo_ys, u_mo_differs, u_mo_ways, u_mo_ordered, u_mo_page, u_mo_told, u_mo_keeps, u_mo_toldBytes, u_mo_out, u_mo_counts, u_mo_lengths, u_mo_codes, u_mo_weight, u_mo_over, u_mo_used, u_mo_row, .int mo_came, .ref h_mo_in, .int mo_at_2, .int mo_refused_3, u_mo_place, u_mo_readMany, u_mo_readSymbol, u_mo_readX, u_mo_readY, u_mo_readDiffers, u_mo_readWays])), (h_mo_in, .inl (c_mo_in, 2000, .inl mo_in))]) hP hD [0, 1] [] rfl rfl (by decide) (by decide) hk1 hFc hP1 hD1
  have hP := hP.sub (ws' := [(h_mo, .inr (1, [u_mo_thrown, u_mo_width, u_mo_height, u_mo_kind, u_mo_symbols, u_mo_wide, u_mo_high, u_mo_dark, u_mo_instances, u_mo_symbolOf, u_mo_xs, u_mo_ys, u_mo_differs, u_mo_ways, u_mo_ordered, u_mo_page, u_mo_told, u_mo_keeps, u_mo_toldBytes, u_mo_out, u_mo_counts, u_mo_lengths, u_mo_codes, u_mo_weight, u_mo_over, u_mo_used, u_mo_row, .int mo_came, .ref h_mo_in, .int mo_at_2, .int mo_refused_3, u_mo_place, u_mo_readMany, u_mo_readSymbol, u_mo_readX, u_mo_readY, u_mo_readDiffers, u_mo_readWays])), (h_mo_in, .inl (c_mo_in, 2000, .inl mo_in))]) [0, 1] rfl
  have hD := hD.sub (ws' := [(h_mo, .inr (1, [u_mo_thrown, u_mo_width, u_mo_height, u_mo_kind, u_mo_symbols, u_mo_wide, u_mo_high, u_mo_dark, u_mo_instances, u_mo_symbolOf, u_mo_xs, u_mo_ys, u_mo_differs, u_mo_ways, u_mo_ordered, u_mo_page, u_mo_told, u_mo_keeps, u_mo_toldBytes, u_mo_out, u_mo_counts, u_mo_lengths, u_mo_codes, u_mo_weight, u_mo_over, u_mo_used, u_mo_row, .int mo_came, .ref h_mo_in, .int mo_at_2, .int mo_refused_3, u_mo_place, u_mo_readMany, u_mo_readSymbol, u_mo_readX, u_mo_readY, u_mo_readDiffers, u_mo_readWays])), (h_mo_in, .inl (c_mo_in, 2000, .inl mo_in))]) [0, 1] (by decide) rfl
  clear hPc hKc hDc hFc hc9 hP1 hK1 hD1 hk1 hz1 hvm ht
  generalize H1 = H at hP hS ⊢
  try dsimp only at h
  refine lv_istore_n (lv' := [(1, .int r_1), (0, .ref h_mo)]) hx hb d_Mo_nextSigned_4 rfl hl (by decide) rfl (fun ls hl => ?_)
  refine lv_iload_n hx hb d_Mo_nextSigned_5 rfl (lv_at hl 0 rfl) ?_
  refine lv_iconst (v := 2) hx hb d_Mo_nextSigned_6 (by decide) ?_
  refine lv_irem hx hb d_Mo_nextSigned_7 (by decide) ?_
  refine lv_if_ne (tgt := 17) hx hb d_Mo_nextSigned_8 (by decide) (fun c_1 => ?_) (fun c_1 => ?_)
  · have h := if_f h c_1
    refine lv_iload_n hx hb d_Mo_nextSigned_17 rfl (lv_at hl 0 rfl) ?_
    refine lv_iconst (v := 2) hx hb d_Mo_nextSigned_18 (by decide) ?_
    refine lv_idiv hx hb d_Mo_nextSigned_19 (by decide) ?_
    refine lv_ineg hx hb d_Mo_nextSigned_20 ?_
    refine lv_iconst (v := 1) hx hb d_Mo_nextSigned_21 (by decide) ?_
    refine lv_isub hx hb d_Mo_nextSigned_22 ?_
    subst eQ
    exact W.iret (v := ((-(r_1 / (2 : Int32))) - (1 : Int32))) hx hb hr (fun t ht hW => ⟨⟨_, (mo_at_2, mo_refused_3), rfl, Option.some.inj h, by rw [ht]; exact hP, va_K.moved hW.alike hK, hD⟩, hS.F ht⟩) hS.2.2 d_Mo_nextSigned_23
  · have h := if_t h c_1
    refine lv_iload_n hx hb d_Mo_nextSigned_11 rfl (lv_at hl 0 rfl) ?_
    refine lv_iconst (v := 2) hx hb d_Mo_nextSigned_12 (by decide) ?_
    refine lv_idiv hx hb d_Mo_nextSigned_13 (by decide) ?_
    refine lv_goto (tgt := 23) hx hb d_Mo_nextSigned_14 (by decide) ?_
    subst eQ
    exact W.iret (v := (r_1 / (2 : Int32))) hx hb hr (fun t ht hW => ⟨⟨_, (mo_at_2, mo_refused_3), rfl, Option.some.inj h, by rw [ht]; exact hP, va_K.moved hW.alike hK, hD⟩, hS.F ht⟩) hS.2.2 d_Mo_nextSigned_23
