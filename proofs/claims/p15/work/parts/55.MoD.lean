set_option maxHeartbeats 4000000 in
set_option maxRecDepth 100000 in
theorem c_Mo_findCodes (l : Launch) (dC : Nat → ClassId) (dI : Nat → Nat → Nat) (h_mo : Nat) (h_mo_lengths : Nat) (h_mo_codes : Nat) (c_mo_lengths : ClassId) (c_mo_codes : ClassId) (u_mo_thrown : Value) (u_mo_width : Value) (u_mo_height : Value) (u_mo_kind : Value) (u_mo_wide : Value) (u_mo_high : Value) (u_mo_dark : Value) (u_mo_instances : Value) (u_mo_symbolOf : Value) (u_mo_xs : Value) (u_mo_ys : Value) (u_mo_differs : Value) (u_mo_ways : Value) (u_mo_ordered : Value) (u_mo_page : Value) (u_mo_told : Value) (u_mo_keeps : Value) (u_mo_toldBytes : Value) (u_mo_out : Value) (u_mo_counts : Value) (u_mo_weight : Value) (u_mo_over : Value) (u_mo_used : Value) (u_mo_row : Value) (u_mo_came : Value) (u_mo_in : Value) (u_mo_at : Value) (u_mo_refused : Value) (u_mo_place : Value) (u_mo_readMany : Value) (u_mo_readSymbol : Value) (u_mo_readX : Value) (u_mo_readY : Value) (u_mo_readDiffers : Value) (u_mo_readWays : Value) (mo_symbols : Int32) (mo_lengths : (Nat → Int32)) (mo_codes : (Nat → Int32)) (sz : Nat) (o : (Nat → Int32)) (hf : f_Mo_findCodes mo_symbols mo_lengths mo_codes = some o) :
    Met l y_Mo_findCodes ws_Mo_findCodes { frames := 0, cells := 0, slots := 0, locals := 0 } (va_Pc [.ref h_mo] (PcM (dC, dI) [(h_mo, .inr (1, [u_mo_thrown, u_mo_width, u_mo_height, u_mo_kind, .int mo_symbols, u_mo_wide, u_mo_high, u_mo_dark, u_mo_instances, u_mo_symbolOf, u_mo_xs, u_mo_ys, u_mo_differs, u_mo_ways, u_mo_ordered, u_mo_page, u_mo_told, u_mo_keeps, u_mo_toldBytes, u_mo_out, u_mo_counts, .ref h_mo_lengths, .ref h_mo_codes, u_mo_weight, u_mo_over, u_mo_used, u_mo_row, u_mo_came, u_mo_in, u_mo_at, u_mo_refused, u_mo_place, u_mo_readMany, u_mo_readSymbol, u_mo_readX, u_mo_readY, u_mo_readDiffers, u_mo_readWays])), (h_mo_lengths, .inl (c_mo_lengths, 16, .inl mo_lengths)), (h_mo_codes, .inl (c_mo_codes, 16, .inl mo_codes))] [(c_mo_lengths, .int), (c_mo_codes, .int)] sz))
      (va_Qv (fun u : (Nat → Int32) => u = o) (fun u t => va_P (dC, dI) CL [(h_mo, .inr (1, [u_mo_thrown, u_mo_width, u_mo_height, u_mo_kind, .int mo_symbols, u_mo_wide, u_mo_high, u_mo_dark, u_mo_instances, u_mo_symbolOf, u_mo_xs, u_mo_ys, u_mo_differs, u_mo_ways, u_mo_ordered, u_mo_page, u_mo_told, u_mo_keeps, u_mo_toldBytes, u_mo_out, u_mo_counts, .ref h_mo_lengths, .ref h_mo_codes, u_mo_weight, u_mo_over, u_mo_used, u_mo_row, u_mo_came, u_mo_in, u_mo_at, u_mo_refused, u_mo_place, u_mo_readMany, u_mo_readSymbol, u_mo_readX, u_mo_readY, u_mo_readDiffers, u_mo_readWays])), (h_mo_lengths, .inl (c_mo_lengths, 16, .inl mo_lengths)), (h_mo_codes, .inl (c_mo_codes, 16, .inl u))] t.heap ∧ va_K (dC, dI) CL [(c_mo_lengths, .int), (c_mo_codes, .int)] t ∧ va_D (va_A [(h_mo, .inr (1, [u_mo_thrown, u_mo_width, u_mo_height, u_mo_kind, .int mo_symbols, u_mo_wide, u_mo_high, u_mo_dark, u_mo_instances, u_mo_symbolOf, u_mo_xs, u_mo_ys, u_mo_differs, u_mo_ways, u_mo_ordered, u_mo_page, u_mo_told, u_mo_keeps, u_mo_toldBytes, u_mo_out, u_mo_counts, .ref h_mo_lengths, .ref h_mo_codes, u_mo_weight, u_mo_over, u_mo_used, u_mo_row, u_mo_came, u_mo_in, u_mo_at, u_mo_refused, u_mo_place, u_mo_readMany, u_mo_readSymbol, u_mo_readX, u_mo_readY, u_mo_readDiffers, u_mo_readWays])), (h_mo_lengths, .inl (c_mo_lengths, 16, .inl mo_lengths)), (h_mo_codes, .inl (c_mo_codes, 16, .inl mo_codes))] sz) [(h_mo, .inr (1, [u_mo_thrown, u_mo_width, u_mo_height, u_mo_kind, .int mo_symbols, u_mo_wide, u_mo_high, u_mo_dark, u_mo_instances, u_mo_symbolOf, u_mo_xs, u_mo_ys, u_mo_differs, u_mo_ways, u_mo_ordered, u_mo_page, u_mo_told, u_mo_keeps, u_mo_toldBytes, u_mo_out, u_mo_counts, .ref h_mo_lengths, .ref h_mo_codes, u_mo_weight, u_mo_over, u_mo_used, u_mo_row, u_mo_came, u_mo_in, u_mo_at, u_mo_refused, u_mo_place, u_mo_readMany, u_mo_readSymbol, u_mo_readX, u_mo_readY, u_mo_readDiffers, u_mo_readWays])), (h_mo_lengths, .inl (c_mo_lengths, 16, .inl mo_lengths)), (h_mo_codes, .inl (c_mo_codes, 16, .inl u))]) (va_A [(h_mo, .inr (1, [u_mo_thrown, u_mo_width, u_mo_height, u_mo_kind, .int mo_symbols, u_mo_wide, u_mo_high, u_mo_dark, u_mo_instances, u_mo_symbolOf, u_mo_xs, u_mo_ys, u_mo_differs, u_mo_ways, u_mo_ordered, u_mo_page, u_mo_told, u_mo_keeps, u_mo_toldBytes, u_mo_out, u_mo_counts, .ref h_mo_lengths, .ref h_mo_codes, u_mo_weight, u_mo_over, u_mo_used, u_mo_row, u_mo_came, u_mo_in, u_mo_at, u_mo_refused, u_mo_place, u_mo_readMany, u_mo_readSymbol, u_mo_readX, u_mo_readY, u_mo_readDiffers, u_mo_readWays])), (h_mo_lengths, .inl (c_mo_lengths, 16, .inl mo_lengths)), (h_mo_codes, .inl (c_mo_codes, 16, .inl mo_codes))] sz)) 0 0 (va_A [(h_mo, .inr (1, [u_mo_thrown, u_mo_width, u_mo_height, u_mo_kind, .int mo_symbols, u_mo_wide, u_mo_high, u_mo_dark, u_mo_instances, u_mo_symbolOf, u_mo_xs, u_mo_ys, u_mo_differs, u_mo_ways, u_mo_ordered, u_mo_page, u_mo_told, u_mo_keeps, u_mo_toldBytes, u_mo_out, u_mo_counts, .ref h_mo_lengths, .ref h_mo_codes, u_mo_weight, u_mo_over, u_mo_used, u_mo_row, u_mo_came, u_mo_in, u_mo_at, u_mo_refused, u_mo_place, u_mo_readMany, u_mo_readSymbol, u_mo_readX, u_mo_readY, u_mo_readDiffers, u_mo_readWays])), (h_mo_lengths, .inl (c_mo_lengths, 16, .inl mo_lengths)), (h_mo_codes, .inl (c_mo_codes, 16, .inl mo_codes))] sz) := by
  refine Met.ofW (cc := b_Mo_findCodes) (maxL := 7) (ret := none) (by decide) rfl ?_
  intro p e s m args below meth c s₁ B hml hv
  obtain ⟨rfl, hsz, hP, hK, hD0, hnw⟩ := hv
  have hx := B.exec
  have hb := B.bytes
  have hr := B.returns
  have hts := atoms_spec (ws := ws_Mo_findCodes) B.pre
  have hB : ∀ w ∈ BIG, w.before _ s = true := fun w h => hts w (List.mem_cons_of_mem _ h)
  have hown : s.vm.findClass R_Mo = some m.cls := findClass_of_methodNamed B.named
  have hlocks := B.notSynchronized
  subst hsz
  have hD := hD0.self (sz := s.heap.size)
  refine W_Q (fun Q9 eQ => ?_)
  generalize hAe : va_A [(h_mo, .inr (1, [u_mo_thrown, u_mo_width, u_mo_height, u_mo_kind, .int mo_symbols, u_mo_wide, u_mo_high, u_mo_dark, u_mo_instances, u_mo_symbolOf, u_mo_xs, u_mo_ys, u_mo_differs, u_mo_ways, u_mo_ordered, u_mo_page, u_mo_told, u_mo_keeps, u_mo_toldBytes, u_mo_out, u_mo_counts, .ref h_mo_lengths, .ref h_mo_codes, u_mo_weight, u_mo_over, u_mo_used, u_mo_row, u_mo_came, u_mo_in, u_mo_at, u_mo_refused, u_mo_place, u_mo_readMany, u_mo_readSymbol, u_mo_readX, u_mo_readY, u_mo_readDiffers, u_mo_readWays])), (h_mo_lengths, .inl (c_mo_lengths, 16, .inl mo_lengths)), (h_mo_codes, .inl (c_mo_codes, 16, .inl mo_codes))] s.heap.size = A at hD eQ
  have hA : ∀ q : Nat, s.heap.size ≤ q → A q := fun q h => by rw [← hAe]; exact Or.inr h
  have hS : va_S A s.heap s.heap [] := va_S.rf
  have hl := lv_entry ([.ref h_mo]) (n := 7) (Nat.le_of_ble_eq_true rfl)
  rw [lg_entry_eq]
  generalize (lg_sl ([.ref h_mo]) ++ List.replicate (7 - (lg_sl ([.ref h_mo])).length) Slot.unset).toArray = ls at hl ⊢
  have hl : lv_has ls 7 [(0, .ref h_mo)] := hl
  have h := hf
  unfold f_Mo_findCodes at h
  refine lv_iconst (v := 0) hx hb d_Mo_findCodes_0 (by decide) ?_
  refine lv_istore_n (lv' := [(1, .int (0 : Int32)), (0, .ref h_mo)]) hx hb d_Mo_findCodes_1 rfl hl (by decide) rfl (fun ls hl => ?_)
  refine lv_iconst (v := 0) hx hb d_Mo_findCodes_2 (by decide) ?_
  refine lv_istore_n (lv' := [(2, .int (0 : Int32)), (1, .int (0 : Int32)), (0, .ref h_mo)]) hx hb d_Mo_findCodes_3 rfl hl (by decide) rfl (fun ls hl => ?_)
  refine lv_iconst (v := 1) hx hb d_Mo_findCodes_4 (by decide) ?_
  refine lv_istore_n (lv' := [(3, .int (1 : Int32)), (2, .int (0 : Int32)), (1, .int (0 : Int32)), (0, .ref h_mo)]) hx hb d_Mo_findCodes_5 rfl hl (by decide) rfl (fun ls hl => ?_)
  refine lv_iconst (v := 1) hx hb d_Mo_findCodes_6 (by decide) ?_
  refine lv_istore (lv' := [(4, .int (1 : Int32)), (3, .int (1 : Int32)), (2, .int (0 : Int32)), (1, .int (0 : Int32)), (0, .ref h_mo)]) hx hb d_Mo_findCodes_7 hl (by decide) rfl (fun ls hl => ?_)
  have w_self9 : ∀ n9 : Nat, ∀ (v4_1 : Int32) (v3_2 : Int32) (v2_3 : Int32) (v1_4 : Int32) (mo_codes_5 : (Nat → Int32)) (H : Heap) (locs : List Loc) (ls : Array Slot), lp (f_Mo_findCodes_L9 mo_symbols mo_lengths) n9 (v4_1, v3_2, v2_3, v1_4, mo_codes_5) = some o → va_P (dC, dI) CL [(h_mo, .inr (1, [u_mo_thrown, u_mo_width, u_mo_height, u_mo_kind, .int mo_symbols, u_mo_wide, u_mo_high, u_mo_dark, u_mo_instances, u_mo_symbolOf, u_mo_xs, u_mo_ys, u_mo_differs, u_mo_ways, u_mo_ordered, u_mo_page, u_mo_told, u_mo_keeps, u_mo_toldBytes, u_mo_out, u_mo_counts, .ref h_mo_lengths, .ref h_mo_codes, u_mo_weight, u_mo_over, u_mo_used, u_mo_row, u_mo_came, u_mo_in, u_mo_at, u_mo_refused, u_mo_place, u_mo_readMany, u_mo_readSymbol, u_mo_readX, u_mo_readY, u_mo_readDiffers, u_mo_readWays])), (h_mo_lengths, .inl (c_mo_lengths, 16, .inl mo_lengths)), (h_mo_codes, .inl (c_mo_codes, 16, .inl mo_codes_5))] H → va_D A [(h_mo, .inr (1, [u_mo_thrown, u_mo_width, u_mo_height, u_mo_kind, .int mo_symbols, u_mo_wide, u_mo_high, u_mo_dark, u_mo_instances, u_mo_symbolOf, u_mo_xs, u_mo_ys, u_mo_differs, u_mo_ways, u_mo_ordered, u_mo_page, u_mo_told, u_mo_keeps, u_mo_toldBytes, u_mo_out, u_mo_counts, .ref h_mo_lengths, .ref h_mo_codes, u_mo_weight, u_mo_over, u_mo_used, u_mo_row, u_mo_came, u_mo_in, u_mo_at, u_mo_refused, u_mo_place, u_mo_readMany, u_mo_readSymbol, u_mo_readX, u_mo_readY, u_mo_readDiffers, u_mo_readWays])), (h_mo_lengths, .inl (c_mo_lengths, 16, .inl mo_lengths)), (h_mo_codes, .inl (c_mo_codes, 16, .inl mo_codes_5))] → va_S A s.heap H locs → lv_has ls 7 [(4, .int v4_1), (3, .int v3_2), (2, .int v2_3), (1, .int v1_4), (0, .ref h_mo)] → W p l e ({ frames := 0, cells := 0, slots := 0, locals := 0 } : Room) s m ([.ref h_mo] : List Value).toArray below meth c H locs 0 0 Q9 (F0 m 9 ls []) := by
    intro n9
    induction n9 with
    | zero =>
      intro v4_1 v3_2 v2_3 v1_4 mo_codes_5 H locs ls h hP hD hS hl
      exact absurd h (by simp [lp])
    | succ n9 ih_self9 =>
      intro v4_1 v3_2 v2_3 v1_4 mo_codes_5 H locs ls h hP hD hS hl
      obtain ⟨self9, e_self9, h⟩ := abs_k (P := fun z9 => f_Mo_findCodes_L9 mo_symbols mo_lengths z9 (v4_1, v3_2, v2_3, v1_4, mo_codes_5) = some o) (lp_e h)
      rw [← e_self9] at ih_self9
      unfold f_Mo_findCodes_L9 at h
      try dsimp only at h
      refine lv_iload hx hb d_Mo_findCodes_9 (lv_at hl 0 rfl) ?_
      refine lv_bipush (v := 16) hx hb d_Mo_findCodes_11 (by decide) ?_
      refine lv_icmp_ge (tgt := 101) hx hb d_Mo_findCodes_13 (by decide) (fun c_1 => ?_) (fun c_1 => ?_)
      · have h := if_t h c_1
        subst eQ
        exact W.vret hx hb hr (fun t ht hW => ⟨⟨mo_codes_5, rfl, Option.some.inj h, by rw [ht]; exact hP, va_K.moved hW.alike hK, hD⟩, hS.F ht⟩) hS.2.2 d_Mo_findCodes_101
      · have h := if_f h c_1
        refine lv_iconst (v := 0) hx hb d_Mo_findCodes_16 (by decide) ?_
        refine lv_istore (lv' := [(5, .int (0 : Int32)), (4, .int v4_1), (3, .int v3_2), (2, .int v2_3), (1, .int v1_4), (0, .ref h_mo)]) hx hb d_Mo_findCodes_17 hl (by decide) rfl (fun ls hl => ?_)
        obtain ⟨k95, e_k95, h⟩ := abs_k (P := fun k9 => lp (f_Mo_findCodes_L19 mo_symbols mo_lengths v4_1 k9) FU ((0 : Int32), v3_2, v2_3, v1_4, mo_codes_5) = some o) h
        have w_k95 : ∀ (v3_11 : Int32) (v2_12 : Int32) (v1_13 : Int32) (mo_codes_14 : (Nat → Int32)) (H : Heap) (locs : List Loc) (ls : Array Slot), k95 v3_11 v2_12 v1_13 mo_codes_14 = some o → va_P (dC, dI) CL [(h_mo, .inr (1, [u_mo_thrown, u_mo_width, u_mo_height, u_mo_kind, .int mo_symbols, u_mo_wide, u_mo_high, u_mo_dark, u_mo_instances, u_mo_symbolOf, u_mo_xs, u_mo_ys, u_mo_differs, u_mo_ways, u_mo_ordered, u_mo_page, u_mo_told, u_mo_keeps, u_mo_toldBytes, u_mo_out, u_mo_counts, .ref h_mo_lengths, .ref h_mo_codes, u_mo_weight, u_mo_over, u_mo_used, u_mo_row, u_mo_came, u_mo_in, u_mo_at, u_mo_refused, u_mo_place, u_mo_readMany, u_mo_readSymbol, u_mo_readX, u_mo_readY, u_mo_readDiffers, u_mo_readWays])), (h_mo_lengths, .inl (c_mo_lengths, 16, .inl mo_lengths)), (h_mo_codes, .inl (c_mo_codes, 16, .inl mo_codes_14))] H → va_D A [(h_mo, .inr (1, [u_mo_thrown, u_mo_width, u_mo_height, u_mo_kind, .int mo_symbols, u_mo_wide, u_mo_high, u_mo_dark, u_mo_instances, u_mo_symbolOf, u_mo_xs, u_mo_ys, u_mo_differs, u_mo_ways, u_mo_ordered, u_mo_page, u_mo_told, u_mo_keeps, u_mo_toldBytes, u_mo_out, u_mo_counts, .ref h_mo_lengths, .ref h_mo_codes, u_mo_weight, u_mo_over, u_mo_used, u_mo_row, u_mo_came, u_mo_in, u_mo_at, u_mo_refused, u_mo_place, u_mo_readMany, u_mo_readSymbol, u_mo_readX, u_mo_readY, u_mo_readDiffers, u_mo_readWays])), (h_mo_lengths, .inl (c_mo_lengths, 16, .inl mo_lengths)), (h_mo_codes, .inl (c_mo_codes, 16, .inl mo_codes_14))] → va_S A s.heap H locs → lv_has ls 7 [(4, .int v4_1), (3, .int v3_11), (2, .int v2_12), (1, .int v1_13), (0, .ref h_mo)] → W p l e ({ frames := 0, cells := 0, slots := 0, locals := 0 } : Room) s m ([.ref h_mo] : List Value).toArray below meth c H locs 0 0 Q9 (F0 m 95 ls []) := by
          intro v3_11 v2_12 v1_13 mo_codes_14 H locs ls h hP hD hS hl
          rw [e_k95] at h
          obtain ⟨v4_26, e_v4_26⟩ : ∃ y9 : Int32, y9 = (v4_1 + (1 : Int32)) := ⟨_, rfl⟩
          have h := nl_u e_v4_26 h
          refine lv_iinc (v := v4_26) (lv' := [(4, .int v4_26), (3, .int v3_11), (2, .int v2_12), (1, .int v1_13), (0, .ref h_mo)]) hx hb d_Mo_findCodes_95 hl (k := 0) rfl (by rw [e_v4_26]; rfl) (by decide) rfl (fun ls hl => ?_)
          refine lv_goto (tgt := 9) hx hb d_Mo_findCodes_98 (by decide) ?_
          exact ih_self9 _ _ _ _ _ _ _ _ h hP hD hS hl
        have w_self19 : ∀ n9 : Nat, ∀ (v5_6 : Int32) (v3_7 : Int32) (v2_8 : Int32) (v1_9 : Int32) (mo_codes_10 : (Nat → Int32)) (H : Heap) (locs : List Loc) (ls : Array Slot), lp (f_Mo_findCodes_L19 mo_symbols mo_lengths v4_1 k95) n9 (v5_6, v3_7, v2_8, v1_9, mo_codes_10) = some o → va_P (dC, dI) CL [(h_mo, .inr (1, [u_mo_thrown, u_mo_width, u_mo_height, u_mo_kind, .int mo_symbols, u_mo_wide, u_mo_high, u_mo_dark, u_mo_instances, u_mo_symbolOf, u_mo_xs, u_mo_ys, u_mo_differs, u_mo_ways, u_mo_ordered, u_mo_page, u_mo_told, u_mo_keeps, u_mo_toldBytes, u_mo_out, u_mo_counts, .ref h_mo_lengths, .ref h_mo_codes, u_mo_weight, u_mo_over, u_mo_used, u_mo_row, u_mo_came, u_mo_in, u_mo_at, u_mo_refused, u_mo_place, u_mo_readMany, u_mo_readSymbol, u_mo_readX, u_mo_readY, u_mo_readDiffers, u_mo_readWays])), (h_mo_lengths, .inl (c_mo_lengths, 16, .inl mo_lengths)), (h_mo_codes, .inl (c_mo_codes, 16, .inl mo_codes_10))] H → va_D A [(h_mo, .inr (1, [u_mo_thrown, u_mo_width, u_mo_height, u_mo_kind, .int mo_symbols, u_mo_wide, u_mo_high, u_mo_dark, u_mo_instances, u_mo_symbolOf, u_mo_xs, u_mo_ys, u_mo_differs, u_mo_ways, u_mo_ordered, u_mo_page, u_mo_told, u_mo_keeps, u_mo_toldBytes, u_mo_out, u_mo_counts, .ref h_mo_lengths, .ref h_mo_codes, u_mo_weight, u_mo_over, u_mo_used, u_mo_row, u_mo_came, u_mo_in, u_mo_at, u_mo_refused, u_mo_place, u_mo_readMany, u_mo_readSymbol, u_mo_readX, u_mo_readY, u_mo_readDiffers, u_mo_readWays])), (h_mo_lengths, .inl (c_mo_lengths, 16, .inl mo_lengths)), (h_mo_codes, .inl (c_mo_codes, 16, .inl mo_codes_10))] → va_S A s.heap H locs → lv_has ls 7 [(5, .int v5_6), (4, .int v4_1), (3, .int v3_7), (2, .int v2_8), (1, .int v1_9), (0, .ref h_mo)] → W p l e ({ frames := 0, cells := 0, slots := 0, locals := 0 } : Room) s m ([.ref h_mo] : List Value).toArray below meth c H locs 0 0 Q9 (F0 m 19 ls []) := by
          intro n9
          induction n9 with
          | zero =>
            intro v5_6 v3_7 v2_8 v1_9 mo_codes_10 H locs ls h hP hD hS hl
            exact absurd h (by simp [lp])
          | succ n9 ih_self19 =>
            intro v5_6 v3_7 v2_8 v1_9 mo_codes_10 H locs ls h hP hD hS hl
            obtain ⟨self19, e_self19, h⟩ := abs_k (P := fun z9 => f_Mo_findCodes_L19 mo_symbols mo_lengths v4_1 k95 z9 (v5_6, v3_7, v2_8, v1_9, mo_codes_10) = some o) (lp_e h)
            rw [← e_self19] at ih_self19
            unfold f_Mo_findCodes_L19 at h
            try dsimp only at h
            refine lv_iload hx hb d_Mo_findCodes_19 (lv_at hl 0 rfl) ?_
            refine lv_aload_n hx hb d_Mo_findCodes_21 rfl (lv_at hl 5 rfl) ?_
            refine va_get (D := (dC, dI)) (ci := 1) (v := .int mo_symbols) (C := R_Mo) (T := T_Mo) (N := 38) hx hb hB iw_Mo hown hK hP 0 rfl rfl 4 (by decide) (hB _ bw_877) (fun _ h9 => h9) rfl d_Mo_findCodes_22 ?_
            refine lv_icmp_ge (tgt := 95) hx hb d_Mo_findCodes_25 (by decide) (fun c_2 => ?_) (fun c_2 => ?_)
            · have h := if_t h c_2
              exact w_k95 _ _ _ _ _ _ _ h hP hD hS (lv_sub hl [1, 2, 3, 4, 5] rfl)
            · have h := if_f h c_2
              refine lv_aload_n hx hb d_Mo_findCodes_28 rfl (lv_at hl 5 rfl) ?_
              refine va_get (D := (dC, dI)) (ci := 1) (v := .ref h_mo_lengths) (C := R_Mo) (T := T_Mo) (N := 38) hx hb hB iw_Mo hown hK hP 0 rfl rfl 21 (by decide) (hB _ bw_894) (fun _ h9 => h9) rfl d_Mo_findCodes_29 ?_
              refine lv_iload hx hb d_Mo_findCodes_32 (lv_at hl 0 rfl) ?_
              obtain ⟨hin, h⟩ := gq_e h
              refine va_iald hx hb hK hP 1 0 rfl rfl hin d_Mo_findCodes_34 ?_
              refine lv_iload hx hb d_Mo_findCodes_35 (lv_at hl 1 rfl) ?_
              obtain ⟨j89, e_j89, h⟩ := jn_e h
              have w_j89 : ∀ (v3_15 : Int32) (v2_16 : Int32) (v1_17 : Int32) (mo_codes_18 : (Nat → Int32)) (H : Heap) (locs : List Loc) (ls : Array Slot), j89 v3_15 v2_16 v1_17 mo_codes_18 = some o → va_P (dC, dI) CL [(h_mo, .inr (1, [u_mo_thrown, u_mo_width, u_mo_height, u_mo_kind, .int mo_symbols, u_mo_wide, u_mo_high, u_mo_dark, u_mo_instances, u_mo_symbolOf, u_mo_xs, u_mo_ys, u_mo_differs, u_mo_ways, u_mo_ordered, u_mo_page, u_mo_told, u_mo_keeps, u_mo_toldBytes, u_mo_out, u_mo_counts, .ref h_mo_lengths, .ref h_mo_codes, u_mo_weight, u_mo_over, u_mo_used, u_mo_row, u_mo_came, u_mo_in, u_mo_at, u_mo_refused, u_mo_place, u_mo_readMany, u_mo_readSymbol, u_mo_readX, u_mo_readY, u_mo_readDiffers, u_mo_readWays])), (h_mo_lengths, .inl (c_mo_lengths, 16, .inl mo_lengths)), (h_mo_codes, .inl (c_mo_codes, 16, .inl mo_codes_18))] H → va_D A [(h_mo, .inr (1, [u_mo_thrown, u_mo_width, u_mo_height, u_mo_kind, .int mo_symbols, u_mo_wide, u_mo_high, u_mo_dark, u_mo_instances, u_mo_symbolOf, u_mo_xs, u_mo_ys, u_mo_differs, u_mo_ways, u_mo_ordered, u_mo_page, u_mo_told, u_mo_keeps, u_mo_toldBytes, u_mo_out, u_mo_counts, .ref h_mo_lengths, .ref h_mo_codes, u_mo_weight, u_mo_over, u_mo_used, u_mo_row, u_mo_came, u_mo_in, u_mo_at, u_mo_refused, u_mo_place, u_mo_readMany, u_mo_readSymbol, u_mo_readX, u_mo_readY, u_mo_readDiffers, u_mo_readWays])), (h_mo_lengths, .inl (c_mo_lengths, 16, .inl mo_lengths)), (h_mo_codes, .inl (c_mo_codes, 16, .inl mo_codes_18))] → va_S A s.heap H locs → lv_has ls 7 [(5, .int v5_6), (4, .int v4_1), (3, .int v3_15), (2, .int v2_16), (1, .int v1_17), (0, .ref h_mo)] → W p l e ({ frames := 0, cells := 0, slots := 0, locals := 0 } : Room) s m ([.ref h_mo] : List Value).toArray below meth c H locs 0 0 Q9 (F0 m 89 ls []) := by
                intro v3_15 v2_16 v1_17 mo_codes_18 H locs ls h hP hD hS hl
                rw [e_j89] at h
                obtain ⟨v5_19, e_v5_19⟩ : ∃ y9 : Int32, y9 = (v5_6 + (1 : Int32)) := ⟨_, rfl⟩
                have h := nl_u e_v5_19 h
                refine lv_iinc (v := v5_19) (lv' := [(5, .int v5_19), (4, .int v4_1), (3, .int v3_15), (2, .int v2_16), (1, .int v1_17), (0, .ref h_mo)]) hx hb d_Mo_findCodes_89 hl (k := 0) rfl (by rw [e_v5_19]; rfl) (by decide) rfl (fun ls hl => ?_)
                refine lv_goto (tgt := 19) hx hb d_Mo_findCodes_92 (by decide) ?_
                exact ih_self19 _ _ _ _ _ _ _ _ h hP hD hS hl
              refine lv_icmp_ne (tgt := 89) hx hb d_Mo_findCodes_37 (by decide) (fun c_3 => ?_) (fun c_3 => ?_)
              · have h := if_f h c_3
                exact w_j89 _ _ _ _ _ _ _ h hP hD hS hl
              · have h := if_t h c_3
                refine lv_iload_n hx hb d_Mo_findCodes_40 rfl (lv_at hl 2 rfl) ?_
                obtain ⟨j51, e_j51, h⟩ := jn_e h
                have w_j51 : ∀ (s_20 : Int32) (H : Heap) (locs : List Loc) (ls : Array Slot), j51 s_20 = some o → va_P (dC, dI) CL [(h_mo, .inr (1, [u_mo_thrown, u_mo_width, u_mo_height, u_mo_kind, .int mo_symbols, u_mo_wide, u_mo_high, u_mo_dark, u_mo_instances, u_mo_symbolOf, u_mo_xs, u_mo_ys, u_mo_differs, u_mo_ways, u_mo_ordered, u_mo_page, u_mo_told, u_mo_keeps, u_mo_toldBytes, u_mo_out, u_mo_counts, .ref h_mo_lengths, .ref h_mo_codes, u_mo_weight, u_mo_over, u_mo_used, u_mo_row, u_mo_came, u_mo_in, u_mo_at, u_mo_refused, u_mo_place, u_mo_readMany, u_mo_readSymbol, u_mo_readX, u_mo_readY, u_mo_readDiffers, u_mo_readWays])), (h_mo_lengths, .inl (c_mo_lengths, 16, .inl mo_lengths)), (h_mo_codes, .inl (c_mo_codes, 16, .inl mo_codes_10))] H → va_D A [(h_mo, .inr (1, [u_mo_thrown, u_mo_width, u_mo_height, u_mo_kind, .int mo_symbols, u_mo_wide, u_mo_high, u_mo_dark, u_mo_instances, u_mo_symbolOf, u_mo_xs, u_mo_ys, u_mo_differs, u_mo_ways, u_mo_ordered, u_mo_page, u_mo_told, u_mo_keeps, u_mo_toldBytes, u_mo_out, u_mo_counts, .ref h_mo_lengths, .ref h_mo_codes, u_mo_weight, u_mo_over, u_mo_used, u_mo_row, u_mo_came, u_mo_in, u_mo_at, u_mo_refused, u_mo_place, u_mo_readMany, u_mo_readSymbol, u_mo_readX, u_mo_readY, u_mo_readDiffers, u_mo_readWays])), (h_mo_lengths, .inl (c_mo_lengths, 16, .inl mo_lengths)), (h_mo_codes, .inl (c_mo_codes, 16, .inl mo_codes_10))] → va_S A s.heap H locs → lv_has ls 7 [(5, .int v5_6), (4, .int v4_1), (3, .int v3_7), (2, .int v2_8), (0, .ref h_mo)] → W p l e ({ frames := 0, cells := 0, slots := 0, locals := 0 } : Room) s m ([.ref h_mo] : List Value).toArray below meth c H locs 0 0 Q9 (F0 m 51 ls [.int s_20]) := by
                  intro s_20 H locs ls h hP hD hS hl
                  rw [e_j51] at h
                  refine lv_istore_n (lv' := [(1, .int s_20), (5, .int v5_6), (4, .int v4_1), (3, .int v3_7), (2, .int v2_8), (0, .ref h_mo)]) hx hb d_Mo_findCodes_51 rfl hl (by decide) rfl (fun ls hl => ?_)
                  refine lv_iload_n hx hb d_Mo_findCodes_52 rfl (lv_at hl 4 rfl) ?_
                  refine lv_istore (lv' := [(6, .int v2_8), (1, .int s_20), (5, .int v5_6), (4, .int v4_1), (3, .int v3_7), (2, .int v2_8), (0, .ref h_mo)]) hx hb d_Mo_findCodes_53 hl (by decide) rfl (fun ls hl => ?_)
                  obtain ⟨k76, e_k76, h⟩ := abs_k (P := fun k9 => lp (f_Mo_findCodes_L55 v4_1 v3_7 k9) FU (v2_8, s_20) = some o) h
                  have w_k76 : ∀ (v1_23 : Int32) (H : Heap) (locs : List Loc) (ls : Array Slot), k76 v1_23 = some o → va_P (dC, dI) CL [(h_mo, .inr (1, [u_mo_thrown, u_mo_width, u_mo_height, u_mo_kind, .int mo_symbols, u_mo_wide, u_mo_high, u_mo_dark, u_mo_instances, u_mo_symbolOf, u_mo_xs, u_mo_ys, u_mo_differs, u_mo_ways, u_mo_ordered, u_mo_page, u_mo_told, u_mo_keeps, u_mo_toldBytes, u_mo_out, u_mo_counts, .ref h_mo_lengths, .ref h_mo_codes, u_mo_weight, u_mo_over, u_mo_used, u_mo_row, u_mo_came, u_mo_in, u_mo_at, u_mo_refused, u_mo_place, u_mo_readMany, u_mo_readSymbol, u_mo_readX, u_mo_readY, u_mo_readDiffers, u_mo_readWays])), (h_mo_lengths, .inl (c_mo_lengths, 16, .inl mo_lengths)), (h_mo_codes, .inl (c_mo_codes, 16, .inl mo_codes_10))] H → va_D A [(h_mo, .inr (1, [u_mo_thrown, u_mo_width, u_mo_height, u_mo_kind, .int mo_symbols, u_mo_wide, u_mo_high, u_mo_dark, u_mo_instances, u_mo_symbolOf, u_mo_xs, u_mo_ys, u_mo_differs, u_mo_ways, u_mo_ordered, u_mo_page, u_mo_told, u_mo_keeps, u_mo_toldBytes, u_mo_out, u_mo_counts, .ref h_mo_lengths, .ref h_mo_codes, u_mo_weight, u_mo_over, u_mo_used, u_mo_row, u_mo_came, u_mo_in, u_mo_at, u_mo_refused, u_mo_place, u_mo_readMany, u_mo_readSymbol, u_mo_readX, u_mo_readY, u_mo_readDiffers, u_mo_readWays])), (h_mo_lengths, .inl (c_mo_lengths, 16, .inl mo_lengths)), (h_mo_codes, .inl (c_mo_codes, 16, .inl mo_codes_10))] → va_S A s.heap H locs → lv_has ls 7 [(1, .int v1_23), (5, .int v5_6), (4, .int v4_1), (0, .ref h_mo)] → W p l e ({ frames := 0, cells := 0, slots := 0, locals := 0 } : Room) s m ([.ref h_mo] : List Value).toArray below meth c H locs 0 0 Q9 (F0 m 76 ls []) := by
                    intro v1_23 H locs ls h hP hD hS hl
                    rw [e_k76] at h
                    refine lv_iload hx hb d_Mo_findCodes_76 (lv_at hl 2 rfl) ?_
                    refine lv_istore_n (lv' := [(2, .int v4_1), (1, .int v1_23), (5, .int v5_6), (4, .int v4_1), (0, .ref h_mo)]) hx hb d_Mo_findCodes_78 rfl hl (by decide) rfl (fun ls hl => ?_)
                    refine lv_iconst (v := 0) hx hb d_Mo_findCodes_79 (by decide) ?_
                    refine lv_istore_n (lv' := [(3, .int (0 : Int32)), (2, .int v4_1), (1, .int v1_23), (5, .int v5_6), (4, .int v4_1), (0, .ref h_mo)]) hx hb d_Mo_findCodes_80 rfl hl (by decide) rfl (fun ls hl => ?_)
                    refine lv_aload_n hx hb d_Mo_findCodes_81 rfl (lv_at hl 5 rfl) ?_
                    refine va_get (D := (dC, dI)) (ci := 1) (v := .ref h_mo_codes) (C := R_Mo) (T := T_Mo) (N := 38) hx hb hB iw_Mo hown hK hP 0 rfl rfl 22 (by decide) (hB _ bw_895) (fun _ h9 => h9) rfl d_Mo_findCodes_82 ?_
                    refine lv_iload hx hb d_Mo_findCodes_85 (lv_at hl 3 rfl) ?_
                    refine lv_iload_n hx hb d_Mo_findCodes_87 rfl (lv_at hl 2 rfl) ?_
                    obtain ⟨hin, h⟩ := gq_e h
                    refine va_iast hx hb hK hP hD hS 2 1 rfl rfl hin d_Mo_findCodes_88 (fun H locs hP hD hS => ?_)
                    have hP : va_P (dC, dI) CL [(h_mo, .inr (1, [u_mo_thrown, u_mo_width, u_mo_height, u_mo_kind, .int mo_symbols, u_mo_wide, u_mo_high, u_mo_dark, u_mo_instances, u_mo_symbolOf, u_mo_xs, u_mo_ys, u_mo_differs, u_mo_ways, u_mo_ordered, u_mo_page, u_mo_told, u_mo_keeps, u_mo_toldBytes, u_mo_out, u_mo_counts, .ref h_mo_lengths, .ref h_mo_codes, u_mo_weight, u_mo_over, u_mo_used, u_mo_row, u_mo_came, u_mo_in, u_mo_at, u_mo_refused, u_mo_place, u_mo_readMany, u_mo_readSymbol, u_mo_readX, u_mo_readY, u_mo_readDiffers, u_mo_readWays])), (h_mo_lengths, .inl (c_mo_lengths, 16, .inl mo_lengths)), (h_mo_codes, .inl (c_mo_codes, 16, .inl (upd mo_codes_10 (v5_6).toNatClampNeg v1_23)))] H := hP
                    have hD : va_D A [(h_mo, .inr (1, [u_mo_thrown, u_mo_width, u_mo_height, u_mo_kind, .int mo_symbols, u_mo_wide, u_mo_high, u_mo_dark, u_mo_instances, u_mo_symbolOf, u_mo_xs, u_mo_ys, u_mo_differs, u_mo_ways, u_mo_ordered, u_mo_page, u_mo_told, u_mo_keeps, u_mo_toldBytes, u_mo_out, u_mo_counts, .ref h_mo_lengths, .ref h_mo_codes, u_mo_weight, u_mo_over, u_mo_used, u_mo_row, u_mo_came, u_mo_in, u_mo_at, u_mo_refused, u_mo_place, u_mo_readMany, u_mo_readSymbol, u_mo_readX, u_mo_readY, u_mo_readDiffers, u_mo_readWays])), (h_mo_lengths, .inl (c_mo_lengths, 16, .inl mo_lengths)), (h_mo_codes, .inl (c_mo_codes, 16, .inl (upd mo_codes_10 (v5_6).toNatClampNeg v1_23)))] := hD
                    exact w_j89 _ _ _ _ _ _ _ h hP hD hS (lv_sub hl [3, 4, 0, 1, 2, 5] rfl)
                  have w_self55 : ∀ n9 : Nat, ∀ (v6_21 : Int32) (v1_22 : Int32) (H : Heap) (locs : List Loc) (ls : Array Slot), lp (f_Mo_findCodes_L55 v4_1 v3_7 k76) n9 (v6_21, v1_22) = some o → va_P (dC, dI) CL [(h_mo, .inr (1, [u_mo_thrown, u_mo_width, u_mo_height, u_mo_kind, .int mo_symbols, u_mo_wide, u_mo_high, u_mo_dark, u_mo_instances, u_mo_symbolOf, u_mo_xs, u_mo_ys, u_mo_differs, u_mo_ways, u_mo_ordered, u_mo_page, u_mo_told, u_mo_keeps, u_mo_toldBytes, u_mo_out, u_mo_counts, .ref h_mo_lengths, .ref h_mo_codes, u_mo_weight, u_mo_over, u_mo_used, u_mo_row, u_mo_came, u_mo_in, u_mo_at, u_mo_refused, u_mo_place, u_mo_readMany, u_mo_readSymbol, u_mo_readX, u_mo_readY, u_mo_readDiffers, u_mo_readWays])), (h_mo_lengths, .inl (c_mo_lengths, 16, .inl mo_lengths)), (h_mo_codes, .inl (c_mo_codes, 16, .inl mo_codes_10))] H → va_D A [(h_mo, .inr (1, [u_mo_thrown, u_mo_width, u_mo_height, u_mo_kind, .int mo_symbols, u_mo_wide, u_mo_high, u_mo_dark, u_mo_instances, u_mo_symbolOf, u_mo_xs, u_mo_ys, u_mo_differs, u_mo_ways, u_mo_ordered, u_mo_page, u_mo_told, u_mo_keeps, u_mo_toldBytes, u_mo_out, u_mo_counts, .ref h_mo_lengths, .ref h_mo_codes, u_mo_weight, u_mo_over, u_mo_used, u_mo_row, u_mo_came, u_mo_in, u_mo_at, u_mo_refused, u_mo_place, u_mo_readMany, u_mo_readSymbol, u_mo_readX, u_mo_readY, u_mo_readDiffers, u_mo_readWays])), (h_mo_lengths, .inl (c_mo_lengths, 16, .inl mo_lengths)), (h_mo_codes, .inl (c_mo_codes, 16, .inl mo_codes_10))] → va_S A s.heap H locs → lv_has ls 7 [(6, .int v6_21), (1, .int v1_22), (5, .int v5_6), (4, .int v4_1), (3, .int v3_7), (0, .ref h_mo)] → W p l e ({ frames := 0, cells := 0, slots := 0, locals := 0 } : Room) s m ([.ref h_mo] : List Value).toArray below meth c H locs 0 0 Q9 (F0 m 55 ls []) := by
                    intro n9
                    induction n9 with
                    | zero =>
                      intro v6_21 v1_22 H locs ls h hP hD hS hl
                      exact absurd h (by simp [lp])
                    | succ n9 ih_self55 =>
                      intro v6_21 v1_22 H locs ls h hP hD hS hl
                      obtain ⟨self55, e_self55, h⟩ := abs_k (P := fun z9 => f_Mo_findCodes_L55 v4_1 v3_7 k76 z9 (v6_21, v1_22) = some o) (lp_e h)
                      rw [← e_self55] at ih_self55
                      unfold f_Mo_findCodes_L55 at h
                      try dsimp only at h
                      refine lv_iload hx hb d_Mo_findCodes_55 (lv_at hl 0 rfl) ?_
                      refine lv_iload hx hb d_Mo_findCodes_57 (lv_at hl 3 rfl) ?_
                      refine lv_icmp_ge (tgt := 76) hx hb d_Mo_findCodes_59 (by decide) (fun c_4 => ?_) (fun c_4 => ?_)
                      · have h := if_t h c_4
                        exact w_k76 _ _ _ _ h hP hD hS (lv_sub hl [1, 2, 3, 5] rfl)
                      · have h := if_f h c_4
                        refine lv_iload_n hx hb d_Mo_findCodes_62 rfl (lv_at hl 4 rfl) ?_
                        refine lv_if_ne (tgt := 76) hx hb d_Mo_findCodes_63 (by decide) (fun c_5 => ?_) (fun c_5 => ?_)
                        · have h := if_f h c_5
                          exact w_k76 _ _ _ _ h hP hD hS (lv_sub hl [1, 2, 3, 5] rfl)
                        · have h := if_t h c_5
                          refine lv_iconst (v := 2) hx hb d_Mo_findCodes_66 (by decide) ?_
                          refine lv_iload_n hx hb d_Mo_findCodes_67 rfl (lv_at hl 1 rfl) ?_
                          refine lv_imul hx hb d_Mo_findCodes_68 ?_
                          refine lv_topi (fun v1_24 e_v1_24 => ?_)
                          have h := nl_u e_v1_24 h
                          refine lv_istore_n (lv' := [(1, .int v1_24), (6, .int v6_21), (5, .int v5_6), (4, .int v4_1), (3, .int v3_7), (0, .ref h_mo)]) hx hb d_Mo_findCodes_69 rfl hl (by decide) rfl (fun ls hl => ?_)
                          obtain ⟨v6_25, e_v6_25⟩ : ∃ y9 : Int32, y9 = (v6_21 + (1 : Int32)) := ⟨_, rfl⟩
                          have h := nl_u e_v6_25 h
                          refine lv_iinc (v := v6_25) (lv' := [(6, .int v6_25), (1, .int v1_24), (5, .int v5_6), (4, .int v4_1), (3, .int v3_7), (0, .ref h_mo)]) hx hb d_Mo_findCodes_70 hl (k := 1) rfl (by rw [e_v6_25]; rfl) (by decide) rfl (fun ls hl => ?_)
                          refine lv_goto (tgt := 55) hx hb d_Mo_findCodes_73 (by decide) ?_
                          exact ih_self55 _ _ _ _ _ h hP hD hS hl
                  exact w_self55 FU _ _ _ _ _ h hP hD hS (lv_sub hl [0, 1, 2, 3, 4, 6] rfl)
                refine lv_if_eq (tgt := 48) hx hb d_Mo_findCodes_41 (by decide) (fun c_6 => ?_) (fun c_6 => ?_)
                · have h := if_t h c_6
                  refine lv_iload_n hx hb d_Mo_findCodes_48 rfl (lv_at hl 4 rfl) ?_
                  refine lv_iconst (v := 1) hx hb d_Mo_findCodes_49 (by decide) ?_
                  refine lv_iadd hx hb d_Mo_findCodes_50 ?_
                  exact w_j51 _ _ _ _ h hP hD hS (lv_sub hl [0, 1, 2, 3, 5] rfl)
                · have h := if_f h c_6
                  refine lv_iconst (v := 0) hx hb d_Mo_findCodes_44 (by decide) ?_
                  refine lv_goto (tgt := 51) hx hb d_Mo_findCodes_45 (by decide) ?_
                  exact w_j51 _ _ _ _ h hP hD hS (lv_sub hl [0, 1, 2, 3, 5] rfl)
        exact w_self19 FU _ _ _ _ _ _ _ _ h hP hD hS hl
  exact w_self9 FU _ _ _ _ _ _ _ _ h hP hD hS hl
set_option maxHeartbeats 4000000 in
set_option maxRecDepth 100000 in
theorem c_Mo_bit (l : Launch) (dC : Nat → ClassId) (dI : Nat → Nat → Nat) (h_mo : Nat) (h_mo_out : Nat) (c_mo_out : ClassId) (u_mo_thrown : Value) (u_mo_width : Value) (u_mo_height : Value) (u_mo_kind : Value) (u_mo_symbols : Value) (u_mo_wide : Value) (u_mo_high : Value) (u_mo_dark : Value) (u_mo_instances : Value) (u_mo_symbolOf : Value) (u_mo_xs : Value) (u_mo_ys : Value) (u_mo_differs : Value) (u_mo_ways : Value) (u_mo_ordered : Value) (u_mo_page : Value) (u_mo_toldBytes : Value) (u_mo_counts : Value) (u_mo_lengths : Value) (u_mo_codes : Value) (u_mo_weight : Value) (u_mo_over : Value) (u_mo_used : Value) (u_mo_row : Value) (u_mo_came : Value) (u_mo_in : Value) (u_mo_at : Value) (u_mo_refused : Value) (u_mo_place : Value) (u_mo_readMany : Value) (u_mo_readSymbol : Value) (u_mo_readX : Value) (u_mo_readY : Value) (u_mo_readDiffers : Value) (u_mo_readWays : Value) (mo_told : Int32) (mo_keeps : Int32) (mo_out : (Nat → Int32)) (p0 : Int32) (sz : Nat) (o : Int32 × (Nat → Int32)) (hf : f_Mo_bit mo_told mo_keeps mo_out p0 = some o) :
    Met l y_Mo_bit ws_Mo_bit { frames := 0, cells := 0, slots := 0, locals := 0 } (va_Pc [.ref h_mo, .int p0] (PcM (dC, dI) [(h_mo, .inr (1, [u_mo_thrown, u_mo_width, u_mo_height, u_mo_kind, u_mo_symbols, u_mo_wide, u_mo_high, u_mo_dark, u_mo_instances, u_mo_symbolOf, u_mo_xs, u_mo_ys, u_mo_differs, u_mo_ways, u_mo_ordered, u_mo_page, .int mo_told, .int mo_keeps, u_mo_toldBytes, .ref h_mo_out, u_mo_counts, u_mo_lengths, u_mo_codes, u_mo_weight, u_mo_over, u_mo_used, u_mo_row, u_mo_came, u_mo_in, u_mo_at, u_mo_refused, u_mo_place, u_mo_readMany, u_mo_readSymbol, u_mo_readX, u_mo_readY, u_mo_readDiffers, u_mo_readWays])), (h_mo_out, .inl (c_mo_out, 2000, .inl mo_out))] [(c_mo_out, .int)] sz))
      (va_Qv (fun u : Int32 × (Nat → Int32) => u = o) (fun u t => va_P (dC, dI) CL [(h_mo, .inr (1, [u_mo_thrown, u_mo_width, u_mo_height, u_mo_kind, u_mo_symbols, u_mo_wide, u_mo_high, u_mo_dark, u_mo_instances, u_mo_symbolOf, u_mo_xs, u_mo_ys, u_mo_differs, u_mo_ways, u_mo_ordered, u_mo_page, .int (u.1), .int mo_keeps, u_mo_toldBytes, .ref h_mo_out, u_mo_counts, u_mo_lengths, u_mo_codes, u_mo_weight, u_mo_over, u_mo_used, u_mo_row, u_mo_came, u_mo_in, u_mo_at, u_mo_refused, u_mo_place, u_mo_readMany, u_mo_readSymbol, u_mo_readX, u_mo_readY, u_mo_readDiffers, u_mo_readWays])), (h_mo_out, .inl (c_mo_out, 2000, .inl (u.2)))] t.heap ∧ va_K (dC, dI) CL [(c_mo_out, .int)] t ∧ va_D (va_A [(h_mo, .inr (1, [u_mo_thrown, u_mo_width, u_mo_height, u_mo_kind, u_mo_symbols, u_mo_wide, u_mo_high, u_mo_dark, u_mo_instances, u_mo_symbolOf, u_mo_xs, u_mo_ys, u_mo_differs, u_mo_ways, u_mo_ordered, u_mo_page, .int mo_told, .int mo_keeps, u_mo_toldBytes, .ref h_mo_out, u_mo_counts, u_mo_lengths, u_mo_codes, u_mo_weight, u_mo_over, u_mo_used, u_mo_row, u_mo_came, u_mo_in, u_mo_at, u_mo_refused, u_mo_place, u_mo_readMany, u_mo_readSymbol, u_mo_readX, u_mo_readY, u_mo_readDiffers, u_mo_readWays])), (h_mo_out, .inl (c_mo_out, 2000, .inl mo_out))] sz) [(h_mo, .inr (1, [u_mo_thrown, u_mo_width, u_mo_height, u_mo_kind, u_mo_symbols, u_mo_wide, u_mo_high, u_mo_dark, u_mo_instances, u_mo_symbolOf, u_mo_xs, u_mo_ys, u_mo_differs, u_mo_ways, u_mo_ordered, u_mo_page, .int (u.1), .int mo_keeps, u_mo_toldBytes, .ref h_mo_out, u_mo_counts, u_mo_lengths, u_mo_codes, u_mo_weight, u_mo_over, u_mo_used, u_mo_row, u_mo_came, u_mo_in, u_mo_at, u_mo_refused, u_mo_place, u_mo_readMany, u_mo_readSymbol, u_mo_readX, u_mo_readY, u_mo_readDiffers, u_mo_readWays])), (h_mo_out, .inl (c_mo_out, 2000, .inl (u.2)))]) (va_A [(h_mo, .inr (1, [u_mo_thrown, u_mo_width, u_mo_height, u_mo_kind, u_mo_symbols, u_mo_wide, u_mo_high, u_mo_dark, u_mo_instances, u_mo_symbolOf, u_mo_xs, u_mo_ys, u_mo_differs, u_mo_ways, u_mo_ordered, u_mo_page, .int mo_told, .int mo_keeps, u_mo_toldBytes, .ref h_mo_out, u_mo_counts, u_mo_lengths, u_mo_codes, u_mo_weight, u_mo_over, u_mo_used, u_mo_row, u_mo_came, u_mo_in, u_mo_at, u_mo_refused, u_mo_place, u_mo_readMany, u_mo_readSymbol, u_mo_readX, u_mo_readY, u_mo_readDiffers, u_mo_readWays])), (h_mo_out, .inl (c_mo_out, 2000, .inl mo_out))] sz)) 0 0 (va_A [(h_mo, .inr (1, [u_mo_thrown, u_mo_width, u_mo_height, u_mo_kind, u_mo_symbols, u_mo_wide, u_mo_high, u_mo_dark, u_mo_instances, u_mo_symbolOf, u_mo_xs, u_mo_ys, u_mo_differs, u_mo_ways, u_mo_ordered, u_mo_page, .int mo_told, .int mo_keeps, u_mo_toldBytes, .ref h_mo_out, u_mo_counts, u_mo_lengths, u_mo_codes, u_mo_weight, u_mo_over, u_mo_used, u_mo_row, u_mo_came, u_mo_in, u_mo_at, u_mo_refused, u_mo_place, u_mo_readMany, u_mo_readSymbol, u_mo_readX, u_mo_readY, u_mo_readDiffers, u_mo_readWays])), (h_mo_out, .inl (c_mo_out, 2000, .inl mo_out))] sz) := by
  refine Met.ofW (cc := b_Mo_bit) (maxL := 2) (ret := none) (by decide) rfl ?_
  intro p e s m args below meth c s₁ B hml hv
  obtain ⟨rfl, hsz, hP, hK, hD0, hnw⟩ := hv
  have hx := B.exec
  have hb := B.bytes
  have hr := B.returns
  have hts := atoms_spec (ws := ws_Mo_bit) B.pre
  have hB : ∀ w ∈ BIG, w.before _ s = true := fun w h => hts w (List.mem_cons_of_mem _ h)
  have hown : s.vm.findClass R_Mo = some m.cls := findClass_of_methodNamed B.named
  have hlocks := B.notSynchronized
  subst hsz
  have hD := hD0.self (sz := s.heap.size)
  refine W_Q (fun Q9 eQ => ?_)
  generalize hAe : va_A [(h_mo, .inr (1, [u_mo_thrown, u_mo_width, u_mo_height, u_mo_kind, u_mo_symbols, u_mo_wide, u_mo_high, u_mo_dark, u_mo_instances, u_mo_symbolOf, u_mo_xs, u_mo_ys, u_mo_differs, u_mo_ways, u_mo_ordered, u_mo_page, .int mo_told, .int mo_keeps, u_mo_toldBytes, .ref h_mo_out, u_mo_counts, u_mo_lengths, u_mo_codes, u_mo_weight, u_mo_over, u_mo_used, u_mo_row, u_mo_came, u_mo_in, u_mo_at, u_mo_refused, u_mo_place, u_mo_readMany, u_mo_readSymbol, u_mo_readX, u_mo_readY, u_mo_readDiffers, u_mo_readWays])), (h_mo_out, .inl (c_mo_out, 2000, .inl mo_out))] s.heap.size = A at hD eQ
  have hA : ∀ q : Nat, s.heap.size ≤ q → A q := fun q h => by rw [← hAe]; exact Or.inr h
  have hS : va_S A s.heap s.heap [] := va_S.rf
  have hl := lv_entry ([.ref h_mo, .int p0]) (n := 2) (Nat.le_of_ble_eq_true rfl)
  rw [lg_entry_eq]
  generalize (lg_sl ([.ref h_mo, .int p0]) ++ List.replicate (2 - (lg_sl ([.ref h_mo, .int p0])).length) Slot.unset).toArray = ls at hl ⊢
  have hl : lv_has ls 2 [(0, .ref h_mo), (1, .int p0)] := hl
  have h := hf
  unfold f_Mo_bit at h
  refine lv_aload_n hx hb d_Mo_bit_0 rfl (lv_at hl 0 rfl) ?_
  refine va_get (D := (dC, dI)) (ci := 1) (v := .int mo_keeps) (C := R_Mo) (T := T_Mo) (N := 38) hx hb hB iw_Mo hown hK hP 0 rfl rfl 17 (by decide) (hB _ bw_890) (fun _ h9 => h9) rfl d_Mo_bit_1 ?_
  refine lv_if_eq (tgt := 67) hx hb d_Mo_bit_4 (by decide) (fun c_1 => ?_) (fun c_1 => ?_)
  · have h := if_t h c_1
    refine lv_aload_n hx hb d_Mo_bit_67 rfl (lv_at hl 0 rfl) ?_
    refine lv_dup hx hb d_Mo_bit_68 rfl ?_
    refine va_get (D := (dC, dI)) (ci := 1) (v := .int mo_told) (C := R_Mo) (T := T_Mo) (N := 38) hx hb hB iw_Mo hown hK hP 0 rfl rfl 16 (by decide) (hB _ bw_889) (fun _ h9 => h9) rfl d_Mo_bit_69 ?_
    refine lv_iconst (v := 1) hx hb d_Mo_bit_72 (by decide) ?_
    refine lv_iadd hx hb d_Mo_bit_73 ?_
    refine lv_topi (fun told_1 e_told_1 => ?_)
    have h := nl_u e_told_1 h
    refine va_put (D := (dC, dI)) (ci := 1) (v := .int told_1) (ty := .int) (C := R_Mo) (T := T_Mo) (N := 38) hx hb hB iw_Mo ty_Mo tk_Mo n_Mo hown hK hP hD hS 0 rfl rfl 16 (by decide) (hB _ bw_889) (fun _ h9 => h9) rfl (by decide +kernel) rfl rfl (Nat.le_of_ble_eq_true rfl) d_Mo_bit_74 (fun H locs hP hD hS => ?_)
    have hP : va_P (dC, dI) CL [(h_mo, .inr (1, [u_mo_thrown, u_mo_width, u_mo_height, u_mo_kind, u_mo_symbols, u_mo_wide, u_mo_high, u_mo_dark, u_mo_instances, u_mo_symbolOf, u_mo_xs, u_mo_ys, u_mo_differs, u_mo_ways, u_mo_ordered, u_mo_page, .int told_1, .int mo_keeps, u_mo_toldBytes, .ref h_mo_out, u_mo_counts, u_mo_lengths, u_mo_codes, u_mo_weight, u_mo_over, u_mo_used, u_mo_row, u_mo_came, u_mo_in, u_mo_at, u_mo_refused, u_mo_place, u_mo_readMany, u_mo_readSymbol, u_mo_readX, u_mo_readY, u_mo_readDiffers, u_mo_readWays])), (h_mo_out, .inl (c_mo_out, 2000, .inl mo_out))] H := hP
    have hD : va_D A [(h_mo, .inr (1, [u_mo_thrown, u_mo_width, u_mo_height, u_mo_kind, u_mo_symbols, u_mo_wide, u_mo_high, u_mo_dark, u_mo_instances, u_mo_symbolOf, u_mo_xs, u_mo_ys, u_mo_differs, u_mo_ways, u_mo_ordered, u_mo_page, .int told_1, .int mo_keeps, u_mo_toldBytes, .ref h_mo_out, u_mo_counts, u_mo_lengths, u_mo_codes, u_mo_weight, u_mo_over, u_mo_used, u_mo_row, u_mo_came, u_mo_in, u_mo_at, u_mo_refused, u_mo_place, u_mo_readMany, u_mo_readSymbol, u_mo_readX, u_mo_readY, u_mo_readDiffers, u_mo_readWays])), (h_mo_out, .inl (c_mo_out, 2000, .inl mo_out))] := hD
    subst eQ
    exact W.vret hx hb hr (fun t ht hW => ⟨⟨(told_1, mo_out), rfl, Option.some.inj h, by rw [ht]; exact hP, va_K.moved hW.alike hK, hD⟩, hS.F ht⟩) hS.2.2 d_Mo_bit_77
  · have h := if_f h c_1
    refine lv_aload_n hx hb d_Mo_bit_7 rfl (lv_at hl 0 rfl) ?_
    refine va_get (D := (dC, dI)) (ci := 1) (v := .int mo_told) (C := R_Mo) (T := T_Mo) (N := 38) hx hb hB iw_Mo hown hK hP 0 rfl rfl 16 (by decide) (hB _ bw_889) (fun _ h9 => h9) rfl d_Mo_bit_8 ?_
    refine lv_bipush (v := 8) hx hb d_Mo_bit_11 (by decide) ?_
    refine lv_irem hx hb d_Mo_bit_13 (by decide) ?_
    obtain ⟨j30, e_j30, h⟩ := jn_e h
    have w_j30 : ∀ (mo_out_2 : (Nat → Int32)) (H : Heap) (locs : List Loc) (ls : Array Slot), j30 mo_out_2 = some o → va_P (dC, dI) CL [(h_mo, .inr (1, [u_mo_thrown, u_mo_width, u_mo_height, u_mo_kind, u_mo_symbols, u_mo_wide, u_mo_high, u_mo_dark, u_mo_instances, u_mo_symbolOf, u_mo_xs, u_mo_ys, u_mo_differs, u_mo_ways, u_mo_ordered, u_mo_page, .int mo_told, .int mo_keeps, u_mo_toldBytes, .ref h_mo_out, u_mo_counts, u_mo_lengths, u_mo_codes, u_mo_weight, u_mo_over, u_mo_used, u_mo_row, u_mo_came, u_mo_in, u_mo_at, u_mo_refused, u_mo_place, u_mo_readMany, u_mo_readSymbol, u_mo_readX, u_mo_readY, u_mo_readDiffers, u_mo_readWays])), (h_mo_out, .inl (c_mo_out, 2000, .inl mo_out_2))] H → va_D A [(h_mo, .inr (1, [u_mo_thrown, u_mo_width, u_mo_height, u_mo_kind, u_mo_symbols, u_mo_wide, u_mo_high, u_mo_dark, u_mo_instances, u_mo_symbolOf, u_mo_xs, u_mo_ys, u_mo_differs, u_mo_ways, u_mo_ordered, u_mo_page, .int mo_told, .int mo_keeps, u_mo_toldBytes, .ref h_mo_out, u_mo_counts, u_mo_lengths, u_mo_codes, u_mo_weight, u_mo_over, u_mo_used, u_mo_row, u_mo_came, u_mo_in, u_mo_at, u_mo_refused, u_mo_place, u_mo_readMany, u_mo_readSymbol, u_mo_readX, u_mo_readY, u_mo_readDiffers, u_mo_readWays])), (h_mo_out, .inl (c_mo_out, 2000, .inl mo_out_2))] → va_S A s.heap H locs → lv_has ls 2 [(0, .ref h_mo), (1, .int p0)] → W p l e ({ frames := 0, cells := 0, slots := 0, locals := 0 } : Room) s m ([.ref h_mo, .int p0] : List Value).toArray below meth c H locs 0 0 Q9 (F0 m 30 ls []) := by
      intro mo_out_2 H locs ls h hP hD hS hl
      rw [e_j30] at h
      refine lv_aload_n hx hb d_Mo_bit_30 rfl (lv_at hl 0 rfl) ?_
      refine va_get (D := (dC, dI)) (ci := 1) (v := .ref h_mo_out) (C := R_Mo) (T := T_Mo) (N := 38) hx hb hB iw_Mo hown hK hP 0 rfl rfl 19 (by decide) (hB _ bw_892) (fun _ h9 => h9) rfl d_Mo_bit_31 ?_
      refine lv_aload_n hx hb d_Mo_bit_34 rfl (lv_at hl 0 rfl) ?_
      refine va_get (D := (dC, dI)) (ci := 1) (v := .int mo_told) (C := R_Mo) (T := T_Mo) (N := 38) hx hb hB iw_Mo hown hK hP 0 rfl rfl 16 (by decide) (hB _ bw_889) (fun _ h9 => h9) rfl d_Mo_bit_35 ?_
      refine lv_bipush (v := 8) hx hb d_Mo_bit_38 (by decide) ?_
      refine lv_idiv hx hb d_Mo_bit_40 (by decide) ?_
      refine lv_aload_n hx hb d_Mo_bit_41 rfl (lv_at hl 0 rfl) ?_
      refine va_get (D := (dC, dI)) (ci := 1) (v := .ref h_mo_out) (C := R_Mo) (T := T_Mo) (N := 38) hx hb hB iw_Mo hown hK hP 0 rfl rfl 19 (by decide) (hB _ bw_892) (fun _ h9 => h9) rfl d_Mo_bit_42 ?_
      refine lv_aload_n hx hb d_Mo_bit_45 rfl (lv_at hl 0 rfl) ?_
      refine va_get (D := (dC, dI)) (ci := 1) (v := .int mo_told) (C := R_Mo) (T := T_Mo) (N := 38) hx hb hB iw_Mo hown hK hP 0 rfl rfl 16 (by decide) (hB _ bw_889) (fun _ h9 => h9) rfl d_Mo_bit_46 ?_
      refine lv_bipush (v := 8) hx hb d_Mo_bit_49 (by decide) ?_
      refine lv_idiv hx hb d_Mo_bit_51 (by decide) ?_
      obtain ⟨hin, h⟩ := gq_e h
      refine va_iald hx hb hK hP 1 0 rfl rfl hin d_Mo_bit_52 ?_
      refine lv_iload_n hx hb d_Mo_bit_53 rfl (lv_at hl 1 rfl) ?_
      refine lv_bipush (v := 7) hx hb d_Mo_bit_54 (by decide) ?_
      refine lv_aload_n hx hb d_Mo_bit_56 rfl (lv_at hl 0 rfl) ?_
      refine va_get (D := (dC, dI)) (ci := 1) (v := .int mo_told) (C := R_Mo) (T := T_Mo) (N := 38) hx hb hB iw_Mo hown hK hP 0 rfl rfl 16 (by decide) (hB _ bw_889) (fun _ h9 => h9) rfl d_Mo_bit_57 ?_
      refine lv_bipush (v := 8) hx hb d_Mo_bit_60 (by decide) ?_
      refine lv_irem hx hb d_Mo_bit_62 (by decide) ?_
      refine lv_isub hx hb d_Mo_bit_63 ?_
      refine lv_ishl hx hb d_Mo_bit_64 ?_
      refine lv_ior hx hb d_Mo_bit_65 ?_
      refine lv_topi (fun w_3 e_w_3 => ?_)
      have h := nl_u e_w_3 h
      obtain ⟨hin, h⟩ := gq_e h
      refine va_iast hx hb hK hP hD hS 1 0 rfl rfl hin d_Mo_bit_66 (fun H locs hP hD hS => ?_)
      have hP : va_P (dC, dI) CL [(h_mo, .inr (1, [u_mo_thrown, u_mo_width, u_mo_height, u_mo_kind, u_mo_symbols, u_mo_wide, u_mo_high, u_mo_dark, u_mo_instances, u_mo_symbolOf, u_mo_xs, u_mo_ys, u_mo_differs, u_mo_ways, u_mo_ordered, u_mo_page, .int mo_told, .int mo_keeps, u_mo_toldBytes, .ref h_mo_out, u_mo_counts, u_mo_lengths, u_mo_codes, u_mo_weight, u_mo_over, u_mo_used, u_mo_row, u_mo_came, u_mo_in, u_mo_at, u_mo_refused, u_mo_place, u_mo_readMany, u_mo_readSymbol, u_mo_readX, u_mo_readY, u_mo_readDiffers, u_mo_readWays])), (h_mo_out, .inl (c_mo_out, 2000, .inl (upd mo_out_2 ((mo_told / (8 : Int32))).toNatClampNeg w_3)))] H := hP
      have hD : va_D A [(h_mo, .inr (1, [u_mo_thrown, u_mo_width, u_mo_height, u_mo_kind, u_mo_symbols, u_mo_wide, u_mo_high, u_mo_dark, u_mo_instances, u_mo_symbolOf, u_mo_xs, u_mo_ys, u_mo_differs, u_mo_ways, u_mo_ordered, u_mo_page, .int mo_told, .int mo_keeps, u_mo_toldBytes, .ref h_mo_out, u_mo_counts, u_mo_lengths, u_mo_codes, u_mo_weight, u_mo_over, u_mo_used, u_mo_row, u_mo_came, u_mo_in, u_mo_at, u_mo_refused, u_mo_place, u_mo_readMany, u_mo_readSymbol, u_mo_readX, u_mo_readY, u_mo_readDiffers, u_mo_readWays])), (h_mo_out, .inl (c_mo_out, 2000, .inl (upd mo_out_2 ((mo_told / (8 : Int32))).toNatClampNeg w_3)))] := hD
      refine lv_aload_n hx hb d_Mo_bit_67 rfl (lv_at hl 0 rfl) ?_
      refine lv_dup hx hb d_Mo_bit_68 rfl ?_
      refine va_get (D := (dC, dI)) (ci := 1) (v := .int mo_told) (C := R_Mo) (T := T_Mo) (N := 38) hx hb hB iw_Mo hown hK hP 0 rfl rfl 16 (by decide) (hB _ bw_889) (fun _ h9 => h9) rfl d_Mo_bit_69 ?_
      refine lv_iconst (v := 1) hx hb d_Mo_bit_72 (by decide) ?_
      refine lv_iadd hx hb d_Mo_bit_73 ?_
      refine lv_topi (fun told_4 e_told_4 => ?_)
      have h := nl_u e_told_4 h
      refine va_put (D := (dC, dI)) (ci := 1) (v := .int told_4) (ty := .int) (C := R_Mo) (T := T_Mo) (N := 38) hx hb hB iw_Mo ty_Mo tk_Mo n_Mo hown hK hP hD hS 0 rfl rfl 16 (by decide) (hB _ bw_889) (fun _ h9 => h9) rfl (by decide +kernel) rfl rfl (Nat.le_of_ble_eq_true rfl) d_Mo_bit_74 (fun H locs hP hD hS => ?_)
      have hP : va_P (dC, dI) CL [(h_mo, .inr (1, [u_mo_thrown, u_mo_width, u_mo_height, u_mo_kind, u_mo_symbols, u_mo_wide, u_mo_high, u_mo_dark, u_mo_instances, u_mo_symbolOf, u_mo_xs, u_mo_ys, u_mo_differs, u_mo_ways, u_mo_ordered, u_mo_page, .int told_4, .int mo_keeps, u_mo_toldBytes, .ref h_mo_out, u_mo_counts, u_mo_lengths, u_mo_codes, u_mo_weight, u_mo_over, u_mo_used, u_mo_row, u_mo_came, u_mo_in, u_mo_at, u_mo_refused, u_mo_place, u_mo_readMany, u_mo_readSymbol, u_mo_readX, u_mo_readY, u_mo_readDiffers, u_mo_readWays])), (h_mo_out, .inl (c_mo_out, 2000, .inl (upd mo_out_2 ((mo_told / (8 : Int32))).toNatClampNeg w_3)))] H := hP
      have hD : va_D A [(h_mo, .inr (1, [u_mo_thrown, u_mo_width, u_mo_height, u_mo_kind, u_mo_symbols, u_mo_wide, u_mo_high, u_mo_dark, u_mo_instances, u_mo_symbolOf, u_mo_xs, u_mo_ys, u_mo_differs, u_mo_ways, u_mo_ordered, u_mo_page, .int told_4, .int mo_keeps, u_mo_toldBytes, .ref h_mo_out, u_mo_counts, u_mo_lengths, u_mo_codes, u_mo_weight, u_mo_over, u_mo_used, u_mo_row, u_mo_came, u_mo_in, u_mo_at, u_mo_refused, u_mo_place, u_mo_readMany, u_mo_readSymbol, u_mo_readX, u_mo_readY, u_mo_readDiffers, u_mo_readWays])), (h_mo_out, .inl (c_mo_out, 2000, .inl (upd mo_out_2 ((mo_told / (8 : Int32))).toNatClampNeg w_3)))] := hD
      subst eQ
      exact W.vret hx hb hr (fun t ht hW => ⟨⟨(told_4, (upd mo_out_2 ((mo_told / (8 : Int32))).toNatClampNeg w_3)), rfl, Option.some.inj h, by rw [ht]; exact hP, va_K.moved hW.alike hK, hD⟩, hS.F ht⟩) hS.2.2 d_Mo_bit_77
    refine lv_if_ne (tgt := 30) hx hb d_Mo_bit_14 (by decide) (fun c_2 => ?_) (fun c_2 => ?_)
    · have h := if_f h c_2
      exact w_j30 _ _ _ _ h hP hD hS hl
    · have h := if_t h c_2
      refine lv_aload_n hx hb d_Mo_bit_17 rfl (lv_at hl 0 rfl) ?_
      refine va_get (D := (dC, dI)) (ci := 1) (v := .ref h_mo_out) (C := R_Mo) (T := T_Mo) (N := 38) hx hb hB iw_Mo hown hK hP 0 rfl rfl 19 (by decide) (hB _ bw_892) (fun _ h9 => h9) rfl d_Mo_bit_18 ?_
      refine lv_aload_n hx hb d_Mo_bit_21 rfl (lv_at hl 0 rfl) ?_
      refine va_get (D := (dC, dI)) (ci := 1) (v := .int mo_told) (C := R_Mo) (T := T_Mo) (N := 38) hx hb hB iw_Mo hown hK hP 0 rfl rfl 16 (by decide) (hB _ bw_889) (fun _ h9 => h9) rfl d_Mo_bit_22 ?_
      refine lv_bipush (v := 8) hx hb d_Mo_bit_25 (by decide) ?_
      refine lv_idiv hx hb d_Mo_bit_27 (by decide) ?_
      refine lv_iconst (v := 0) hx hb d_Mo_bit_28 (by decide) ?_
      obtain ⟨hin, h⟩ := gq_e h
      refine va_iast hx hb hK hP hD hS 1 0 rfl rfl hin d_Mo_bit_29 (fun H locs hP hD hS => ?_)
      have hP : va_P (dC, dI) CL [(h_mo, .inr (1, [u_mo_thrown, u_mo_width, u_mo_height, u_mo_kind, u_mo_symbols, u_mo_wide, u_mo_high, u_mo_dark, u_mo_instances, u_mo_symbolOf, u_mo_xs, u_mo_ys, u_mo_differs, u_mo_ways, u_mo_ordered, u_mo_page, .int mo_told, .int mo_keeps, u_mo_toldBytes, .ref h_mo_out, u_mo_counts, u_mo_lengths, u_mo_codes, u_mo_weight, u_mo_over, u_mo_used, u_mo_row, u_mo_came, u_mo_in, u_mo_at, u_mo_refused, u_mo_place, u_mo_readMany, u_mo_readSymbol, u_mo_readX, u_mo_readY, u_mo_readDiffers, u_mo_readWays])), (h_mo_out, .inl (c_mo_out, 2000, .inl (upd mo_out ((mo_told / (8 : Int32))).toNatClampNeg (0 : Int32))))] H := hP
      have hD : va_D A [(h_mo, .inr (1, [u_mo_thrown, u_mo_width, u_mo_height, u_mo_kind, u_mo_symbols, u_mo_wide, u_mo_high, u_mo_dark, u_mo_instances, u_mo_symbolOf, u_mo_xs, u_mo_ys, u_mo_differs, u_mo_ways, u_mo_ordered, u_mo_page, .int mo_told, .int mo_keeps, u_mo_toldBytes, .ref h_mo_out, u_mo_counts, u_mo_lengths, u_mo_codes, u_mo_weight, u_mo_over, u_mo_used, u_mo_row, u_mo_came, u_mo_in, u_mo_at, u_mo_refused, u_mo_place, u_mo_readMany, u_mo_readSymbol, u_mo_readX, u_mo_readY, u_mo_readDiffers, u_mo_readWays])), (h_mo_out, .inl (c_mo_out, 2000, .inl (upd mo_out ((mo_told / (8 : Int32))).toNatClampNeg (0 : Int32))))] := hD
      exact w_j30 _ _ _ _ h hP hD hS hl
set_option maxHeartbeats 4000000 in
set_option maxRecDepth 100000 in
theorem c_Mo_low (l : Launch) (dC : Nat → ClassId) (dI : Nat → Nat → Nat) (h_mo : Nat) (h_mo_out : Nat) (c_mo_out : ClassId) (u_mo_thrown : Value) (u_mo_width : Value) (u_mo_height : Value) (u_mo_kind : Value) (u_mo_symbols : Value) (u_mo_wide : Value) (u_mo_high : Value) (u_mo_dark : Value) (u_mo_instances : Value) (u_mo_symbolOf : Value) (u_mo_xs : Value) (u_mo_ys : Value) (u_mo_differs : Value) (u_mo_ways : Value) (u_mo_ordered : Value) (u_mo_page : Value) (u_mo_toldBytes : Value) (u_mo_counts : Value) (u_mo_lengths : Value) (u_mo_codes : Value) (u_mo_weight : Value) (u_mo_over : Value) (u_mo_used : Value) (u_mo_row : Value) (u_mo_came : Value) (u_mo_in : Value) (u_mo_at : Value) (u_mo_refused : Value) (u_mo_place : Value) (u_mo_readMany : Value) (u_mo_readSymbol : Value) (u_mo_readX : Value) (u_mo_readY : Value) (u_mo_readDiffers : Value) (u_mo_readWays : Value) (mo_told : Int32) (mo_keeps : Int32) (mo_out : (Nat → Int32)) (p0 : Int32) (p1 : Int32) (sz : Nat) (o : Int32 × (Nat → Int32)) (hf : f_Mo_low mo_told mo_keeps mo_out p0 p1 = some o) :
    Met l y_Mo_low ws_Mo_low { frames := 1, cells := 0, slots := 0, locals := 21 } (va_Pc [.ref h_mo, .int p0, .int p1] (PcM (dC, dI) [(h_mo, .inr (1, [u_mo_thrown, u_mo_width, u_mo_height, u_mo_kind, u_mo_symbols, u_mo_wide, u_mo_high, u_mo_dark, u_mo_instances, u_mo_symbolOf, u_mo_xs, u_mo_ys, u_mo_differs, u_mo_ways, u_mo_ordered, u_mo_page, .int mo_told, .int mo_keeps, u_mo_toldBytes, .ref h_mo_out, u_mo_counts, u_mo_lengths, u_mo_codes, u_mo_weight, u_mo_over, u_mo_used, u_mo_row, u_mo_came, u_mo_in, u_mo_at, u_mo_refused, u_mo_place, u_mo_readMany, u_mo_readSymbol, u_mo_readX, u_mo_readY, u_mo_readDiffers, u_mo_readWays])), (h_mo_out, .inl (c_mo_out, 2000, .inl mo_out))] [(c_mo_out, .int)] sz))
      (va_Qv (fun u : Int32 × (Nat → Int32) => u = o) (fun u t => va_P (dC, dI) CL [(h_mo, .inr (1, [u_mo_thrown, u_mo_width, u_mo_height, u_mo_kind, u_mo_symbols, u_mo_wide, u_mo_high, u_mo_dark, u_mo_instances, u_mo_symbolOf, u_mo_xs, u_mo_ys, u_mo_differs, u_mo_ways, u_mo_ordered, u_mo_page, .int (u.1), .int mo_keeps, u_mo_toldBytes, .ref h_mo_out, u_mo_counts, u_mo_lengths, u_mo_codes, u_mo_weight, u_mo_over, u_mo_used, u_mo_row, u_mo_came, u_mo_in, u_mo_at, u_mo_refused, u_mo_place, u_mo_readMany, u_mo_readSymbol, u_mo_readX, u_mo_readY, u_mo_readDiffers, u_mo_readWays])), (h_mo_out, .inl (c_mo_out, 2000, .inl (u.2)))] t.heap ∧ va_K (dC, dI) CL [(c_mo_out, .int)] t ∧ va_D (va_A [(h_mo, .inr (1, [u_mo_thrown, u_mo_width, u_mo_height, u_mo_kind, u_mo_symbols, u_mo_wide, u_mo_high, u_mo_dark, u_mo_instances, u_mo_symbolOf, u_mo_xs, u_mo_ys, u_mo_differs, u_mo_ways, u_mo_ordered, u_mo_page, .int mo_told, .int mo_keeps, u_mo_toldBytes, .ref h_mo_out, u_mo_counts, u_mo_lengths, u_mo_codes, u_mo_weight, u_mo_over, u_mo_used, u_mo_row, u_mo_came, u_mo_in, u_mo_at, u_mo_refused, u_mo_place, u_mo_readMany, u_mo_readSymbol, u_mo_readX, u_mo_readY, u_mo_readDiffers, u_mo_readWays])), (h_mo_out, .inl (c_mo_out, 2000, .inl mo_out))] sz) [(h_mo, .inr (1, [u_mo_thrown, u_mo_width, u_mo_height, u_mo_kind, u_mo_symbols, u_mo_wide, u_mo_high, u_mo_dark, u_mo_instances, u_mo_symbolOf, u_mo_xs, u_mo_ys, u_mo_differs, u_mo_ways, u_mo_ordered, u_mo_page, .int (u.1), .int mo_keeps, u_mo_toldBytes, .ref h_mo_out, u_mo_counts, u_mo_lengths, u_mo_codes, u_mo_weight, u_mo_over, u_mo_used, u_mo_row, u_mo_came, u_mo_in, u_mo_at, u_mo_refused, u_mo_place, u_mo_readMany, u_mo_readSymbol, u_mo_readX, u_mo_readY, u_mo_readDiffers, u_mo_readWays])), (h_mo_out, .inl (c_mo_out, 2000, .inl (u.2)))]) (va_A [(h_mo, .inr (1, [u_mo_thrown, u_mo_width, u_mo_height, u_mo_kind, u_mo_symbols, u_mo_wide, u_mo_high, u_mo_dark, u_mo_instances, u_mo_symbolOf, u_mo_xs, u_mo_ys, u_mo_differs, u_mo_ways, u_mo_ordered, u_mo_page, .int mo_told, .int mo_keeps, u_mo_toldBytes, .ref h_mo_out, u_mo_counts, u_mo_lengths, u_mo_codes, u_mo_weight, u_mo_over, u_mo_used, u_mo_row, u_mo_came, u_mo_in, u_mo_at, u_mo_refused, u_mo_place, u_mo_readMany, u_mo_readSymbol, u_mo_readX, u_mo_readY, u_mo_readDiffers, u_mo_readWays])), (h_mo_out, .inl (c_mo_out, 2000, .inl mo_out))] sz)) 0 0 (va_A [(h_mo, .inr (1, [u_mo_thrown, u_mo_width, u_mo_height, u_mo_kind, u_mo_symbols, u_mo_wide, u_mo_high, u_mo_dark, u_mo_instances, u_mo_symbolOf, u_mo_xs, u_mo_ys, u_mo_differs, u_mo_ways, u_mo_ordered, u_mo_page, .int mo_told, .int mo_keeps, u_mo_toldBytes, .ref h_mo_out, u_mo_counts, u_mo_lengths, u_mo_codes, u_mo_weight, u_mo_over, u_mo_used, u_mo_row, u_mo_came, u_mo_in, u_mo_at, u_mo_refused, u_mo_place, u_mo_readMany, u_mo_readSymbol, u_mo_readX, u_mo_readY, u_mo_readDiffers, u_mo_readWays])), (h_mo_out, .inl (c_mo_out, 2000, .inl mo_out))] sz) := by
  refine Met.ofW (cc := b_Mo_low) (maxL := 4) (ret := none) (by decide) rfl ?_
  intro p e s m args below meth c s₁ B hml hv
  obtain ⟨rfl, hsz, hP, hK, hD0, hnw⟩ := hv
  have hx := B.exec
  have hb := B.bytes
  have hr := B.returns
  have hts := atoms_spec (ws := ws_Mo_low) B.pre
  have hB : ∀ w ∈ BIG, w.before _ s = true := fun w h => hts w (List.mem_cons_of_mem _ h)
  have hown : s.vm.findClass R_Mo = some m.cls := findClass_of_methodNamed B.named
  have hlocks := B.notSynchronized
  subst hsz
  have hD := hD0.self (sz := s.heap.size)
  refine W_Q (fun Q9 eQ => ?_)
  generalize hAe : va_A [(h_mo, .inr (1, [u_mo_thrown, u_mo_width, u_mo_height, u_mo_kind, u_mo_symbols, u_mo_wide, u_mo_high, u_mo_dark, u_mo_instances, u_mo_symbolOf, u_mo_xs, u_mo_ys, u_mo_differs, u_mo_ways, u_mo_ordered, u_mo_page, .int mo_told, .int mo_keeps, u_mo_toldBytes, .ref h_mo_out, u_mo_counts, u_mo_lengths, u_mo_codes, u_mo_weight, u_mo_over, u_mo_used, u_mo_row, u_mo_came, u_mo_in, u_mo_at, u_mo_refused, u_mo_place, u_mo_readMany, u_mo_readSymbol, u_mo_readX, u_mo_readY, u_mo_readDiffers, u_mo_readWays])), (h_mo_out, .inl (c_mo_out, 2000, .inl mo_out))] s.heap.size = A at hD eQ
  have hA : ∀ q : Nat, s.heap.size ≤ q → A q := fun q h => by rw [← hAe]; exact Or.inr h
  have hS : va_S A s.heap s.heap [] := va_S.rf
  have hl := lv_entry ([.ref h_mo, .int p0, .int p1]) (n := 4) (Nat.le_of_ble_eq_true rfl)
  rw [lg_entry_eq]
  generalize (lg_sl ([.ref h_mo, .int p0, .int p1]) ++ List.replicate (4 - (lg_sl ([.ref h_mo, .int p0, .int p1])).length) Slot.unset).toArray = ls at hl ⊢
  have hl : lv_has ls 4 [(0, .ref h_mo), (1, .int p0), (2, .int p1)] := hl
  have h := hf
  unfold f_Mo_low at h
  refine lv_iload_n hx hb d_Mo_low_0 rfl (lv_at hl 2 rfl) ?_
  refine lv_iconst (v := 1) hx hb d_Mo_low_1 (by decide) ?_
  refine lv_isub hx hb d_Mo_low_2 ?_
  refine lv_topi (fun v3_1 e_v3_1 => ?_)
  have h := nl_u e_v3_1 h
  refine lv_istore_n (lv' := [(3, .int v3_1), (0, .ref h_mo), (1, .int p0), (2, .int p1)]) hx hb d_Mo_low_3 rfl hl (by decide) rfl (fun ls hl => ?_)
  have w_self4 : ∀ n9 : Nat, ∀ (v3_2 : Int32) (mo_told_3 : Int32) (mo_out_4 : (Nat → Int32)) (H : Heap) (locs : List Loc) (ls : Array Slot), lp (f_Mo_low_L4 mo_keeps p0) n9 (v3_2, mo_told_3, mo_out_4) = some o → va_P (dC, dI) CL [(h_mo, .inr (1, [u_mo_thrown, u_mo_width, u_mo_height, u_mo_kind, u_mo_symbols, u_mo_wide, u_mo_high, u_mo_dark, u_mo_instances, u_mo_symbolOf, u_mo_xs, u_mo_ys, u_mo_differs, u_mo_ways, u_mo_ordered, u_mo_page, .int mo_told_3, .int mo_keeps, u_mo_toldBytes, .ref h_mo_out, u_mo_counts, u_mo_lengths, u_mo_codes, u_mo_weight, u_mo_over, u_mo_used, u_mo_row, u_mo_came, u_mo_in, u_mo_at, u_mo_refused, u_mo_place, u_mo_readMany, u_mo_readSymbol, u_mo_readX, u_mo_readY, u_mo_readDiffers, u_mo_readWays])), (h_mo_out, .inl (c_mo_out, 2000, .inl mo_out_4))] H → va_D A [(h_mo, .inr (1, [u_mo_thrown, u_mo_width, u_mo_height, u_mo_kind, u_mo_symbols, u_mo_wide, u_mo_high, u_mo_dark, u_mo_instances, u_mo_symbolOf, u_mo_xs, u_mo_ys, u_mo_differs, u_mo_ways, u_mo_ordered, u_mo_page, .int mo_told_3, .int mo_keeps, u_mo_toldBytes, .ref h_mo_out, u_mo_counts, u_mo_lengths, u_mo_codes, u_mo_weight, u_mo_over, u_mo_used, u_mo_row, u_mo_came, u_mo_in, u_mo_at, u_mo_refused, u_mo_place, u_mo_readMany, u_mo_readSymbol, u_mo_readX, u_mo_readY, u_mo_readDiffers, u_mo_readWays])), (h_mo_out, .inl (c_mo_out, 2000, .inl mo_out_4))] → va_S A s.heap H locs → lv_has ls 4 [(3, .int v3_2), (0, .ref h_mo), (1, .int p0)] → W p l e ({ frames := 1, cells := 0, slots := 0, locals := 21 } : Room) s m ([.ref h_mo, .int p0, .int p1] : List Value).toArray below meth c H locs 0 0 Q9 (F0 m 4 ls []) := by
    intro n9
    induction n9 with
    | zero =>
      intro v3_2 mo_told_3 mo_out_4 H locs ls h hP hD hS hl
      exact absurd h (by simp [lp])
    | succ n9 ih_self4 =>
      intro v3_2 mo_told_3 mo_out_4 H locs ls h hP hD hS hl
      obtain ⟨self4, e_self4, h⟩ := abs_k (P := fun z9 => f_Mo_low_L4 mo_keeps p0 z9 (v3_2, mo_told_3, mo_out_4) = some o) (lp_e h)
      rw [← e_self4] at ih_self4
      unfold f_Mo_low_L4 at h
      try dsimp only at h
      refine lv_iload_n hx hb d_Mo_low_4 rfl (lv_at hl 0 rfl) ?_
      refine lv_if_lt (tgt := 23) hx hb d_Mo_low_5 (by decide) (fun c_1 => ?_) (fun c_1 => ?_)
      · have h := if_t h c_1
        subst eQ
        exact W.vret hx hb hr (fun t ht hW => ⟨⟨(mo_told_3, mo_out_4), rfl, Option.some.inj h, by rw [ht]; exact hP, va_K.moved hW.alike hK, hD⟩, hS.F ht⟩) hS.2.2 d_Mo_low_23
      · have h := if_f h c_1
        refine lv_aload_n hx hb d_Mo_low_8 rfl (lv_at hl 1 rfl) ?_
        refine lv_iload_n hx hb d_Mo_low_9 rfl (lv_at hl 2 rfl) ?_
        refine lv_iload_n hx hb d_Mo_low_10 rfl (lv_at hl 0 rfl) ?_
        refine lv_ishr hx hb d_Mo_low_11 ?_
        refine lv_iconst (v := 1) hx hb d_Mo_low_12 (by decide) ?_
        refine lv_iand hx hb d_Mo_low_13 ?_
        obtain ⟨o9, hc9, h⟩ := bd_e h
        have hPc := hP.sub (ws' := [(h_mo, .inr (1, [u_mo_thrown, u_mo_width, u_mo_height, u_mo_kind, u_mo_symbols, u_mo_wide, u_mo_high, u_mo_dark, u_mo_instances, u_mo_symbolOf, u_mo_xs, u_mo_ys, u_mo_differs, u_mo_ways, u_mo_ordered, u_mo_page, .int mo_told_3, .int mo_keeps, u_mo_toldBytes, .ref h_mo_out, u_mo_counts, u_mo_lengths, u_mo_codes, u_mo_weight, u_mo_over, u_mo_used, u_mo_row, u_mo_came, u_mo_in, u_mo_at, u_mo_refused, u_mo_place, u_mo_readMany, u_mo_readSymbol, u_mo_readX, u_mo_readY, u_mo_readDiffers, u_mo_readWays])), (h_mo_out, .inl (c_mo_out, 2000, .inl mo_out_4))]) [0, 1] rfl
        have hKc := hK.sub (tys' := [(c_mo_out, .int)]) [0] rfl
        have hDc := hD.sub (ws' := [(h_mo, .inr (1, [u_mo_thrown, u_mo_width, u_mo_height, u_mo_kind, u_mo_symbols, u_mo_wide, u_mo_high, u_mo_dark, u_mo_instances, u_mo_symbolOf, u_mo_xs, u_mo_ys, u_mo_differs, u_mo_ways, u_mo_ordered, u_mo_page, .int mo_told_3, .int mo_keeps, u_mo_toldBytes, .ref h_mo_out, u_mo_counts, u_mo_lengths, u_mo_codes, u_mo_weight, u_mo_over, u_mo_used, u_mo_row, u_mo_came, u_mo_in, u_mo_at, u_mo_refused, u_mo_place, u_mo_readMany, u_mo_readSymbol, u_mo_readX, u_mo_readY, u_mo_readDiffers, u_mo_readWays])), (h_mo_out, .inl (c_mo_out, 2000, .inl mo_out_4))]) [0, 1] (by decide) rfl
        have hFc := va_free (wc := [(h_mo, .inr (1, [u_mo_thrown, u_mo_width, u_mo_height, u_mo_kind, u_mo_symbols, u_mo_wide, u_mo_high, u_mo_dark, u_mo_instances, u_mo_symbolOf, u_mo_xs, u_mo_ys, u_mo_differs, u_mo_ways, u_mo_ordered, u_mo_page, .int mo_told_3, .int mo_keeps, u_mo_toldBytes, .ref h_mo_out, u_mo_counts, u_mo_lengths, u_mo_codes, u_mo_weight, u_mo_over, u_mo_used, u_mo_row, u_mo_came, u_mo_in, u_mo_at, u_mo_refused, u_mo_place, u_mo_readMany, u_mo_readSymbol, u_mo_readX, u_mo_readY, u_mo_readDiffers, u_mo_readWays])), (h_mo_out, .inl (c_mo_out, 2000, .inl mo_out_4))]) hD hS hA [0, 1] rfl
        refine va_callv (va_runV (As := [.int ((p0 >>> (v3_2 &&& 31)) &&& (1 : Int32))]) (rest := []) ⟨hx, hb, hml, hown, hB⟩ (c_Mo_bit l dC dI h_mo h_mo_out c_mo_out u_mo_thrown u_mo_width u_mo_height u_mo_kind u_mo_symbols u_mo_wide u_mo_high u_mo_dark u_mo_instances u_mo_symbolOf u_mo_xs u_mo_ys u_mo_differs u_mo_ways u_mo_ordered u_mo_page u_mo_toldBytes u_mo_counts u_mo_lengths u_mo_codes u_mo_weight u_mo_over u_mo_used u_mo_row u_mo_came u_mo_in u_mo_at u_mo_refused u_mo_place u_mo_readMany u_mo_readSymbol u_mo_readX u_mo_readY u_mo_readDiffers u_mo_readWays mo_told_3 mo_keeps mo_out_4 ((p0 >>> (v3_2 &&& 31)) &&& (1 : Int32)) _ o9 hc9) (cwV 1 hB (goodA (m4 bw_1072 bw_1074 bs_66 bw_13) (goodB bw_1075)) rfl rfl rfl (by decide +kernel) ⟨Nat.le_of_ble_eq_true rfl, Nat.le_of_ble_eq_true rfl⟩) ⟨fb_m, va_recv hK hP (ci := 1) (q0 := 0) rfl rfl, (pre_m hPc hKc hDc hnw [.ref h_mo, .int ((p0 >>> (v3_2 &&& 31)) &&& (1 : Int32))])⟩ rfl rfl hl.1 rfl (lv_room (Nat.le_of_ble_eq_true rfl)) d_Mo_low_14 ⟨Nat.zero_le _, Nat.zero_le _⟩) hS (fun q _ h => hFc q h) hFc (fun u9 t H1 locs ht hvm hw hB hz1 hk1 hS => ?_)
        obtain ⟨mo_told_5, mo_out_6⟩ := u9
        subst hw
        obtain ⟨hP1, hK1, hD1⟩ := hB
        rw [ht] at hP1
        obtain ⟨hP, hD⟩ := va_join (wr := []) (w1 := [(h_mo, .inr (1, [u_mo_thrown, u_mo_width, u_mo_height, u_mo_kind, u_mo_symbols, u_mo_wide, u_mo_high, u_mo_dark, u_mo_instances, u_mo_symbolOf, u_mo_xs, u_mo_ys, u_mo_differs, u_mo_ways, u_mo_ordered, u_mo_page, .int mo_told_5, .int mo_keeps, u_mo_toldBytes, .ref h_mo_out, u_mo_counts, u_mo_lengths, u_mo_codes, u_mo_weight, u_mo_over, u_mo_used, u_mo_row, u_mo_came, u_mo_in, u_mo_at, u_mo_refused, u_mo_place, u_mo_readMany, u_mo_readSymbol, u_mo_readX, u_mo_readY, u_mo_readDiffers, u_mo_readWays])), (h_mo_out, .inl (c_mo_out, 2000, .inl mo_out_6))]) hP hD [0, 1] [] rfl rfl (by decide) (by decide) hk1 hFc hP1 hD1
        have hP := hP.sub (ws' := [(h_mo, .inr (1, [u_mo_thrown, u_mo_width, u_mo_height, u_mo_kind, u_mo_symbols, u_mo_wide, u_mo_high, u_mo_dark, u_mo_instances, u_mo_symbolOf, u_mo_xs, u_mo_ys, u_mo_differs, u_mo_ways, u_mo_ordered, u_mo_page, .int mo_told_5, .int mo_keeps, u_mo_toldBytes, .ref h_mo_out, u_mo_counts, u_mo_lengths, u_mo_codes, u_mo_weight, u_mo_over, u_mo_used, u_mo_row, u_mo_came, u_mo_in, u_mo_at, u_mo_refused, u_mo_place, u_mo_readMany, u_mo_readSymbol, u_mo_readX, u_mo_readY, u_mo_readDiffers, u_mo_readWays])), (h_mo_out, .inl (c_mo_out, 2000, .inl mo_out_6))]) [0, 1] rfl
        have hD := hD.sub (ws' := [(h_mo, .inr (1, [u_mo_thrown, u_mo_width, u_mo_height, u_mo_kind, u_mo_symbols, u_mo_wide, u_mo_high, u_mo_dark, u_mo_instances, u_mo_symbolOf, u_mo_xs, u_mo_ys, u_mo_differs, u_mo_ways, u_mo_ordered, u_mo_page, .int mo_told_5, .int mo_keeps, u_mo_toldBytes, .ref h_mo_out, u_mo_counts, u_mo_lengths, u_mo_codes, u_mo_weight, u_mo_over, u_mo_used, u_mo_row, u_mo_came, u_mo_in, u_mo_at, u_mo_refused, u_mo_place, u_mo_readMany, u_mo_readSymbol, u_mo_readX, u_mo_readY, u_mo_readDiffers, u_mo_readWays])), (h_mo_out, .inl (c_mo_out, 2000, .inl mo_out_6))]) [0, 1] (by decide) rfl
        clear hPc hKc hDc hFc hc9 hP1 hK1 hD1 hk1 hz1 hvm ht
        generalize H1 = H at hP hS ⊢
        try dsimp only at h
        obtain ⟨v3_7, e_v3_7⟩ : ∃ y9 : Int32, y9 = (v3_2 + (-1 : Int32)) := ⟨_, rfl⟩
        have h := nl_u e_v3_7 h
        refine lv_iinc (v := v3_7) (lv' := [(3, .int v3_7), (0, .ref h_mo), (1, .int p0)]) hx hb d_Mo_low_17 hl (k := 0) rfl (by rw [e_v3_7]; rfl) (by decide) rfl (fun ls hl => ?_)
        refine lv_goto (tgt := 4) hx hb d_Mo_low_20 (by decide) ?_
        exact ih_self4 _ _ _ _ _ _ h hP hD hS hl
  exact w_self4 FU _ _ _ _ _ _ h hP hD hS (lv_sub hl [0, 1, 2] rfl)
set_option maxHeartbeats 4000000 in
set_option maxRecDepth 100000 in
theorem c_Mo_number (l : Launch) (dC : Nat → ClassId) (dI : Nat → Nat → Nat) (h_mo : Nat) (h_mo_out : Nat) (c_mo_out : ClassId) (u_mo_thrown : Value) (u_mo_width : Value) (u_mo_height : Value) (u_mo_kind : Value) (u_mo_symbols : Value) (u_mo_wide : Value) (u_mo_high : Value) (u_mo_dark : Value) (u_mo_instances : Value) (u_mo_symbolOf : Value) (u_mo_xs : Value) (u_mo_ys : Value) (u_mo_differs : Value) (u_mo_ways : Value) (u_mo_ordered : Value) (u_mo_page : Value) (u_mo_toldBytes : Value) (u_mo_counts : Value) (u_mo_lengths : Value) (u_mo_codes : Value) (u_mo_weight : Value) (u_mo_over : Value) (u_mo_used : Value) (u_mo_row : Value) (u_mo_came : Value) (u_mo_in : Value) (u_mo_at : Value) (u_mo_refused : Value) (u_mo_place : Value) (u_mo_readMany : Value) (u_mo_readSymbol : Value) (u_mo_readX : Value) (u_mo_readY : Value) (u_mo_readDiffers : Value) (u_mo_readWays : Value) (mo_told : Int32) (mo_keeps : Int32) (mo_out : (Nat → Int32)) (p0 : Int32) (sz : Nat) (o : Int32 × (Nat → Int32)) (hf : f_Mo_number mo_told mo_keeps mo_out p0 = some o) :
    Met l y_Mo_number ws_Mo_number { frames := 2, cells := 0, slots := 0, locals := 44 } (va_Pc [.ref h_mo, .int p0] (PcM (dC, dI) [(h_mo, .inr (1, [u_mo_thrown, u_mo_width, u_mo_height, u_mo_kind, u_mo_symbols, u_mo_wide, u_mo_high, u_mo_dark, u_mo_instances, u_mo_symbolOf, u_mo_xs, u_mo_ys, u_mo_differs, u_mo_ways, u_mo_ordered, u_mo_page, .int mo_told, .int mo_keeps, u_mo_toldBytes, .ref h_mo_out, u_mo_counts, u_mo_lengths, u_mo_codes, u_mo_weight, u_mo_over, u_mo_used, u_mo_row, u_mo_came, u_mo_in, u_mo_at, u_mo_refused, u_mo_place, u_mo_readMany, u_mo_readSymbol, u_mo_readX, u_mo_readY, u_mo_readDiffers, u_mo_readWays])), (h_mo_out, .inl (c_mo_out, 2000, .inl mo_out))] [(c_mo_out, .int)] sz))
      (va_Qv (fun u : Int32 × (Nat → Int32) => u = o) (fun u t => va_P (dC, dI) CL [(h_mo, .inr (1, [u_mo_thrown, u_mo_width, u_mo_height, u_mo_kind, u_mo_symbols, u_mo_wide, u_mo_high, u_mo_dark, u_mo_instances, u_mo_symbolOf, u_mo_xs, u_mo_ys, u_mo_differs, u_mo_ways, u_mo_ordered, u_mo_page, .int (u.1), .int mo_keeps, u_mo_toldBytes, .ref h_mo_out, u_mo_counts, u_mo_lengths, u_mo_codes, u_mo_weight, u_mo_over, u_mo_used, u_mo_row, u_mo_came, u_mo_in, u_mo_at, u_mo_refused, u_mo_place, u_mo_readMany, u_mo_readSymbol, u_mo_readX, u_mo_readY, u_mo_readDiffers, u_mo_readWays])), (h_mo_out, .inl (c_mo_out, 2000, .inl (u.2)))] t.heap ∧ va_K (dC, dI) CL [(c_mo_out, .int)] t ∧ va_D (va_A [(h_mo, .inr (1, [u_mo_thrown, u_mo_width, u_mo_height, u_mo_kind, u_mo_symbols, u_mo_wide, u_mo_high, u_mo_dark, u_mo_instances, u_mo_symbolOf, u_mo_xs, u_mo_ys, u_mo_differs, u_mo_ways, u_mo_ordered, u_mo_page, .int mo_told, .int mo_keeps, u_mo_toldBytes, .ref h_mo_out, u_mo_counts, u_mo_lengths, u_mo_codes, u_mo_weight, u_mo_over, u_mo_used, u_mo_row, u_mo_came, u_mo_in, u_mo_at, u_mo_refused, u_mo_place, u_mo_readMany, u_mo_readSymbol, u_mo_readX, u_mo_readY, u_mo_readDiffers, u_mo_readWays])), (h_mo_out, .inl (c_mo_out, 2000, .inl mo_out))] sz) [(h_mo, .inr (1, [u_mo_thrown, u_mo_width, u_mo_height, u_mo_kind, u_mo_symbols, u_mo_wide, u_mo_high, u_mo_dark, u_mo_instances, u_mo_symbolOf, u_mo_xs, u_mo_ys, u_mo_differs, u_mo_ways, u_mo_ordered, u_mo_page, .int (u.1), .int mo_keeps, u_mo_toldBytes, .ref h_mo_out, u_mo_counts, u_mo_lengths, u_mo_codes, u_mo_weight, u_mo_over, u_mo_used, u_mo_row, u_mo_came, u_mo_in, u_mo_at, u_mo_refused, u_mo_place, u_mo_readMany, u_mo_readSymbol, u_mo_readX, u_mo_readY, u_mo_readDiffers, u_mo_readWays])), (h_mo_out, .inl (c_mo_out, 2000, .inl (u.2)))]) (va_A [(h_mo, .inr (1, [u_mo_thrown, u_mo_width, u_mo_height, u_mo_kind, u_mo_symbols, u_mo_wide, u_mo_high, u_mo_dark, u_mo_instances, u_mo_symbolOf, u_mo_xs, u_mo_ys, u_mo_differs, u_mo_ways, u_mo_ordered, u_mo_page, .int mo_told, .int mo_keeps, u_mo_toldBytes, .ref h_mo_out, u_mo_counts, u_mo_lengths, u_mo_codes, u_mo_weight, u_mo_over, u_mo_used, u_mo_row, u_mo_came, u_mo_in, u_mo_at, u_mo_refused, u_mo_place, u_mo_readMany, u_mo_readSymbol, u_mo_readX, u_mo_readY, u_mo_readDiffers, u_mo_readWays])), (h_mo_out, .inl (c_mo_out, 2000, .inl mo_out))] sz)) 0 0 (va_A [(h_mo, .inr (1, [u_mo_thrown, u_mo_width, u_mo_height, u_mo_kind, u_mo_symbols, u_mo_wide, u_mo_high, u_mo_dark, u_mo_instances, u_mo_symbolOf, u_mo_xs, u_mo_ys, u_mo_differs, u_mo_ways, u_mo_ordered, u_mo_page, .int mo_told, .int mo_keeps, u_mo_toldBytes, .ref h_mo_out, u_mo_counts, u_mo_lengths, u_mo_codes, u_mo_weight, u_mo_over, u_mo_used, u_mo_row, u_mo_came, u_mo_in, u_mo_at, u_mo_refused, u_mo_place, u_mo_readMany, u_mo_readSymbol, u_mo_readX, u_mo_readY, u_mo_readDiffers, u_mo_readWays])), (h_mo_out, .inl (c_mo_out, 2000, .inl mo_out))] sz) := by
  refine Met.ofW (cc := b_Mo_number) (maxL := 3) (ret := none) (by decide) rfl ?_
  intro p e s m args below meth c s₁ B hml hv
  obtain ⟨rfl, hsz, hP, hK, hD0, hnw⟩ := hv
  have hx := B.exec
  have hb := B.bytes
  have hr := B.returns
  have hts := atoms_spec (ws := ws_Mo_number) B.pre
  have hB : ∀ w ∈ BIG, w.before _ s = true := fun w h => hts w (List.mem_cons_of_mem _ h)
  have hown : s.vm.findClass R_Mo = some m.cls := findClass_of_methodNamed B.named
  have hlocks := B.notSynchronized
  subst hsz
  have hD := hD0.self (sz := s.heap.size)
  refine W_Q (fun Q9 eQ => ?_)
  generalize hAe : va_A [(h_mo, .inr (1, [u_mo_thrown, u_mo_width, u_mo_height, u_mo_kind, u_mo_symbols, u_mo_wide, u_mo_high, u_mo_dark, u_mo_instances, u_mo_symbolOf, u_mo_xs, u_mo_ys, u_mo_differs, u_mo_ways, u_mo_ordered, u_mo_page, .int mo_told, .int mo_keeps, u_mo_toldBytes, .ref h_mo_out, u_mo_counts, u_mo_lengths, u_mo_codes, u_mo_weight, u_mo_over, u_mo_used, u_mo_row, u_mo_came, u_mo_in, u_mo_at, u_mo_refused, u_mo_place, u_mo_readMany, u_mo_readSymbol, u_mo_readX, u_mo_readY, u_mo_readDiffers, u_mo_readWays])), (h_mo_out, .inl (c_mo_out, 2000, .inl mo_out))] s.heap.size = A at hD eQ
  have hA : ∀ q : Nat, s.heap.size ≤ q → A q := fun q h => by rw [← hAe]; exact Or.inr h
  have hS : va_S A s.heap s.heap [] := va_S.rf
  have hl := lv_entry ([.ref h_mo, .int p0]) (n := 3) (Nat.le_of_ble_eq_true rfl)
  rw [lg_entry_eq]
  generalize (lg_sl ([.ref h_mo, .int p0]) ++ List.replicate (3 - (lg_sl ([.ref h_mo, .int p0])).length) Slot.unset).toArray = ls at hl ⊢
  have hl : lv_has ls 3 [(0, .ref h_mo), (1, .int p0)] := hl
  have h := hf
  unfold f_Mo_number at h
  refine lv_iconst (v := 0) hx hb d_Mo_number_0 (by decide) ?_
  refine lv_istore_n (lv' := [(2, .int (0 : Int32)), (0, .ref h_mo), (1, .int p0)]) hx hb d_Mo_number_1 rfl hl (by decide) rfl (fun ls hl => ?_)
  obtain ⟨k18, e_k18, h⟩ := abs_k (P := fun k9 => lp (f_Mo_number_L2 p0 k9) FU (0 : Int32) = some o) h
  have w_k18 : ∀ (v2_2 : Int32) (H : Heap) (locs : List Loc) (ls : Array Slot), k18 v2_2 = some o → va_P (dC, dI) CL [(h_mo, .inr (1, [u_mo_thrown, u_mo_width, u_mo_height, u_mo_kind, u_mo_symbols, u_mo_wide, u_mo_high, u_mo_dark, u_mo_instances, u_mo_symbolOf, u_mo_xs, u_mo_ys, u_mo_differs, u_mo_ways, u_mo_ordered, u_mo_page, .int mo_told, .int mo_keeps, u_mo_toldBytes, .ref h_mo_out, u_mo_counts, u_mo_lengths, u_mo_codes, u_mo_weight, u_mo_over, u_mo_used, u_mo_row, u_mo_came, u_mo_in, u_mo_at, u_mo_refused, u_mo_place, u_mo_readMany, u_mo_readSymbol, u_mo_readX, u_mo_readY, u_mo_readDiffers, u_mo_readWays])), (h_mo_out, .inl (c_mo_out, 2000, .inl mo_out))] H → va_D A [(h_mo, .inr (1, [u_mo_thrown, u_mo_width, u_mo_height, u_mo_kind, u_mo_symbols, u_mo_wide, u_mo_high, u_mo_dark, u_mo_instances, u_mo_symbolOf, u_mo_xs, u_mo_ys, u_mo_differs, u_mo_ways, u_mo_ordered, u_mo_page, .int mo_told, .int mo_keeps, u_mo_toldBytes, .ref h_mo_out, u_mo_counts, u_mo_lengths, u_mo_codes, u_mo_weight, u_mo_over, u_mo_used, u_mo_row, u_mo_came, u_mo_in, u_mo_at, u_mo_refused, u_mo_place, u_mo_readMany, u_mo_readSymbol, u_mo_readX, u_mo_readY, u_mo_readDiffers, u_mo_readWays])), (h_mo_out, .inl (c_mo_out, 2000, .inl mo_out))] → va_S A s.heap H locs → lv_has ls 3 [(2, .int v2_2), (0, .ref h_mo), (1, .int p0)] → W p l e ({ frames := 2, cells := 0, slots := 0, locals := 44 } : Room) s m ([.ref h_mo, .int p0] : List Value).toArray below meth c H locs 0 0 Q9 (F0 m 18 ls []) := by
    intro v2_2 H locs ls h hP hD hS hl
    rw [e_k18] at h
    refine lv_aload_n hx hb d_Mo_number_18 rfl (lv_at hl 1 rfl) ?_
    refine lv_iconst (v := 0) hx hb d_Mo_number_19 (by decide) ?_
    refine lv_iload_n hx hb d_Mo_number_20 rfl (lv_at hl 0 rfl) ?_
    obtain ⟨o9, hc9, h⟩ := bd_e h
    have hPc := hP.sub (ws' := [(h_mo, .inr (1, [u_mo_thrown, u_mo_width, u_mo_height, u_mo_kind, u_mo_symbols, u_mo_wide, u_mo_high, u_mo_dark, u_mo_instances, u_mo_symbolOf, u_mo_xs, u_mo_ys, u_mo_differs, u_mo_ways, u_mo_ordered, u_mo_page, .int mo_told, .int mo_keeps, u_mo_toldBytes, .ref h_mo_out, u_mo_counts, u_mo_lengths, u_mo_codes, u_mo_weight, u_mo_over, u_mo_used, u_mo_row, u_mo_came, u_mo_in, u_mo_at, u_mo_refused, u_mo_place, u_mo_readMany, u_mo_readSymbol, u_mo_readX, u_mo_readY, u_mo_readDiffers, u_mo_readWays])), (h_mo_out, .inl (c_mo_out, 2000, .inl mo_out))]) [0, 1] rfl
    have hKc := hK.sub (tys' := [(c_mo_out, .int)]) [0] rfl
    have hDc := hD.sub (ws' := [(h_mo, .inr (1, [u_mo_thrown, u_mo_width, u_mo_height, u_mo_kind, u_mo_symbols, u_mo_wide, u_mo_high, u_mo_dark, u_mo_instances, u_mo_symbolOf, u_mo_xs, u_mo_ys, u_mo_differs, u_mo_ways, u_mo_ordered, u_mo_page, .int mo_told, .int mo_keeps, u_mo_toldBytes, .ref h_mo_out, u_mo_counts, u_mo_lengths, u_mo_codes, u_mo_weight, u_mo_over, u_mo_used, u_mo_row, u_mo_came, u_mo_in, u_mo_at, u_mo_refused, u_mo_place, u_mo_readMany, u_mo_readSymbol, u_mo_readX, u_mo_readY, u_mo_readDiffers, u_mo_readWays])), (h_mo_out, .inl (c_mo_out, 2000, .inl mo_out))]) [0, 1] (by decide) rfl
    have hFc := va_free (wc := [(h_mo, .inr (1, [u_mo_thrown, u_mo_width, u_mo_height, u_mo_kind, u_mo_symbols, u_mo_wide, u_mo_high, u_mo_dark, u_mo_instances, u_mo_symbolOf, u_mo_xs, u_mo_ys, u_mo_differs, u_mo_ways, u_mo_ordered, u_mo_page, .int mo_told, .int mo_keeps, u_mo_toldBytes, .ref h_mo_out, u_mo_counts, u_mo_lengths, u_mo_codes, u_mo_weight, u_mo_over, u_mo_used, u_mo_row, u_mo_came, u_mo_in, u_mo_at, u_mo_refused, u_mo_place, u_mo_readMany, u_mo_readSymbol, u_mo_readX, u_mo_readY, u_mo_readDiffers, u_mo_readWays])), (h_mo_out, .inl (c_mo_out, 2000, .inl mo_out))]) hD hS hA [0, 1] rfl
    refine va_callv (va_runV (As := [.int (0 : Int32), .int v2_2]) (rest := []) ⟨hx, hb, hml, hown, hB⟩ (c_Mo_low l dC dI h_mo h_mo_out c_mo_out u_mo_thrown u_mo_width u_mo_height u_mo_kind u_mo_symbols u_mo_wide u_mo_high u_mo_dark u_mo_instances u_mo_symbolOf u_mo_xs u_mo_ys u_mo_differs u_mo_ways u_mo_ordered u_mo_page u_mo_toldBytes u_mo_counts u_mo_lengths u_mo_codes u_mo_weight u_mo_over u_mo_used u_mo_row u_mo_came u_mo_in u_mo_at u_mo_refused u_mo_place u_mo_readMany u_mo_readSymbol u_mo_readX u_mo_readY u_mo_readDiffers u_mo_readWays mo_told mo_keeps mo_out (0 : Int32) v2_2 _ o9 hc9) (cwV 2 hB (goodA (m4 bw_1068 bw_1070 bs_65 bw_13) (goodB bw_1071)) rfl rfl rfl (by decide +kernel) ⟨Nat.le_of_ble_eq_true rfl, Nat.le_of_ble_eq_true rfl⟩) ⟨fb_m, va_recv hK hP (ci := 1) (q0 := 0) rfl rfl, (pre_m hPc hKc hDc hnw [.ref h_mo, .int (0 : Int32), .int v2_2])⟩ rfl rfl hl.1 rfl (lv_room (Nat.le_of_ble_eq_true rfl)) d_Mo_number_21 ⟨Nat.zero_le _, Nat.zero_le _⟩) hS (fun q _ h => hFc q h) hFc (fun u9 t H1 locs ht hvm hw hB hz1 hk1 hS => ?_)
    obtain ⟨mo_told_4, mo_out_5⟩ := u9
    subst hw
    obtain ⟨hP1, hK1, hD1⟩ := hB
    rw [ht] at hP1
    obtain ⟨hP, hD⟩ := va_join (wr := []) (w1 := [(h_mo, .inr (1, [u_mo_thrown, u_mo_width, u_mo_height, u_mo_kind, u_mo_symbols, u_mo_wide, u_mo_high, u_mo_dark, u_mo_instances, u_mo_symbolOf, u_mo_xs, u_mo_ys, u_mo_differs, u_mo_ways, u_mo_ordered, u_mo_page, .int mo_told_4, .int mo_keeps, u_mo_toldBytes, .ref h_mo_out, u_mo_counts, u_mo_lengths, u_mo_codes, u_mo_weight, u_mo_over, u_mo_used, u_mo_row, u_mo_came, u_mo_in, u_mo_at, u_mo_refused, u_mo_place, u_mo_readMany, u_mo_readSymbol, u_mo_readX, u_mo_readY, u_mo_readDiffers, u_mo_readWays])), (h_mo_out, .inl (c_mo_out, 2000, .inl mo_out_5))]) hP hD [0, 1] [] rfl rfl (by decide) (by decide) hk1 hFc hP1 hD1
    have hP := hP.sub (ws' := [(h_mo, .inr (1, [u_mo_thrown, u_mo_width, u_mo_height, u_mo_kind, u_mo_symbols, u_mo_wide, u_mo_high, u_mo_dark, u_mo_instances, u_mo_symbolOf, u_mo_xs, u_mo_ys, u_mo_differs, u_mo_ways, u_mo_ordered, u_mo_page, .int mo_told_4, .int mo_keeps, u_mo_toldBytes, .ref h_mo_out, u_mo_counts, u_mo_lengths, u_mo_codes, u_mo_weight, u_mo_over, u_mo_used, u_mo_row, u_mo_came, u_mo_in, u_mo_at, u_mo_refused, u_mo_place, u_mo_readMany, u_mo_readSymbol, u_mo_readX, u_mo_readY, u_mo_readDiffers, u_mo_readWays])), (h_mo_out, .inl (c_mo_out, 2000, .inl mo_out_5))]) [0, 1] rfl
    have hD := hD.sub (ws' := [(h_mo, .inr (1, [u_mo_thrown, u_mo_width, u_mo_height, u_mo_kind, u_mo_symbols, u_mo_wide, u_mo_high, u_mo_dark, u_mo_instances, u_mo_symbolOf, u_mo_xs, u_mo_ys, u_mo_differs, u_mo_ways, u_mo_ordered, u_mo_page, .int mo_told_4, .int mo_keeps, u_mo_toldBytes, .ref h_mo_out, u_mo_counts, u_mo_lengths, u_mo_codes, u_mo_weight, u_mo_over, u_mo_used, u_mo_row, u_mo_came, u_mo_in, u_mo_at, u_mo_refused, u_mo_place, u_mo_readMany, u_mo_readSymbol, u_mo_readX, u_mo_readY, u_mo_readDiffers, u_mo_readWays])), (h_mo_out, .inl (c_mo_out, 2000, .inl mo_out_5))]) [0, 1] (by decide) rfl
    clear hPc hKc hDc hFc hc9 hP1 hK1 hD1 hk1 hz1 hvm ht
    generalize H1 = H at hP hS ⊢
    try dsimp only at h
    refine lv_aload_n hx hb d_Mo_number_24 rfl (lv_at hl 1 rfl) ?_
    refine lv_iconst (v := 1) hx hb d_Mo_number_25 (by decide) ?_
    obtain ⟨o9, hc9, h⟩ := bd_e h
    have hPc := hP.sub (ws' := [(h_mo, .inr (1, [u_mo_thrown, u_mo_width, u_mo_height, u_mo_kind, u_mo_symbols, u_mo_wide, u_mo_high, u_mo_dark, u_mo_instances, u_mo_symbolOf, u_mo_xs, u_mo_ys, u_mo_differs, u_mo_ways, u_mo_ordered, u_mo_page, .int mo_told_4, .int mo_keeps, u_mo_toldBytes, .ref h_mo_out, u_mo_counts, u_mo_lengths, u_mo_codes, u_mo_weight, u_mo_over, u_mo_used, u_mo_row, u_mo_came, u_mo_in, u_mo_at, u_mo_refused, u_mo_place, u_mo_readMany, u_mo_readSymbol, u_mo_readX, u_mo_readY, u_mo_readDiffers, u_mo_readWays])), (h_mo_out, .inl (c_mo_out, 2000, .inl mo_out_5))]) [0, 1] rfl
    have hKc := hK.sub (tys' := [(c_mo_out, .int)]) [0] rfl
    have hDc := hD.sub (ws' := [(h_mo, .inr (1, [u_mo_thrown, u_mo_width, u_mo_height, u_mo_kind, u_mo_symbols, u_mo_wide, u_mo_high, u_mo_dark, u_mo_instances, u_mo_symbolOf, u_mo_xs, u_mo_ys, u_mo_differs, u_mo_ways, u_mo_ordered, u_mo_page, .int mo_told_4, .int mo_keeps, u_mo_toldBytes, .ref h_mo_out, u_mo_counts, u_mo_lengths, u_mo_codes, u_mo_weight, u_mo_over, u_mo_used, u_mo_row, u_mo_came, u_mo_in, u_mo_at, u_mo_refused, u_mo_place, u_mo_readMany, u_mo_readSymbol, u_mo_readX, u_mo_readY, u_mo_readDiffers, u_mo_readWays])), (h_mo_out, .inl (c_mo_out, 2000, .inl mo_out_5))]) [0, 1] (by decide) rfl
    have hFc := va_free (wc := [(h_mo, .inr (1, [u_mo_thrown, u_mo_width, u_mo_height, u_mo_kind, u_mo_symbols, u_mo_wide, u_mo_high, u_mo_dark, u_mo_instances, u_mo_symbolOf, u_mo_xs, u_mo_ys, u_mo_differs, u_mo_ways, u_mo_ordered, u_mo_page, .int mo_told_4, .int mo_keeps, u_mo_toldBytes, .ref h_mo_out, u_mo_counts, u_mo_lengths, u_mo_codes, u_mo_weight, u_mo_over, u_mo_used, u_mo_row, u_mo_came, u_mo_in, u_mo_at, u_mo_refused, u_mo_place, u_mo_readMany, u_mo_readSymbol, u_mo_readX, u_mo_readY, u_mo_readDiffers, u_mo_readWays])), (h_mo_out, .inl (c_mo_out, 2000, .inl mo_out_5))]) hD hS hA [0, 1] rfl
    refine va_callv (va_runV (As := [.int (1 : Int32)]) (rest := []) ⟨hx, hb, hml, hown, hB⟩ (c_Mo_bit l dC dI h_mo h_mo_out c_mo_out u_mo_thrown u_mo_width u_mo_height u_mo_kind u_mo_symbols u_mo_wide u_mo_high u_mo_dark u_mo_instances u_mo_symbolOf u_mo_xs u_mo_ys u_mo_differs u_mo_ways u_mo_ordered u_mo_page u_mo_toldBytes u_mo_counts u_mo_lengths u_mo_codes u_mo_weight u_mo_over u_mo_used u_mo_row u_mo_came u_mo_in u_mo_at u_mo_refused u_mo_place u_mo_readMany u_mo_readSymbol u_mo_readX u_mo_readY u_mo_readDiffers u_mo_readWays mo_told_4 mo_keeps mo_out_5 (1 : Int32) _ o9 hc9) (cwV 1 hB (goodA (m4 bw_1072 bw_1074 bs_66 bw_13) (goodB bw_1075)) rfl rfl rfl (by decide +kernel) ⟨Nat.le_of_ble_eq_true rfl, Nat.le_of_ble_eq_true rfl⟩) ⟨fb_m, va_recv hK hP (ci := 1) (q0 := 0) rfl rfl, (pre_m hPc hKc hDc hnw [.ref h_mo, .int (1 : Int32)])⟩ rfl rfl hl.1 rfl (lv_room (Nat.le_of_ble_eq_true rfl)) d_Mo_number_26 ⟨Nat.zero_le _, Nat.zero_le _⟩) hS (fun q _ h => hFc q h) hFc (fun u9 t H1 locs ht hvm hw hB hz1 hk1 hS => ?_)
    obtain ⟨mo_told_6, mo_out_7⟩ := u9
    subst hw
    obtain ⟨hP1, hK1, hD1⟩ := hB
    rw [ht] at hP1
    obtain ⟨hP, hD⟩ := va_join (wr := []) (w1 := [(h_mo, .inr (1, [u_mo_thrown, u_mo_width, u_mo_height, u_mo_kind, u_mo_symbols, u_mo_wide, u_mo_high, u_mo_dark, u_mo_instances, u_mo_symbolOf, u_mo_xs, u_mo_ys, u_mo_differs, u_mo_ways, u_mo_ordered, u_mo_page, .int mo_told_6, .int mo_keeps, u_mo_toldBytes, .ref h_mo_out, u_mo_counts, u_mo_lengths, u_mo_codes, u_mo_weight, u_mo_over, u_mo_used, u_mo_row, u_mo_came, u_mo_in, u_mo_at, u_mo_refused, u_mo_place, u_mo_readMany, u_mo_readSymbol, u_mo_readX, u_mo_readY, u_mo_readDiffers, u_mo_readWays])), (h_mo_out, .inl (c_mo_out, 2000, .inl mo_out_7))]) hP hD [0, 1] [] rfl rfl (by decide) (by decide) hk1 hFc hP1 hD1
    have hP := hP.sub (ws' := [(h_mo, .inr (1, [u_mo_thrown, u_mo_width, u_mo_height, u_mo_kind, u_mo_symbols, u_mo_wide, u_mo_high, u_mo_dark, u_mo_instances, u_mo_symbolOf, u_mo_xs, u_mo_ys, u_mo_differs, u_mo_ways, u_mo_ordered, u_mo_page, .int mo_told_6, .int mo_keeps, u_mo_toldBytes, .ref h_mo_out, u_mo_counts, u_mo_lengths, u_mo_codes, u_mo_weight, u_mo_over, u_mo_used, u_mo_row, u_mo_came, u_mo_in, u_mo_at, u_mo_refused, u_mo_place, u_mo_readMany, u_mo_readSymbol, u_mo_readX, u_mo_readY, u_mo_readDiffers, u_mo_readWays])), (h_mo_out, .inl (c_mo_out, 2000, .inl mo_out_7))]) [0, 1] rfl
    have hD := hD.sub (ws' := [(h_mo, .inr (1, [u_mo_thrown, u_mo_width, u_mo_height, u_mo_kind, u_mo_symbols, u_mo_wide, u_mo_high, u_mo_dark, u_mo_instances, u_mo_symbolOf, u_mo_xs, u_mo_ys, u_mo_differs, u_mo_ways, u_mo_ordered, u_mo_page, .int mo_told_6, .int mo_keeps, u_mo_toldBytes, .ref h_mo_out, u_mo_counts, u_mo_lengths, u_mo_codes, u_mo_weight, u_mo_over, u_mo_used, u_mo_row, u_mo_came, u_mo_in, u_mo_at, u_mo_refused, u_mo_place, u_mo_readMany, u_mo_readSymbol, u_mo_readX, u_mo_readY, u_mo_readDiffers, u_mo_readWays])), (h_mo_out, .inl (c_mo_out, 2000, .inl mo_out_7))]) [0, 1] (by decide) rfl
    clear hPc hKc hDc hFc hc9 hP1 hK1 hD1 hk1 hz1 hvm ht
    generalize H1 = H at hP hS ⊢
    try dsimp only at h
    refine lv_aload_n hx hb d_Mo_number_29 rfl (lv_at hl 1 rfl) ?_
    refine lv_iload_n hx hb d_Mo_number_30 rfl (lv_at hl 2 rfl) ?_
    refine lv_iconst (v := 1) hx hb d_Mo_number_31 (by decide) ?_
    refine lv_iadd hx hb d_Mo_number_32 ?_
    refine lv_iload_n hx hb d_Mo_number_33 rfl (lv_at hl 0 rfl) ?_
    obtain ⟨o9, hc9, h⟩ := bd_e h
    have hPc := hP.sub (ws' := [(h_mo, .inr (1, [u_mo_thrown, u_mo_width, u_mo_height, u_mo_kind, u_mo_symbols, u_mo_wide, u_mo_high, u_mo_dark, u_mo_instances, u_mo_symbolOf, u_mo_xs, u_mo_ys, u_mo_differs, u_mo_ways, u_mo_ordered, u_mo_page, .int mo_told_6, .int mo_keeps, u_mo_toldBytes, .ref h_mo_out, u_mo_counts, u_mo_lengths, u_mo_codes, u_mo_weight, u_mo_over, u_mo_used, u_mo_row, u_mo_came, u_mo_in, u_mo_at, u_mo_refused, u_mo_place, u_mo_readMany, u_mo_readSymbol, u_mo_readX, u_mo_readY, u_mo_readDiffers, u_mo_readWays])), (h_mo_out, .inl (c_mo_out, 2000, .inl mo_out_7))]) [0, 1] rfl
    have hKc := hK.sub (tys' := [(c_mo_out, .int)]) [0] rfl
    have hDc := hD.sub (ws' := [(h_mo, .inr (1, [u_mo_thrown, u_mo_width, u_mo_height, u_mo_kind, u_mo_symbols, u_mo_wide, u_mo_high, u_mo_dark, u_mo_instances, u_mo_symbolOf, u_mo_xs, u_mo_ys, u_mo_differs, u_mo_ways, u_mo_ordered, u_mo_page, .int mo_told_6, .int mo_keeps, u_mo_toldBytes, .ref h_mo_out, u_mo_counts, u_mo_lengths, u_mo_codes, u_mo_weight, u_mo_over, u_mo_used, u_mo_row, u_mo_came, u_mo_in, u_mo_at, u_mo_refused, u_mo_place, u_mo_readMany, u_mo_readSymbol, u_mo_readX, u_mo_readY, u_mo_readDiffers, u_mo_readWays])), (h_mo_out, .inl (c_mo_out, 2000, .inl mo_out_7))]) [0, 1] (by decide) rfl
    have hFc := va_free (wc := [(h_mo, .inr (1, [u_mo_thrown, u_mo_width, u_mo_height, u_mo_kind, u_mo_symbols, u_mo_wide, u_mo_high, u_mo_dark, u_mo_instances, u_mo_symbolOf, u_mo_xs, u_mo_ys, u_mo_differs, u_mo_ways, u_mo_ordered, u_mo_page, .int mo_told_6, .int mo_keeps, u_mo_toldBytes, .ref h_mo_out, u_mo_counts, u_mo_lengths, u_mo_codes, u_mo_weight, u_mo_over, u_mo_used, u_mo_row, u_mo_came, u_mo_in, u_mo_at, u_mo_refused, u_mo_place, u_mo_readMany, u_mo_readSymbol, u_mo_readX, u_mo_readY, u_mo_readDiffers, u_mo_readWays])), (h_mo_out, .inl (c_mo_out, 2000, .inl mo_out_7))]) hD hS hA [0, 1] rfl
    refine va_callv (va_runV (As := [.int (p0 + (1 : Int32)), .int v2_2]) (rest := []) ⟨hx, hb, hml, hown, hB⟩ (c_Mo_low l dC dI h_mo h_mo_out c_mo_out u_mo_thrown u_mo_width u_mo_height u_mo_kind u_mo_symbols u_mo_wide u_mo_high u_mo_dark u_mo_instances u_mo_symbolOf u_mo_xs u_mo_ys u_mo_differs u_mo_ways u_mo_ordered u_mo_page u_mo_toldBytes u_mo_counts u_mo_lengths u_mo_codes u_mo_weight u_mo_over u_mo_used u_mo_row u_mo_came u_mo_in u_mo_at u_mo_refused u_mo_place u_mo_readMany u_mo_readSymbol u_mo_readX u_mo_readY u_mo_readDiffers u_mo_readWays mo_told_6 mo_keeps mo_out_7 (p0 + (1 : Int32)) v2_2 _ o9 hc9) (cwV 2 hB (goodA (m4 bw_1068 bw_1070 bs_65 bw_13) (goodB bw_1071)) rfl rfl rfl (by decide +kernel) ⟨Nat.le_of_ble_eq_true rfl, Nat.le_of_ble_eq_true rfl⟩) ⟨fb_m, va_recv hK hP (ci := 1) (q0 := 0) rfl rfl, (pre_m hPc hKc hDc hnw [.ref h_mo, .int (p0 + (1 : Int32)), .int v2_2])⟩ rfl rfl hl.1 rfl (lv_room (Nat.le_of_ble_eq_true rfl)) d_Mo_number_34 ⟨Nat.zero_le _, Nat.zero_le _⟩) hS (fun q _ h => hFc q h) hFc (fun u9 t H1 locs ht hvm hw hB hz1 hk1 hS => ?_)
    obtain ⟨mo_told_8, mo_out_9⟩ := u9
    subst hw
    obtain ⟨hP1, hK1, hD1⟩ := hB
    rw [ht] at hP1
    obtain ⟨hP, hD⟩ := va_join (wr := []) (w1 := [(h_mo, .inr (1, [u_mo_thrown, u_mo_width, u_mo_height, u_mo_kind, u_mo_symbols, u_mo_wide, u_mo_high, u_mo_dark, u_mo_instances, u_mo_symbolOf, u_mo_xs, u_mo_ys, u_mo_differs, u_mo_ways, u_mo_ordered, u_mo_page, .int mo_told_8, .int mo_keeps, u_mo_toldBytes, .ref h_mo_out, u_mo_counts, u_mo_lengths, u_mo_codes, u_mo_weight, u_mo_over, u_mo_used, u_mo_row, u_mo_came, u_mo_in, u_mo_at, u_mo_refused, u_mo_place, u_mo_readMany, u_mo_readSymbol, u_mo_readX, u_mo_readY, u_mo_readDiffers, u_mo_readWays])), (h_mo_out, .inl (c_mo_out, 2000, .inl mo_out_9))]) hP hD [0, 1] [] rfl rfl (by decide) (by decide) hk1 hFc hP1 hD1
    have hP := hP.sub (ws' := [(h_mo, .inr (1, [u_mo_thrown, u_mo_width, u_mo_height, u_mo_kind, u_mo_symbols, u_mo_wide, u_mo_high, u_mo_dark, u_mo_instances, u_mo_symbolOf, u_mo_xs, u_mo_ys, u_mo_differs, u_mo_ways, u_mo_ordered, u_mo_page, .int mo_told_8, .int mo_keeps, u_mo_toldBytes, .ref h_mo_out, u_mo_counts, u_mo_lengths, u_mo_codes, u_mo_weight, u_mo_over, u_mo_used, u_mo_row, u_mo_came, u_mo_in, u_mo_at, u_mo_refused, u_mo_place, u_mo_readMany, u_mo_readSymbol, u_mo_readX, u_mo_readY, u_mo_readDiffers, u_mo_readWays])), (h_mo_out, .inl (c_mo_out, 2000, .inl mo_out_9))]) [0, 1] rfl
    have hD := hD.sub (ws' := [(h_mo, .inr (1, [u_mo_thrown, u_mo_width, u_mo_height, u_mo_kind, u_mo_symbols, u_mo_wide, u_mo_high, u_mo_dark, u_mo_instances, u_mo_symbolOf, u_mo_xs, u_mo_ys, u_mo_differs, u_mo_ways, u_mo_ordered, u_mo_page, .int mo_told_8, .int mo_keeps, u_mo_toldBytes, .ref h_mo_out, u_mo_counts, u_mo_lengths, u_mo_codes, u_mo_weight, u_mo_over, u_mo_used, u_mo_row, u_mo_came, u_mo_in, u_mo_at, u_mo_refused, u_mo_place, u_mo_readMany, u_mo_readSymbol, u_mo_readX, u_mo_readY, u_mo_readDiffers, u_mo_readWays])), (h_mo_out, .inl (c_mo_out, 2000, .inl mo_out_9))]) [0, 1] (by decide) rfl
    clear hPc hKc hDc hFc hc9 hP1 hK1 hD1 hk1 hz1 hvm ht
    generalize H1 = H at hP hS ⊢
    try dsimp only at h
    subst eQ
    exact W.vret hx hb hr (fun t ht hW => ⟨⟨(mo_told_8, mo_out_9), rfl, Option.some.inj h, by rw [ht]; exact hP, va_K.moved hW.alike hK, hD⟩, hS.F ht⟩) hS.2.2 d_Mo_number_37
  have w_self2 : ∀ n9 : Nat, ∀ (v2_1 : Int32) (H : Heap) (locs : List Loc) (ls : Array Slot), lp (f_Mo_number_L2 p0 k18) n9 v2_1 = some o → va_P (dC, dI) CL [(h_mo, .inr (1, [u_mo_thrown, u_mo_width, u_mo_height, u_mo_kind, u_mo_symbols, u_mo_wide, u_mo_high, u_mo_dark, u_mo_instances, u_mo_symbolOf, u_mo_xs, u_mo_ys, u_mo_differs, u_mo_ways, u_mo_ordered, u_mo_page, .int mo_told, .int mo_keeps, u_mo_toldBytes, .ref h_mo_out, u_mo_counts, u_mo_lengths, u_mo_codes, u_mo_weight, u_mo_over, u_mo_used, u_mo_row, u_mo_came, u_mo_in, u_mo_at, u_mo_refused, u_mo_place, u_mo_readMany, u_mo_readSymbol, u_mo_readX, u_mo_readY, u_mo_readDiffers, u_mo_readWays])), (h_mo_out, .inl (c_mo_out, 2000, .inl mo_out))] H → va_D A [(h_mo, .inr (1, [u_mo_thrown, u_mo_width, u_mo_height, u_mo_kind, u_mo_symbols, u_mo_wide, u_mo_high, u_mo_dark, u_mo_instances, u_mo_symbolOf, u_mo_xs, u_mo_ys, u_mo_differs, u_mo_ways, u_mo_ordered, u_mo_page, .int mo_told, .int mo_keeps, u_mo_toldBytes, .ref h_mo_out, u_mo_counts, u_mo_lengths, u_mo_codes, u_mo_weight, u_mo_over, u_mo_used, u_mo_row, u_mo_came, u_mo_in, u_mo_at, u_mo_refused, u_mo_place, u_mo_readMany, u_mo_readSymbol, u_mo_readX, u_mo_readY, u_mo_readDiffers, u_mo_readWays])), (h_mo_out, .inl (c_mo_out, 2000, .inl mo_out))] → va_S A s.heap H locs → lv_has ls 3 [(2, .int v2_1), (0, .ref h_mo), (1, .int p0)] → W p l e ({ frames := 2, cells := 0, slots := 0, locals := 44 } : Room) s m ([.ref h_mo, .int p0] : List Value).toArray below meth c H locs 0 0 Q9 (F0 m 2 ls []) := by
    intro n9
    induction n9 with
    | zero =>
      intro v2_1 H locs ls h hP hD hS hl
      exact absurd h (by simp [lp])
    | succ n9 ih_self2 =>
      intro v2_1 H locs ls h hP hD hS hl
      obtain ⟨self2, e_self2, h⟩ := abs_k (P := fun z9 => f_Mo_number_L2 p0 k18 z9 v2_1 = some o) (lp_e h)
      rw [← e_self2] at ih_self2
      unfold f_Mo_number_L2 at h
      try dsimp only at h
      refine lv_iload_n hx hb d_Mo_number_2 rfl (lv_at hl 2 rfl) ?_
      refine lv_iconst (v := 1) hx hb d_Mo_number_3 (by decide) ?_
      refine lv_iadd hx hb d_Mo_number_4 ?_
      refine lv_iload_n hx hb d_Mo_number_5 rfl (lv_at hl 0 rfl) ?_
      refine lv_iconst (v := 1) hx hb d_Mo_number_6 (by decide) ?_
      refine lv_iadd hx hb d_Mo_number_7 ?_
      refine lv_ishr hx hb d_Mo_number_8 ?_
      refine lv_if_le (tgt := 18) hx hb d_Mo_number_9 (by decide) (fun c_1 => ?_) (fun c_1 => ?_)
      · have h := if_t h c_1
        exact w_k18 _ _ _ _ h hP hD hS hl
      · have h := if_f h c_1
        obtain ⟨v2_3, e_v2_3⟩ : ∃ y9 : Int32, y9 = (v2_1 + (1 : Int32)) := ⟨_, rfl⟩
        have h := nl_u e_v2_3 h
        refine lv_iinc (v := v2_3) (lv' := [(2, .int v2_3), (0, .ref h_mo), (1, .int p0)]) hx hb d_Mo_number_12 hl (k := 0) rfl (by rw [e_v2_3]; rfl) (by decide) rfl (fun ls hl => ?_)
        refine lv_goto (tgt := 2) hx hb d_Mo_number_15 (by decide) ?_
        exact ih_self2 _ _ _ _ h hP hD hS hl
  exact w_self2 FU _ _ _ _ h hP hD hS hl
set_option maxHeartbeats 4000000 in
set_option maxRecDepth 100000 in
theorem c_Mo_signed (l : Launch) (dC : Nat → ClassId) (dI : Nat → Nat → Nat) (h_mo : Nat) (h_mo_out : Nat) (c_mo_out : ClassId) (u_mo_thrown : Value) (u_mo_width : Value) (u_mo_height : Value) (u_mo_kind : Value) (u_mo_symbols : Value) (u_mo_wide : Value) (u_mo_high : Value) (u_mo_dark : Value) (u_mo_instances : Value) (u_mo_symbolOf : Value) (u_mo_xs : Value) (u_mo_ys : Value) (u_mo_differs : Value) (u_mo_ways : Value) (u_mo_ordered : Value) (u_mo_page : Value) (u_mo_toldBytes : Value) (u_mo_counts : Value) (u_mo_lengths : Value) (u_mo_codes : Value) (u_mo_weight : Value) (u_mo_over : Value) (u_mo_used : Value) (u_mo_row : Value) (u_mo_came : Value) (u_mo_in : Value) (u_mo_at : Value) (u_mo_refused : Value) (u_mo_place : Value) (u_mo_readMany : Value) (u_mo_readSymbol : Value) (u_mo_readX : Value) (u_mo_readY : Value) (u_mo_readDiffers : Value) (u_mo_readWays : Value) (mo_told : Int32) (mo_keeps : Int32) (mo_out : (Nat → Int32)) (p0 : Int32) (sz : Nat) (o : Int32 × (Nat → Int32)) (hf : f_Mo_signed mo_told mo_keeps mo_out p0 = some o) :
    Met l y_Mo_signed ws_Mo_signed { frames := 3, cells := 0, slots := 0, locals := 66 } (va_Pc [.ref h_mo, .int p0] (PcM (dC, dI) [(h_mo, .inr (1, [u_mo_thrown, u_mo_width, u_mo_height, u_mo_kind, u_mo_symbols, u_mo_wide, u_mo_high, u_mo_dark, u_mo_instances, u_mo_symbolOf, u_mo_xs, u_mo_ys, u_mo_differs, u_mo_ways, u_mo_ordered, u_mo_page, .int mo_told, .int mo_keeps, u_mo_toldBytes, .ref h_mo_out, u_mo_counts, u_mo_lengths, u_mo_codes, u_mo_weight, u_mo_over, u_mo_used, u_mo_row, u_mo_came, u_mo_in, u_mo_at, u_mo_refused, u_mo_place, u_mo_readMany, u_mo_readSymbol, u_mo_readX, u_mo_readY, u_mo_readDiffers, u_mo_readWays])), (h_mo_out, .inl (c_mo_out, 2000, .inl mo_out))] [(c_mo_out, .int)] sz))
      (va_Qv (fun u : Int32 × (Nat → Int32) => u = o) (fun u t => va_P (dC, dI) CL [(h_mo, .inr (1, [u_mo_thrown, u_mo_width, u_mo_height, u_mo_kind, u_mo_symbols, u_mo_wide, u_mo_high, u_mo_dark, u_mo_instances, u_mo_symbolOf, u_mo_xs, u_mo_ys, u_mo_differs, u_mo_ways, u_mo_ordered, u_mo_page, .int (u.1), .int mo_keeps, u_mo_toldBytes, .ref h_mo_out, u_mo_counts, u_mo_lengths, u_mo_codes, u_mo_weight, u_mo_over, u_mo_used, u_mo_row, u_mo_came, u_mo_in, u_mo_at, u_mo_refused, u_mo_place, u_mo_readMany, u_mo_readSymbol, u_mo_readX, u_mo_readY, u_mo_readDiffers, u_mo_readWays])), (h_mo_out, .inl (c_mo_out, 2000, .inl (u.2)))] t.heap ∧ va_K (dC, dI) CL [(c_mo_out, .int)] t ∧ va_D (va_A [(h_mo, .inr (1, [u_mo_thrown, u_mo_width, u_mo_height, u_mo_kind, u_mo_symbols, u_mo_wide, u_mo_high, u_mo_dark, u_mo_instances, u_mo_symbolOf, u_mo_xs, u_mo_ys, u_mo_differs, u_mo_ways, u_mo_ordered, u_mo_page, .int mo_told, .int mo_keeps, u_mo_toldBytes, .ref h_mo_out, u_mo_counts, u_mo_lengths, u_mo_codes, u_mo_weight, u_mo_over, u_mo_used, u_mo_row, u_mo_came, u_mo_in, u_mo_at, u_mo_refused, u_mo_place, u_mo_readMany, u_mo_readSymbol, u_mo_readX, u_mo_readY, u_mo_readDiffers, u_mo_readWays])), (h_mo_out, .inl (c_mo_out, 2000, .inl mo_out))] sz) [(h_mo, .inr (1, [u_mo_thrown, u_mo_width, u_mo_height, u_mo_kind, u_mo_symbols, u_mo_wide, u_mo_high, u_mo_dark, u_mo_instances, u_mo_symbolOf, u_mo_xs, u_mo_ys, u_mo_differs, u_mo_ways, u_mo_ordered, u_mo_page, .int (u.1), .int mo_keeps, u_mo_toldBytes, .ref h_mo_out, u_mo_counts, u_mo_lengths, u_mo_codes, u_mo_weight, u_mo_over, u_mo_used, u_mo_row, u_mo_came, u_mo_in, u_mo_at, u_mo_refused, u_mo_place, u_mo_readMany, u_mo_readSymbol, u_mo_readX, u_mo_readY, u_mo_readDiffers, u_mo_readWays])), (h_mo_out, .inl (c_mo_out, 2000, .inl (u.2)))]) (va_A [(h_mo, .inr (1, [u_mo_thrown, u_mo_width, u_mo_height, u_mo_kind, u_mo_symbols, u_mo_wide, u_mo_high, u_mo_dark, u_mo_instances, u_mo_symbolOf, u_mo_xs, u_mo_ys, u_mo_differs, u_mo_ways, u_mo_ordered, u_mo_page, .int mo_told, .int mo_keeps, u_mo_toldBytes, .ref h_mo_out, u_mo_counts, u_mo_lengths, u_mo_codes, u_mo_weight, u_mo_over, u_mo_used, u_mo_row, u_mo_came, u_mo_in, u_mo_at, u_mo_refused, u_mo_place, u_mo_readMany, u_mo_readSymbol, u_mo_readX, u_mo_readY, u_mo_readDiffers, u_mo_readWays])), (h_mo_out, .inl (c_mo_out, 2000, .inl mo_out))] sz)) 0 0 (va_A [(h_mo, .inr (1, [u_mo_thrown, u_mo_width, u_mo_height, u_mo_kind, u_mo_symbols, u_mo_wide, u_mo_high, u_mo_dark, u_mo_instances, u_mo_symbolOf, u_mo_xs, u_mo_ys, u_mo_differs, u_mo_ways, u_mo_ordered, u_mo_page, .int mo_told, .int mo_keeps, u_mo_toldBytes, .ref h_mo_out, u_mo_counts, u_mo_lengths, u_mo_codes, u_mo_weight, u_mo_over, u_mo_used, u_mo_row, u_mo_came, u_mo_in, u_mo_at, u_mo_refused, u_mo_place, u_mo_readMany, u_mo_readSymbol, u_mo_readX, u_mo_readY, u_mo_readDiffers, u_mo_readWays])), (h_mo_out, .inl (c_mo_out, 2000, .inl mo_out))] sz) := by
  refine Met.ofW (cc := b_Mo_signed) (maxL := 2) (ret := none) (by decide) rfl ?_
  intro p e s m args below meth c s₁ B hml hv
  obtain ⟨rfl, hsz, hP, hK, hD0, hnw⟩ := hv
  have hx := B.exec
  have hb := B.bytes
  have hr := B.returns
  have hts := atoms_spec (ws := ws_Mo_signed) B.pre
  have hB : ∀ w ∈ BIG, w.before _ s = true := fun w h => hts w (List.mem_cons_of_mem _ h)
  have hown : s.vm.findClass R_Mo = some m.cls := findClass_of_methodNamed B.named
  have hlocks := B.notSynchronized
  subst hsz
  have hD := hD0.self (sz := s.heap.size)
  refine W_Q (fun Q9 eQ => ?_)
  generalize hAe : va_A [(h_mo, .inr (1, [u_mo_thrown, u_mo_width, u_mo_height, u_mo_kind, u_mo_symbols, u_mo_wide, u_mo_high, u_mo_dark, u_mo_instances, u_mo_symbolOf, u_mo_xs, u_mo_ys, u_mo_differs, u_mo_ways, u_mo_ordered, u_mo_page, .int mo_told, .int mo_keeps, u_mo_toldBytes, .ref h_mo_out, u_mo_counts, u_mo_lengths, u_mo_codes, u_mo_weight, u_mo_over, u_mo_used, u_mo_row, u_mo_came, u_mo_in, u_mo_at, u_mo_refused, u_mo_place, u_mo_readMany, u_mo_readSymbol, u_mo_readX, u_mo_readY, u_mo_readDiffers, u_mo_readWays])), (h_mo_out, .inl (c_mo_out, 2000, .inl mo_out))] s.heap.size = A at hD eQ
  have hA : ∀ q : Nat, s.heap.size ≤ q → A q := fun q h => by rw [← hAe]; exact Or.inr h
  have hS : va_S A s.heap s.heap [] := va_S.rf
  have hl := lv_entry ([.ref h_mo, .int p0]) (n := 2) (Nat.le_of_ble_eq_true rfl)
  rw [lg_entry_eq]
  generalize (lg_sl ([.ref h_mo, .int p0]) ++ List.replicate (2 - (lg_sl ([.ref h_mo, .int p0])).length) Slot.unset).toArray = ls at hl ⊢
  have hl : lv_has ls 2 [(0, .ref h_mo), (1, .int p0)] := hl
  have h := hf
  unfold f_Mo_signed at h
  refine lv_aload_n hx hb d_Mo_signed_0 rfl (lv_at hl 0 rfl) ?_
  refine lv_iload_n hx hb d_Mo_signed_1 rfl (lv_at hl 1 rfl) ?_
  obtain ⟨j17, e_j17, h⟩ := jn_e h
  have w_j17 : ∀ (s_1 : Int32) (H : Heap) (locs : List Loc) (ls : Array Slot), j17 s_1 = some o → va_P (dC, dI) CL [(h_mo, .inr (1, [u_mo_thrown, u_mo_width, u_mo_height, u_mo_kind, u_mo_symbols, u_mo_wide, u_mo_high, u_mo_dark, u_mo_instances, u_mo_symbolOf, u_mo_xs, u_mo_ys, u_mo_differs, u_mo_ways, u_mo_ordered, u_mo_page, .int mo_told, .int mo_keeps, u_mo_toldBytes, .ref h_mo_out, u_mo_counts, u_mo_lengths, u_mo_codes, u_mo_weight, u_mo_over, u_mo_used, u_mo_row, u_mo_came, u_mo_in, u_mo_at, u_mo_refused, u_mo_place, u_mo_readMany, u_mo_readSymbol, u_mo_readX, u_mo_readY, u_mo_readDiffers, u_mo_readWays])), (h_mo_out, .inl (c_mo_out, 2000, .inl mo_out))] H → va_D A [(h_mo, .inr (1, [u_mo_thrown, u_mo_width, u_mo_height, u_mo_kind, u_mo_symbols, u_mo_wide, u_mo_high, u_mo_dark, u_mo_instances, u_mo_symbolOf, u_mo_xs, u_mo_ys, u_mo_differs, u_mo_ways, u_mo_ordered, u_mo_page, .int mo_told, .int mo_keeps, u_mo_toldBytes, .ref h_mo_out, u_mo_counts, u_mo_lengths, u_mo_codes, u_mo_weight, u_mo_over, u_mo_used, u_mo_row, u_mo_came, u_mo_in, u_mo_at, u_mo_refused, u_mo_place, u_mo_readMany, u_mo_readSymbol, u_mo_readX, u_mo_readY, u_mo_readDiffers, u_mo_readWays])), (h_mo_out, .inl (c_mo_out, 2000, .inl mo_out))] → va_S A s.heap H locs → lv_has ls 2 [] → W p l e ({ frames := 3, cells := 0, slots := 0, locals := 66 } : Room) s m ([.ref h_mo, .int p0] : List Value).toArray below meth c H locs 0 0 Q9 (F0 m 17 ls [.int s_1, .ref h_mo]) := by
    intro s_1 H locs ls h hP hD hS hl
    rw [e_j17] at h
    obtain ⟨o9, hc9, h⟩ := bd_e h
    have hPc := hP.sub (ws' := [(h_mo, .inr (1, [u_mo_thrown, u_mo_width, u_mo_height, u_mo_kind, u_mo_symbols, u_mo_wide, u_mo_high, u_mo_dark, u_mo_instances, u_mo_symbolOf, u_mo_xs, u_mo_ys, u_mo_differs, u_mo_ways, u_mo_ordered, u_mo_page, .int mo_told, .int mo_keeps, u_mo_toldBytes, .ref h_mo_out, u_mo_counts, u_mo_lengths, u_mo_codes, u_mo_weight, u_mo_over, u_mo_used, u_mo_row, u_mo_came, u_mo_in, u_mo_at, u_mo_refused, u_mo_place, u_mo_readMany, u_mo_readSymbol, u_mo_readX, u_mo_readY, u_mo_readDiffers, u_mo_readWays])), (h_mo_out, .inl (c_mo_out, 2000, .inl mo_out))]) [0, 1] rfl
    have hKc := hK.sub (tys' := [(c_mo_out, .int)]) [0] rfl
    have hDc := hD.sub (ws' := [(h_mo, .inr (1, [u_mo_thrown, u_mo_width, u_mo_height, u_mo_kind, u_mo_symbols, u_mo_wide, u_mo_high, u_mo_dark, u_mo_instances, u_mo_symbolOf, u_mo_xs, u_mo_ys, u_mo_differs, u_mo_ways, u_mo_ordered, u_mo_page, .int mo_told, .int mo_keeps, u_mo_toldBytes, .ref h_mo_out, u_mo_counts, u_mo_lengths, u_mo_codes, u_mo_weight, u_mo_over, u_mo_used, u_mo_row, u_mo_came, u_mo_in, u_mo_at, u_mo_refused, u_mo_place, u_mo_readMany, u_mo_readSymbol, u_mo_readX, u_mo_readY, u_mo_readDiffers, u_mo_readWays])), (h_mo_out, .inl (c_mo_out, 2000, .inl mo_out))]) [0, 1] (by decide) rfl
    have hFc := va_free (wc := [(h_mo, .inr (1, [u_mo_thrown, u_mo_width, u_mo_height, u_mo_kind, u_mo_symbols, u_mo_wide, u_mo_high, u_mo_dark, u_mo_instances, u_mo_symbolOf, u_mo_xs, u_mo_ys, u_mo_differs, u_mo_ways, u_mo_ordered, u_mo_page, .int mo_told, .int mo_keeps, u_mo_toldBytes, .ref h_mo_out, u_mo_counts, u_mo_lengths, u_mo_codes, u_mo_weight, u_mo_over, u_mo_used, u_mo_row, u_mo_came, u_mo_in, u_mo_at, u_mo_refused, u_mo_place, u_mo_readMany, u_mo_readSymbol, u_mo_readX, u_mo_readY, u_mo_readDiffers, u_mo_readWays])), (h_mo_out, .inl (c_mo_out, 2000, .inl mo_out))]) hD hS hA [0, 1] rfl
    refine va_callv (va_runV (As := [.int s_1]) (rest := []) ⟨hx, hb, hml, hown, hB⟩ (c_Mo_number l dC dI h_mo h_mo_out c_mo_out u_mo_thrown u_mo_width u_mo_height u_mo_kind u_mo_symbols u_mo_wide u_mo_high u_mo_dark u_mo_instances u_mo_symbolOf u_mo_xs u_mo_ys u_mo_differs u_mo_ways u_mo_ordered u_mo_page u_mo_toldBytes u_mo_counts u_mo_lengths u_mo_codes u_mo_weight u_mo_over u_mo_used u_mo_row u_mo_came u_mo_in u_mo_at u_mo_refused u_mo_place u_mo_readMany u_mo_readSymbol u_mo_readX u_mo_readY u_mo_readDiffers u_mo_readWays mo_told mo_keeps mo_out s_1 _ o9 hc9) (cwV 1 hB (goodA (m4 bw_1064 bw_1066 bs_64 bw_13) (goodB bw_1067)) rfl rfl rfl (by decide +kernel) ⟨Nat.le_of_ble_eq_true rfl, Nat.le_of_ble_eq_true rfl⟩) ⟨fb_m, va_recv hK hP (ci := 1) (q0 := 0) rfl rfl, (pre_m hPc hKc hDc hnw [.ref h_mo, .int s_1])⟩ rfl rfl hl.1 rfl (lv_room (Nat.le_of_ble_eq_true rfl)) d_Mo_signed_17 ⟨Nat.zero_le _, Nat.zero_le _⟩) hS (fun q _ h => hFc q h) hFc (fun u9 t H1 locs ht hvm hw hB hz1 hk1 hS => ?_)
    obtain ⟨mo_told_2, mo_out_3⟩ := u9
    subst hw
    obtain ⟨hP1, hK1, hD1⟩ := hB
    rw [ht] at hP1
    obtain ⟨hP, hD⟩ := va_join (wr := []) (w1 := [(h_mo, .inr (1, [u_mo_thrown, u_mo_width, u_mo_height, u_mo_kind, u_mo_symbols, u_mo_wide, u_mo_high, u_mo_dark, u_mo_instances, u_mo_symbolOf, u_mo_xs, u_mo_ys, u_mo_differs, u_mo_ways, u_mo_ordered, u_mo_page, .int mo_told_2, .int mo_keeps, u_mo_toldBytes, .ref h_mo_out, u_mo_counts, u_mo_lengths, u_mo_codes, u_mo_weight, u_mo_over, u_mo_used, u_mo_row, u_mo_came, u_mo_in, u_mo_at, u_mo_refused, u_mo_place, u_mo_readMany, u_mo_readSymbol, u_mo_readX, u_mo_readY, u_mo_readDiffers, u_mo_readWays])), (h_mo_out, .inl (c_mo_out, 2000, .inl mo_out_3))]) hP hD [0, 1] [] rfl rfl (by decide) (by decide) hk1 hFc hP1 hD1
    have hP := hP.sub (ws' := [(h_mo, .inr (1, [u_mo_thrown, u_mo_width, u_mo_height, u_mo_kind, u_mo_symbols, u_mo_wide, u_mo_high, u_mo_dark, u_mo_instances, u_mo_symbolOf, u_mo_xs, u_mo_ys, u_mo_differs, u_mo_ways, u_mo_ordered, u_mo_page, .int mo_told_2, .int mo_keeps, u_mo_toldBytes, .ref h_mo_out, u_mo_counts, u_mo_lengths, u_mo_codes, u_mo_weight, u_mo_over, u_mo_used, u_mo_row, u_mo_came, u_mo_in, u_mo_at, u_mo_refused, u_mo_place, u_mo_readMany, u_mo_readSymbol, u_mo_readX, u_mo_readY, u_mo_readDiffers, u_mo_readWays])), (h_mo_out, .inl (c_mo_out, 2000, .inl mo_out_3))]) [0, 1] rfl
    have hD := hD.sub (ws' := [(h_mo, .inr (1, [u_mo_thrown, u_mo_width, u_mo_height, u_mo_kind, u_mo_symbols, u_mo_wide, u_mo_high, u_mo_dark, u_mo_instances, u_mo_symbolOf, u_mo_xs, u_mo_ys, u_mo_differs, u_mo_ways, u_mo_ordered, u_mo_page, .int mo_told_2, .int mo_keeps, u_mo_toldBytes, .ref h_mo_out, u_mo_counts, u_mo_lengths, u_mo_codes, u_mo_weight, u_mo_over, u_mo_used, u_mo_row, u_mo_came, u_mo_in, u_mo_at, u_mo_refused, u_mo_place, u_mo_readMany, u_mo_readSymbol, u_mo_readX, u_mo_readY, u_mo_readDiffers, u_mo_readWays])), (h_mo_out, .inl (c_mo_out, 2000, .inl mo_out_3))]) [0, 1] (by decide) rfl
    clear hPc hKc hDc hFc hc9 hP1 hK1 hD1 hk1 hz1 hvm ht
    generalize H1 = H at hP hS ⊢
    try dsimp only at h
    subst eQ
    exact W.vret hx hb hr (fun t ht hW => ⟨⟨(mo_told_2, mo_out_3), rfl, Option.some.inj h, by rw [ht]; exact hP, va_K.moved hW.alike hK, hD⟩, hS.F ht⟩) hS.2.2 d_Mo_signed_20
  refine lv_if_lt (tgt := 11) hx hb d_Mo_signed_2 (by decide) (fun c_1 => ?_) (fun c_1 => ?_)
  · have h := if_t h c_1
    refine lv_bipush (v := -2) hx hb d_Mo_signed_11 (by decide) ?_
    refine lv_iload_n hx hb d_Mo_signed_13 rfl (lv_at hl 1 rfl) ?_
    refine lv_imul hx hb d_Mo_signed_14 ?_
    refine lv_iconst (v := 1) hx hb d_Mo_signed_15 (by decide) ?_
    refine lv_isub hx hb d_Mo_signed_16 ?_
    exact w_j17 _ _ _ _ h hP hD hS (lv_sub hl [] rfl)
  · have h := if_f h c_1
    refine lv_iconst (v := 2) hx hb d_Mo_signed_5 (by decide) ?_
    refine lv_iload_n hx hb d_Mo_signed_6 rfl (lv_at hl 1 rfl) ?_
    refine lv_imul hx hb d_Mo_signed_7 ?_
    refine lv_goto (tgt := 17) hx hb d_Mo_signed_8 (by decide) ?_
    exact w_j17 _ _ _ _ h hP hD hS (lv_sub hl [] rfl)
set_option maxHeartbeats 4000000 in
set_option maxRecDepth 100000 in
theorem c_Mo_beginRow (l : Launch) (dC : Nat → ClassId) (dI : Nat → Nat → Nat) (h_mo : Nat) (h_mo_row : Nat) (c_mo_row : ClassId) (u_mo_thrown : Value) (u_mo_width : Value) (u_mo_height : Value) (u_mo_kind : Value) (u_mo_symbols : Value) (u_mo_wide : Value) (u_mo_high : Value) (u_mo_dark : Value) (u_mo_instances : Value) (u_mo_symbolOf : Value) (u_mo_xs : Value) (u_mo_ys : Value) (u_mo_differs : Value) (u_mo_ways : Value) (u_mo_ordered : Value) (u_mo_page : Value) (u_mo_told : Value) (u_mo_keeps : Value) (u_mo_toldBytes : Value) (u_mo_out : Value) (u_mo_counts : Value) (u_mo_lengths : Value) (u_mo_codes : Value) (u_mo_weight : Value) (u_mo_over : Value) (u_mo_used : Value) (u_mo_came : Value) (u_mo_in : Value) (u_mo_at : Value) (u_mo_refused : Value) (u_mo_place : Value) (u_mo_readMany : Value) (u_mo_readSymbol : Value) (u_mo_readX : Value) (u_mo_readY : Value) (u_mo_readDiffers : Value) (u_mo_readWays : Value) (mo_row : (Nat → Int32)) (sz : Nat) (o : (Nat → Int32)) (hf : f_Mo_beginRow mo_row = some o) :
    Met l y_Mo_beginRow ws_Mo_beginRow { frames := 0, cells := 0, slots := 0, locals := 0 } (va_Pc [.ref h_mo] (PcM (dC, dI) [(h_mo, .inr (1, [u_mo_thrown, u_mo_width, u_mo_height, u_mo_kind, u_mo_symbols, u_mo_wide, u_mo_high, u_mo_dark, u_mo_instances, u_mo_symbolOf, u_mo_xs, u_mo_ys, u_mo_differs, u_mo_ways, u_mo_ordered, u_mo_page, u_mo_told, u_mo_keeps, u_mo_toldBytes, u_mo_out, u_mo_counts, u_mo_lengths, u_mo_codes, u_mo_weight, u_mo_over, u_mo_used, .ref h_mo_row, u_mo_came, u_mo_in, u_mo_at, u_mo_refused, u_mo_place, u_mo_readMany, u_mo_readSymbol, u_mo_readX, u_mo_readY, u_mo_readDiffers, u_mo_readWays])), (h_mo_row, .inl (c_mo_row, 16, .inl mo_row))] [(c_mo_row, .int)] sz))
      (va_Qv (fun u : (Nat → Int32) => u = o) (fun u t => va_P (dC, dI) CL [(h_mo, .inr (1, [u_mo_thrown, u_mo_width, u_mo_height, u_mo_kind, u_mo_symbols, u_mo_wide, u_mo_high, u_mo_dark, u_mo_instances, u_mo_symbolOf, u_mo_xs, u_mo_ys, u_mo_differs, u_mo_ways, u_mo_ordered, u_mo_page, u_mo_told, u_mo_keeps, u_mo_toldBytes, u_mo_out, u_mo_counts, u_mo_lengths, u_mo_codes, u_mo_weight, u_mo_over, u_mo_used, .ref h_mo_row, u_mo_came, u_mo_in, u_mo_at, u_mo_refused, u_mo_place, u_mo_readMany, u_mo_readSymbol, u_mo_readX, u_mo_readY, u_mo_readDiffers, u_mo_readWays])), (h_mo_row, .inl (c_mo_row, 16, .inl u))] t.heap ∧ va_K (dC, dI) CL [(c_mo_row, .int)] t ∧ va_D (va_A [(h_mo, .inr (1, [u_mo_thrown, u_mo_width, u_mo_height, u_mo_kind, u_mo_symbols, u_mo_wide, u_mo_high, u_mo_dark, u_mo_instances, u_mo_symbolOf, u_mo_xs, u_mo_ys, u_mo_differs, u_mo_ways, u_mo_ordered, u_mo_page, u_mo_told, u_mo_keeps, u_mo_toldBytes, u_mo_out, u_mo_counts, u_mo_lengths, u_mo_codes, u_mo_weight, u_mo_over, u_mo_used, .ref h_mo_row, u_mo_came, u_mo_in, u_mo_at, u_mo_refused, u_mo_place, u_mo_readMany, u_mo_readSymbol, u_mo_readX, u_mo_readY, u_mo_readDiffers, u_mo_readWays])), (h_mo_row, .inl (c_mo_row, 16, .inl mo_row))] sz) [(h_mo, .inr (1, [u_mo_thrown, u_mo_width, u_mo_height, u_mo_kind, u_mo_symbols, u_mo_wide, u_mo_high, u_mo_dark, u_mo_instances, u_mo_symbolOf, u_mo_xs, u_mo_ys, u_mo_differs, u_mo_ways, u_mo_ordered, u_mo_page, u_mo_told, u_mo_keeps, u_mo_toldBytes, u_mo_out, u_mo_counts, u_mo_lengths, u_mo_codes, u_mo_weight, u_mo_over, u_mo_used, .ref h_mo_row, u_mo_came, u_mo_in, u_mo_at, u_mo_refused, u_mo_place, u_mo_readMany, u_mo_readSymbol, u_mo_readX, u_mo_readY, u_mo_readDiffers, u_mo_readWays])), (h_mo_row, .inl (c_mo_row, 16, .inl u))]) (va_A [(h_mo, .inr (1, [u_mo_thrown, u_mo_width, u_mo_height, u_mo_kind, u_mo_symbols, u_mo_wide, u_mo_high, u_mo_dark, u_mo_instances, u_mo_symbolOf, u_mo_xs, u_mo_ys, u_mo_differs, u_mo_ways, u_mo_ordered, u_mo_page, u_mo_told, u_mo_keeps, u_mo_toldBytes, u_mo_out, u_mo_counts, u_mo_lengths, u_mo_codes, u_mo_weight, u_mo_over, u_mo_used, .ref h_mo_row, u_mo_came, u_mo_in, u_mo_at, u_mo_refused, u_mo_place, u_mo_readMany, u_mo_readSymbol, u_mo_readX, u_mo_readY, u_mo_readDiffers, u_mo_readWays])), (h_mo_row, .inl (c_mo_row, 16, .inl mo_row))] sz)) 0 0 (va_A [(h_mo, .inr (1, [u_mo_thrown, u_mo_width, u_mo_height, u_mo_kind, u_mo_symbols, u_mo_wide, u_mo_high, u_mo_dark, u_mo_instances, u_mo_symbolOf, u_mo_xs, u_mo_ys, u_mo_differs, u_mo_ways, u_mo_ordered, u_mo_page, u_mo_told, u_mo_keeps, u_mo_toldBytes, u_mo_out, u_mo_counts, u_mo_lengths, u_mo_codes, u_mo_weight, u_mo_over, u_mo_used, .ref h_mo_row, u_mo_came, u_mo_in, u_mo_at, u_mo_refused, u_mo_place, u_mo_readMany, u_mo_readSymbol, u_mo_readX, u_mo_readY, u_mo_readDiffers, u_mo_readWays])), (h_mo_row, .inl (c_mo_row, 16, .inl mo_row))] sz) := by
  refine Met.ofW (cc := b_Mo_beginRow) (maxL := 2) (ret := none) (by decide) rfl ?_
  intro p e s m args below meth c s₁ B hml hv
  obtain ⟨rfl, hsz, hP, hK, hD0, hnw⟩ := hv
  have hx := B.exec
  have hb := B.bytes
  have hr := B.returns
  have hts := atoms_spec (ws := ws_Mo_beginRow) B.pre
  have hB : ∀ w ∈ BIG, w.before _ s = true := fun w h => hts w (List.mem_cons_of_mem _ h)
  have hown : s.vm.findClass R_Mo = some m.cls := findClass_of_methodNamed B.named
  have hlocks := B.notSynchronized
  subst hsz
  have hD := hD0.self (sz := s.heap.size)
  refine W_Q (fun Q9 eQ => ?_)
  generalize hAe : va_A [(h_mo, .inr (1, [u_mo_thrown, u_mo_width, u_mo_height, u_mo_kind, u_mo_symbols, u_mo_wide, u_mo_high, u_mo_dark, u_mo_instances, u_mo_symbolOf, u_mo_xs, u_mo_ys, u_mo_differs, u_mo_ways, u_mo_ordered, u_mo_page, u_mo_told, u_mo_keeps, u_mo_toldBytes, u_mo_out, u_mo_counts, u_mo_lengths, u_mo_codes, u_mo_weight, u_mo_over, u_mo_used, .ref h_mo_row, u_mo_came, u_mo_in, u_mo_at, u_mo_refused, u_mo_place, u_mo_readMany, u_mo_readSymbol, u_mo_readX, u_mo_readY, u_mo_readDiffers, u_mo_readWays])), (h_mo_row, .inl (c_mo_row, 16, .inl mo_row))] s.heap.size = A at hD eQ
  have hA : ∀ q : Nat, s.heap.size ≤ q → A q := fun q h => by rw [← hAe]; exact Or.inr h
  have hS : va_S A s.heap s.heap [] := va_S.rf
  have hl := lv_entry ([.ref h_mo]) (n := 2) (Nat.le_of_ble_eq_true rfl)
  rw [lg_entry_eq]
  generalize (lg_sl ([.ref h_mo]) ++ List.replicate (2 - (lg_sl ([.ref h_mo])).length) Slot.unset).toArray = ls at hl ⊢
  have hl : lv_has ls 2 [(0, .ref h_mo)] := hl
  have h := hf
  unfold f_Mo_beginRow at h
  refine lv_iconst (v := 0) hx hb d_Mo_beginRow_0 (by decide) ?_
  refine lv_istore_n (lv' := [(1, .int (0 : Int32)), (0, .ref h_mo)]) hx hb d_Mo_beginRow_1 rfl hl (by decide) rfl (fun ls hl => ?_)
  have w_self2 : ∀ n9 : Nat, ∀ (v1_1 : Int32) (mo_row_2 : (Nat → Int32)) (H : Heap) (locs : List Loc) (ls : Array Slot), lp (f_Mo_beginRow_L2) n9 (v1_1, mo_row_2) = some o → va_P (dC, dI) CL [(h_mo, .inr (1, [u_mo_thrown, u_mo_width, u_mo_height, u_mo_kind, u_mo_symbols, u_mo_wide, u_mo_high, u_mo_dark, u_mo_instances, u_mo_symbolOf, u_mo_xs, u_mo_ys, u_mo_differs, u_mo_ways, u_mo_ordered, u_mo_page, u_mo_told, u_mo_keeps, u_mo_toldBytes, u_mo_out, u_mo_counts, u_mo_lengths, u_mo_codes, u_mo_weight, u_mo_over, u_mo_used, .ref h_mo_row, u_mo_came, u_mo_in, u_mo_at, u_mo_refused, u_mo_place, u_mo_readMany, u_mo_readSymbol, u_mo_readX, u_mo_readY, u_mo_readDiffers, u_mo_readWays])), (h_mo_row, .inl (c_mo_row, 16, .inl mo_row_2))] H → va_D A [(h_mo, .inr (1, [u_mo_thrown, u_mo_width, u_mo_height, u_mo_kind, u_mo_symbols, u_mo_wide, u_mo_high, u_mo_dark, u_mo_instances, u_mo_symbolOf, u_mo_xs, u_mo_ys, u_mo_differs, u_mo_ways, u_mo_ordered, u_mo_page, u_mo_told, u_mo_keeps, u_mo_toldBytes, u_mo_out, u_mo_counts, u_mo_lengths, u_mo_codes, u_mo_weight, u_mo_over, u_mo_used, .ref h_mo_row, u_mo_came, u_mo_in, u_mo_at, u_mo_refused, u_mo_place, u_mo_readMany, u_mo_readSymbol, u_mo_readX, u_mo_readY, u_mo_readDiffers, u_mo_readWays])), (h_mo_row, .inl (c_mo_row, 16, .inl mo_row_2))] → va_S A s.heap H locs → lv_has ls 2 [(1, .int v1_1), (0, .ref h_mo)] → W p l e ({ frames := 0, cells := 0, slots := 0, locals := 0 } : Room) s m ([.ref h_mo] : List Value).toArray below meth c H locs 0 0 Q9 (F0 m 2 ls []) := by
    intro n9
    induction n9 with
    | zero =>
      intro v1_1 mo_row_2 H locs ls h hP hD hS hl
      exact absurd h (by simp [lp])
    | succ n9 ih_self2 =>
      intro v1_1 mo_row_2 H locs ls h hP hD hS hl
      obtain ⟨self2, e_self2, h⟩ := abs_k (P := fun z9 => f_Mo_beginRow_L2 z9 (v1_1, mo_row_2) = some o) (lp_e h)
      rw [← e_self2] at ih_self2
      unfold f_Mo_beginRow_L2 at h
      try dsimp only at h
      refine lv_iload_n hx hb d_Mo_beginRow_2 rfl (lv_at hl 0 rfl) ?_
      refine lv_bipush (v := 16) hx hb d_Mo_beginRow_3 (by decide) ?_
      refine lv_icmp_ge (tgt := 21) hx hb d_Mo_beginRow_5 (by decide) (fun c_1 => ?_) (fun c_1 => ?_)
      · have h := if_t h c_1
        subst eQ
        exact W.vret hx hb hr (fun t ht hW => ⟨⟨mo_row_2, rfl, Option.some.inj h, by rw [ht]; exact hP, va_K.moved hW.alike hK, hD⟩, hS.F ht⟩) hS.2.2 d_Mo_beginRow_21
      · have h := if_f h c_1
        refine lv_aload_n hx hb d_Mo_beginRow_8 rfl (lv_at hl 1 rfl) ?_
        refine va_get (D := (dC, dI)) (ci := 1) (v := .ref h_mo_row) (C := R_Mo) (T := T_Mo) (N := 38) hx hb hB iw_Mo hown hK hP 0 rfl rfl 26 (by decide) (hB _ bw_899) (fun _ h9 => h9) rfl d_Mo_beginRow_9 ?_
        refine lv_iload_n hx hb d_Mo_beginRow_12 rfl (lv_at hl 0 rfl) ?_
        refine lv_iload_n hx hb d_Mo_beginRow_13 rfl (lv_at hl 0 rfl) ?_
        obtain ⟨hin, h⟩ := gq_e h
        refine va_iast hx hb hK hP hD hS 1 0 rfl rfl hin d_Mo_beginRow_14 (fun H locs hP hD hS => ?_)
        have hP : va_P (dC, dI) CL [(h_mo, .inr (1, [u_mo_thrown, u_mo_width, u_mo_height, u_mo_kind, u_mo_symbols, u_mo_wide, u_mo_high, u_mo_dark, u_mo_instances, u_mo_symbolOf, u_mo_xs, u_mo_ys, u_mo_differs, u_mo_ways, u_mo_ordered, u_mo_page, u_mo_told, u_mo_keeps, u_mo_toldBytes, u_mo_out, u_mo_counts, u_mo_lengths, u_mo_codes, u_mo_weight, u_mo_over, u_mo_used, .ref h_mo_row, u_mo_came, u_mo_in, u_mo_at, u_mo_refused, u_mo_place, u_mo_readMany, u_mo_readSymbol, u_mo_readX, u_mo_readY, u_mo_readDiffers, u_mo_readWays])), (h_mo_row, .inl (c_mo_row, 16, .inl (upd mo_row_2 (v1_1).toNatClampNeg v1_1)))] H := hP
        have hD : va_D A [(h_mo, .inr (1, [u_mo_thrown, u_mo_width, u_mo_height, u_mo_kind, u_mo_symbols, u_mo_wide, u_mo_high, u_mo_dark, u_mo_instances, u_mo_symbolOf, u_mo_xs, u_mo_ys, u_mo_differs, u_mo_ways, u_mo_ordered, u_mo_page, u_mo_told, u_mo_keeps, u_mo_toldBytes, u_mo_out, u_mo_counts, u_mo_lengths, u_mo_codes, u_mo_weight, u_mo_over, u_mo_used, .ref h_mo_row, u_mo_came, u_mo_in, u_mo_at, u_mo_refused, u_mo_place, u_mo_readMany, u_mo_readSymbol, u_mo_readX, u_mo_readY, u_mo_readDiffers, u_mo_readWays])), (h_mo_row, .inl (c_mo_row, 16, .inl (upd mo_row_2 (v1_1).toNatClampNeg v1_1)))] := hD
        obtain ⟨v1_3, e_v1_3⟩ : ∃ y9 : Int32, y9 = (v1_1 + (1 : Int32)) := ⟨_, rfl⟩
        have h := nl_u e_v1_3 h
        refine lv_iinc (v := v1_3) (lv' := [(1, .int v1_3), (0, .ref h_mo)]) hx hb d_Mo_beginRow_15 hl (k := 0) rfl (by rw [e_v1_3]; rfl) (by decide) rfl (fun ls hl => ?_)
        refine lv_goto (tgt := 2) hx hb d_Mo_beginRow_18 (by decide) ?_
        exact ih_self2 _ _ _ _ _ h hP hD hS hl
  exact w_self2 FU _ _ _ _ _ h hP hD hS hl
set_option maxHeartbeats 4000000 in
set_option maxRecDepth 100000 in
theorem c_Mo_toFront (l : Launch) (dC : Nat → ClassId) (dI : Nat → Nat → Nat) (h_mo : Nat) (h_mo_row : Nat) (c_mo_row : ClassId) (u_mo_thrown : Value) (u_mo_width : Value) (u_mo_height : Value) (u_mo_kind : Value) (u_mo_symbols : Value) (u_mo_wide : Value) (u_mo_high : Value) (u_mo_dark : Value) (u_mo_instances : Value) (u_mo_symbolOf : Value) (u_mo_xs : Value) (u_mo_ys : Value) (u_mo_differs : Value) (u_mo_ways : Value) (u_mo_ordered : Value) (u_mo_page : Value) (u_mo_told : Value) (u_mo_keeps : Value) (u_mo_toldBytes : Value) (u_mo_out : Value) (u_mo_counts : Value) (u_mo_lengths : Value) (u_mo_codes : Value) (u_mo_weight : Value) (u_mo_over : Value) (u_mo_used : Value) (u_mo_came : Value) (u_mo_in : Value) (u_mo_at : Value) (u_mo_refused : Value) (u_mo_place : Value) (u_mo_readMany : Value) (u_mo_readSymbol : Value) (u_mo_readX : Value) (u_mo_readY : Value) (u_mo_readDiffers : Value) (u_mo_readWays : Value) (mo_row : (Nat → Int32)) (p0 : Int32) (sz : Nat) (o : (Nat → Int32)) (hf : f_Mo_toFront mo_row p0 = some o) :
    Met l y_Mo_toFront ws_Mo_toFront { frames := 0, cells := 0, slots := 0, locals := 0 } (va_Pc [.ref h_mo, .int p0] (PcM (dC, dI) [(h_mo, .inr (1, [u_mo_thrown, u_mo_width, u_mo_height, u_mo_kind, u_mo_symbols, u_mo_wide, u_mo_high, u_mo_dark, u_mo_instances, u_mo_symbolOf, u_mo_xs, u_mo_ys, u_mo_differs, u_mo_ways, u_mo_ordered, u_mo_page, u_mo_told, u_mo_keeps, u_mo_toldBytes, u_mo_out, u_mo_counts, u_mo_lengths, u_mo_codes, u_mo_weight, u_mo_over, u_mo_used, .ref h_mo_row, u_mo_came, u_mo_in, u_mo_at, u_mo_refused, u_mo_place, u_mo_readMany, u_mo_readSymbol, u_mo_readX, u_mo_readY, u_mo_readDiffers, u_mo_readWays])), (h_mo_row, .inl (c_mo_row, 16, .inl mo_row))] [(c_mo_row, .int)] sz))
      (va_Qv (fun u : (Nat → Int32) => u = o) (fun u t => va_P (dC, dI) CL [(h_mo, .inr (1, [u_mo_thrown, u_mo_width, u_mo_height, u_mo_kind, u_mo_symbols, u_mo_wide, u_mo_high, u_mo_dark, u_mo_instances, u_mo_symbolOf, u_mo_xs, u_mo_ys, u_mo_differs, u_mo_ways, u_mo_ordered, u_mo_page, u_mo_told, u_mo_keeps, u_mo_toldBytes, u_mo_out, u_mo_counts, u_mo_lengths, u_mo_codes, u_mo_weight, u_mo_over, u_mo_used, .ref h_mo_row, u_mo_came, u_mo_in, u_mo_at, u_mo_refused, u_mo_place, u_mo_readMany, u_mo_readSymbol, u_mo_readX, u_mo_readY, u_mo_readDiffers, u_mo_readWays])), (h_mo_row, .inl (c_mo_row, 16, .inl u))] t.heap ∧ va_K (dC, dI) CL [(c_mo_row, .int)] t ∧ va_D (va_A [(h_mo, .inr (1, [u_mo_thrown, u_mo_width, u_mo_height, u_mo_kind, u_mo_symbols, u_mo_wide, u_mo_high, u_mo_dark, u_mo_instances, u_mo_symbolOf, u_mo_xs, u_mo_ys, u_mo_differs, u_mo_ways, u_mo_ordered, u_mo_page, u_mo_told, u_mo_keeps, u_mo_toldBytes, u_mo_out, u_mo_counts, u_mo_lengths, u_mo_codes, u_mo_weight, u_mo_over, u_mo_used, .ref h_mo_row, u_mo_came, u_mo_in, u_mo_at, u_mo_refused, u_mo_place, u_mo_readMany, u_mo_readSymbol, u_mo_readX, u_mo_readY, u_mo_readDiffers, u_mo_readWays])), (h_mo_row, .inl (c_mo_row, 16, .inl mo_row))] sz) [(h_mo, .inr (1, [u_mo_thrown, u_mo_width, u_mo_height, u_mo_kind, u_mo_symbols, u_mo_wide, u_mo_high, u_mo_dark, u_mo_instances, u_mo_symbolOf, u_mo_xs, u_mo_ys, u_mo_differs, u_mo_ways, u_mo_ordered, u_mo_page, u_mo_told, u_mo_keeps, u_mo_toldBytes, u_mo_out, u_mo_counts, u_mo_lengths, u_mo_codes, u_mo_weight, u_mo_over, u_mo_used, .ref h_mo_row, u_mo_came, u_mo_in, u_mo_at, u_mo_refused, u_mo_place, u_mo_readMany, u_mo_readSymbol, u_mo_readX, u_mo_readY, u_mo_readDiffers, u_mo_readWays])), (h_mo_row, .inl (c_mo_row, 16, .inl u))]) (va_A [(h_mo, .inr (1, [u_mo_thrown, u_mo_width, u_mo_height, u_mo_kind, u_mo_symbols, u_mo_wide, u_mo_high, u_mo_dark, u_mo_instances, u_mo_symbolOf, u_mo_xs, u_mo_ys, u_mo_differs, u_mo_ways, u_mo_ordered, u_mo_page, u_mo_told, u_mo_keeps, u_mo_toldBytes, u_mo_out, u_mo_counts, u_mo_lengths, u_mo_codes, u_mo_weight, u_mo_over, u_mo_used, .ref h_mo_row, u_mo_came, u_mo_in, u_mo_at, u_mo_refused, u_mo_place, u_mo_readMany, u_mo_readSymbol, u_mo_readX, u_mo_readY, u_mo_readDiffers, u_mo_readWays])), (h_mo_row, .inl (c_mo_row, 16, .inl mo_row))] sz)) 0 0 (va_A [(h_mo, .inr (1, [u_mo_thrown, u_mo_width, u_mo_height, u_mo_kind, u_mo_symbols, u_mo_wide, u_mo_high, u_mo_dark, u_mo_instances, u_mo_symbolOf, u_mo_xs, u_mo_ys, u_mo_differs, u_mo_ways, u_mo_ordered, u_mo_page, u_mo_told, u_mo_keeps, u_mo_toldBytes, u_mo_out, u_mo_counts, u_mo_lengths, u_mo_codes, u_mo_weight, u_mo_over, u_mo_used, .ref h_mo_row, u_mo_came, u_mo_in, u_mo_at, u_mo_refused, u_mo_place, u_mo_readMany, u_mo_readSymbol, u_mo_readX, u_mo_readY, u_mo_readDiffers, u_mo_readWays])), (h_mo_row, .inl (c_mo_row, 16, .inl mo_row))] sz) := by
  refine Met.ofW (cc := b_Mo_toFront) (maxL := 4) (ret := none) (by decide) rfl ?_
  intro p e s m args below meth c s₁ B hml hv
  obtain ⟨rfl, hsz, hP, hK, hD0, hnw⟩ := hv
  have hx := B.exec
  have hb := B.bytes
  have hr := B.returns
  have hts := atoms_spec (ws := ws_Mo_toFront) B.pre
  have hB : ∀ w ∈ BIG, w.before _ s = true := fun w h => hts w (List.mem_cons_of_mem _ h)
  have hown : s.vm.findClass R_Mo = some m.cls := findClass_of_methodNamed B.named
  have hlocks := B.notSynchronized
  subst hsz
  have hD := hD0.self (sz := s.heap.size)
  refine W_Q (fun Q9 eQ => ?_)
  generalize hAe : va_A [(h_mo, .inr (1, [u_mo_thrown, u_mo_width, u_mo_height, u_mo_kind, u_mo_symbols, u_mo_wide, u_mo_high, u_mo_dark, u_mo_instances, u_mo_symbolOf, u_mo_xs, u_mo_ys, u_mo_differs, u_mo_ways, u_mo_ordered, u_mo_page, u_mo_told, u_mo_keeps, u_mo_toldBytes, u_mo_out, u_mo_counts, u_mo_lengths, u_mo_codes, u_mo_weight, u_mo_over, u_mo_used, .ref h_mo_row, u_mo_came, u_mo_in, u_mo_at, u_mo_refused, u_mo_place, u_mo_readMany, u_mo_readSymbol, u_mo_readX, u_mo_readY, u_mo_readDiffers, u_mo_readWays])), (h_mo_row, .inl (c_mo_row, 16, .inl mo_row))] s.heap.size = A at hD eQ
  have hA : ∀ q : Nat, s.heap.size ≤ q → A q := fun q h => by rw [← hAe]; exact Or.inr h
  have hS : va_S A s.heap s.heap [] := va_S.rf
  have hl := lv_entry ([.ref h_mo, .int p0]) (n := 4) (Nat.le_of_ble_eq_true rfl)
  rw [lg_entry_eq]
  generalize (lg_sl ([.ref h_mo, .int p0]) ++ List.replicate (4 - (lg_sl ([.ref h_mo, .int p0])).length) Slot.unset).toArray = ls at hl ⊢
  have hl : lv_has ls 4 [(0, .ref h_mo), (1, .int p0)] := hl
  have h := hf
  unfold f_Mo_toFront at h
  refine lv_aload_n hx hb d_Mo_toFront_0 rfl (lv_at hl 0 rfl) ?_
  refine va_get (D := (dC, dI)) (ci := 1) (v := .ref h_mo_row) (C := R_Mo) (T := T_Mo) (N := 38) hx hb hB iw_Mo hown hK hP 0 rfl rfl 26 (by decide) (hB _ bw_899) (fun _ h9 => h9) rfl d_Mo_toFront_1 ?_
  refine lv_iload_n hx hb d_Mo_toFront_4 rfl (lv_at hl 1 rfl) ?_
  obtain ⟨hin, h⟩ := gq_e h
  refine va_iald hx hb hK hP 1 0 rfl rfl hin d_Mo_toFront_5 ?_
  refine lv_topi (fun v2_1 e_v2_1 => ?_)
  have h := nl_u e_v2_1 h
  refine lv_istore_n (lv' := [(2, .int v2_1), (0, .ref h_mo), (1, .int p0)]) hx hb d_Mo_toFront_6 rfl hl (by decide) rfl (fun ls hl => ?_)
  refine lv_iload_n hx hb d_Mo_toFront_7 rfl (lv_at hl 2 rfl) ?_
  refine lv_istore_n (lv' := [(3, .int p0), (2, .int v2_1), (0, .ref h_mo), (1, .int p0)]) hx hb d_Mo_toFront_8 rfl hl (by decide) rfl (fun ls hl => ?_)
  have w_self9 : ∀ n9 : Nat, ∀ (v3_2 : Int32) (mo_row_3 : (Nat → Int32)) (H : Heap) (locs : List Loc) (ls : Array Slot), lp (f_Mo_toFront_L9 v2_1) n9 (v3_2, mo_row_3) = some o → va_P (dC, dI) CL [(h_mo, .inr (1, [u_mo_thrown, u_mo_width, u_mo_height, u_mo_kind, u_mo_symbols, u_mo_wide, u_mo_high, u_mo_dark, u_mo_instances, u_mo_symbolOf, u_mo_xs, u_mo_ys, u_mo_differs, u_mo_ways, u_mo_ordered, u_mo_page, u_mo_told, u_mo_keeps, u_mo_toldBytes, u_mo_out, u_mo_counts, u_mo_lengths, u_mo_codes, u_mo_weight, u_mo_over, u_mo_used, .ref h_mo_row, u_mo_came, u_mo_in, u_mo_at, u_mo_refused, u_mo_place, u_mo_readMany, u_mo_readSymbol, u_mo_readX, u_mo_readY, u_mo_readDiffers, u_mo_readWays])), (h_mo_row, .inl (c_mo_row, 16, .inl mo_row_3))] H → va_D A [(h_mo, .inr (1, [u_mo_thrown, u_mo_width, u_mo_height, u_mo_kind, u_mo_symbols, u_mo_wide, u_mo_high, u_mo_dark, u_mo_instances, u_mo_symbolOf, u_mo_xs, u_mo_ys, u_mo_differs, u_mo_ways, u_mo_ordered, u_mo_page, u_mo_told, u_mo_keeps, u_mo_toldBytes, u_mo_out, u_mo_counts, u_mo_lengths, u_mo_codes, u_mo_weight, u_mo_over, u_mo_used, .ref h_mo_row, u_mo_came, u_mo_in, u_mo_at, u_mo_refused, u_mo_place, u_mo_readMany, u_mo_readSymbol, u_mo_readX, u_mo_readY, u_mo_readDiffers, u_mo_readWays])), (h_mo_row, .inl (c_mo_row, 16, .inl mo_row_3))] → va_S A s.heap H locs → lv_has ls 4 [(3, .int v3_2), (2, .int v2_1), (0, .ref h_mo)] → W p l e ({ frames := 0, cells := 0, slots := 0, locals := 0 } : Room) s m ([.ref h_mo, .int p0] : List Value).toArray below meth c H locs 0 0 Q9 (F0 m 9 ls []) := by
    intro n9
    induction n9 with
    | zero =>
      intro v3_2 mo_row_3 H locs ls h hP hD hS hl
      exact absurd h (by simp [lp])
    | succ n9 ih_self9 =>
      intro v3_2 mo_row_3 H locs ls h hP hD hS hl
      obtain ⟨self9, e_self9, h⟩ := abs_k (P := fun z9 => f_Mo_toFront_L9 v2_1 z9 (v3_2, mo_row_3) = some o) (lp_e h)
      rw [← e_self9] at ih_self9
      unfold f_Mo_toFront_L9 at h
      try dsimp only at h
      refine lv_iload_n hx hb d_Mo_toFront_9 rfl (lv_at hl 0 rfl) ?_
      refine lv_if_le (tgt := 33) hx hb d_Mo_toFront_10 (by decide) (fun c_1 => ?_) (fun c_1 => ?_)
      · have h := if_t h c_1
        refine lv_aload_n hx hb d_Mo_toFront_33 rfl (lv_at hl 2 rfl) ?_
        refine va_get (D := (dC, dI)) (ci := 1) (v := .ref h_mo_row) (C := R_Mo) (T := T_Mo) (N := 38) hx hb hB iw_Mo hown hK hP 0 rfl rfl 26 (by decide) (hB _ bw_899) (fun _ h9 => h9) rfl d_Mo_toFront_34 ?_
        refine lv_iconst (v := 0) hx hb d_Mo_toFront_37 (by decide) ?_
        refine lv_iload_n hx hb d_Mo_toFront_38 rfl (lv_at hl 1 rfl) ?_
        obtain ⟨hin, h⟩ := gq_e h
        refine va_iast hx hb hK hP hD hS 1 0 rfl rfl hin d_Mo_toFront_39 (fun H locs hP hD hS => ?_)
        have hP : va_P (dC, dI) CL [(h_mo, .inr (1, [u_mo_thrown, u_mo_width, u_mo_height, u_mo_kind, u_mo_symbols, u_mo_wide, u_mo_high, u_mo_dark, u_mo_instances, u_mo_symbolOf, u_mo_xs, u_mo_ys, u_mo_differs, u_mo_ways, u_mo_ordered, u_mo_page, u_mo_told, u_mo_keeps, u_mo_toldBytes, u_mo_out, u_mo_counts, u_mo_lengths, u_mo_codes, u_mo_weight, u_mo_over, u_mo_used, .ref h_mo_row, u_mo_came, u_mo_in, u_mo_at, u_mo_refused, u_mo_place, u_mo_readMany, u_mo_readSymbol, u_mo_readX, u_mo_readY, u_mo_readDiffers, u_mo_readWays])), (h_mo_row, .inl (c_mo_row, 16, .inl (upd mo_row_3 ((0 : Int32)).toNatClampNeg v2_1)))] H := hP
        have hD : va_D A [(h_mo, .inr (1, [u_mo_thrown, u_mo_width, u_mo_height, u_mo_kind, u_mo_symbols, u_mo_wide, u_mo_high, u_mo_dark, u_mo_instances, u_mo_symbolOf, u_mo_xs, u_mo_ys, u_mo_differs, u_mo_ways, u_mo_ordered, u_mo_page, u_mo_told, u_mo_keeps, u_mo_toldBytes, u_mo_out, u_mo_counts, u_mo_lengths, u_mo_codes, u_mo_weight, u_mo_over, u_mo_used, .ref h_mo_row, u_mo_came, u_mo_in, u_mo_at, u_mo_refused, u_mo_place, u_mo_readMany, u_mo_readSymbol, u_mo_readX, u_mo_readY, u_mo_readDiffers, u_mo_readWays])), (h_mo_row, .inl (c_mo_row, 16, .inl (upd mo_row_3 ((0 : Int32)).toNatClampNeg v2_1)))] := hD
        subst eQ
        exact W.vret hx hb hr (fun t ht hW => ⟨⟨(upd mo_row_3 ((0 : Int32)).toNatClampNeg v2_1), rfl, Option.some.inj h, by rw [ht]; exact hP, va_K.moved hW.alike hK, hD⟩, hS.F ht⟩) hS.2.2 d_Mo_toFront_40
      · have h := if_f h c_1
        refine lv_aload_n hx hb d_Mo_toFront_13 rfl (lv_at hl 2 rfl) ?_
        refine va_get (D := (dC, dI)) (ci := 1) (v := .ref h_mo_row) (C := R_Mo) (T := T_Mo) (N := 38) hx hb hB iw_Mo hown hK hP 0 rfl rfl 26 (by decide) (hB _ bw_899) (fun _ h9 => h9) rfl d_Mo_toFront_14 ?_
        refine lv_iload_n hx hb d_Mo_toFront_17 rfl (lv_at hl 0 rfl) ?_
        refine lv_aload_n hx hb d_Mo_toFront_18 rfl (lv_at hl 2 rfl) ?_
        refine va_get (D := (dC, dI)) (ci := 1) (v := .ref h_mo_row) (C := R_Mo) (T := T_Mo) (N := 38) hx hb hB iw_Mo hown hK hP 0 rfl rfl 26 (by decide) (hB _ bw_899) (fun _ h9 => h9) rfl d_Mo_toFront_19 ?_
        refine lv_iload_n hx hb d_Mo_toFront_22 rfl (lv_at hl 0 rfl) ?_
        refine lv_iconst (v := 1) hx hb d_Mo_toFront_23 (by decide) ?_
        refine lv_isub hx hb d_Mo_toFront_24 ?_
        obtain ⟨hin, h⟩ := gq_e h
        refine va_iald hx hb hK hP 1 0 rfl rfl hin d_Mo_toFront_25 ?_
        refine lv_topi (fun w_4 e_w_4 => ?_)
        have h := nl_u e_w_4 h
        obtain ⟨hin, h⟩ := gq_e h
        refine va_iast hx hb hK hP hD hS 1 0 rfl rfl hin d_Mo_toFront_26 (fun H locs hP hD hS => ?_)
        have hP : va_P (dC, dI) CL [(h_mo, .inr (1, [u_mo_thrown, u_mo_width, u_mo_height, u_mo_kind, u_mo_symbols, u_mo_wide, u_mo_high, u_mo_dark, u_mo_instances, u_mo_symbolOf, u_mo_xs, u_mo_ys, u_mo_differs, u_mo_ways, u_mo_ordered, u_mo_page, u_mo_told, u_mo_keeps, u_mo_toldBytes, u_mo_out, u_mo_counts, u_mo_lengths, u_mo_codes, u_mo_weight, u_mo_over, u_mo_used, .ref h_mo_row, u_mo_came, u_mo_in, u_mo_at, u_mo_refused, u_mo_place, u_mo_readMany, u_mo_readSymbol, u_mo_readX, u_mo_readY, u_mo_readDiffers, u_mo_readWays])), (h_mo_row, .inl (c_mo_row, 16, .inl (upd mo_row_3 (v3_2).toNatClampNeg w_4)))] H := hP
        have hD : va_D A [(h_mo, .inr (1, [u_mo_thrown, u_mo_width, u_mo_height, u_mo_kind, u_mo_symbols, u_mo_wide, u_mo_high, u_mo_dark, u_mo_instances, u_mo_symbolOf, u_mo_xs, u_mo_ys, u_mo_differs, u_mo_ways, u_mo_ordered, u_mo_page, u_mo_told, u_mo_keeps, u_mo_toldBytes, u_mo_out, u_mo_counts, u_mo_lengths, u_mo_codes, u_mo_weight, u_mo_over, u_mo_used, .ref h_mo_row, u_mo_came, u_mo_in, u_mo_at, u_mo_refused, u_mo_place, u_mo_readMany, u_mo_readSymbol, u_mo_readX, u_mo_readY, u_mo_readDiffers, u_mo_readWays])), (h_mo_row, .inl (c_mo_row, 16, .inl (upd mo_row_3 (v3_2).toNatClampNeg w_4)))] := hD
        obtain ⟨v3_5, e_v3_5⟩ : ∃ y9 : Int32, y9 = (v3_2 + (-1 : Int32)) := ⟨_, rfl⟩
        have h := nl_u e_v3_5 h
        refine lv_iinc (v := v3_5) (lv' := [(3, .int v3_5), (2, .int v2_1), (0, .ref h_mo)]) hx hb d_Mo_toFront_27 hl (k := 0) rfl (by rw [e_v3_5]; rfl) (by decide) rfl (fun ls hl => ?_)
        refine lv_goto (tgt := 9) hx hb d_Mo_toFront_30 (by decide) ?_
        exact ih_self9 _ _ _ _ _ h hP hD hS hl
  exact w_self9 FU _ _ _ _ _ h hP hD hS (lv_sub hl [0, 1, 2] rfl)
