set_option maxHeartbeats 4000000 in
set_option maxRecDepth 100000 in
theorem c_Mo_told (l : Launch) (dC : Nat → ClassId) (dI : Nat → Nat → Nat) (h_mo : Nat) (u_mo_wide : Value) (u_mo_high : Value) (u_mo_dark : Value) (u_mo_symbolOf : Value) (u_mo_xs : Value) (u_mo_ys : Value) (u_mo_differs : Value) (u_mo_ways : Value) (u_mo_ordered : Value) (u_mo_page : Value) (u_mo_told : Value) (u_mo_keeps : Value) (u_mo_out : Value) (u_mo_counts : Value) (u_mo_lengths : Value) (u_mo_codes : Value) (u_mo_weight : Value) (u_mo_over : Value) (u_mo_used : Value) (u_mo_row : Value) (u_mo_in : Value) (u_mo_at : Value) (u_mo_refused : Value) (u_mo_readMany : Value) (u_mo_readSymbol : Value) (u_mo_readX : Value) (u_mo_readY : Value) (u_mo_readDiffers : Value) (u_mo_readWays : Value) (mo_thrown : Int32) (mo_width : Int32) (mo_height : Int32) (mo_kind : Int32) (mo_symbols : Int32) (mo_instances : Int32) (mo_toldBytes : Int32) (mo_came : Int32) (mo_place : Int32) (p0 : Int32) (sz : Nat) (o : Int32 × Int32) (hf : f_Mo_told mo_width mo_height mo_kind mo_symbols mo_instances mo_toldBytes mo_came mo_place p0 = some o) :
    Met l y_Mo_told ws_Mo_told { frames := 0, cells := 0, slots := 0, locals := 0 } (va_Pc [.ref h_mo, .int p0] (PcM (dC, dI) [(h_mo, .inr (1, [.int mo_thrown, .int mo_width, .int mo_height, .int mo_kind, .int mo_symbols, u_mo_wide, u_mo_high, u_mo_dark, .int mo_instances, u_mo_symbolOf, u_mo_xs, u_mo_ys, u_mo_differs, u_mo_ways, u_mo_ordered, u_mo_page, u_mo_told, u_mo_keeps, .int mo_toldBytes, u_mo_out, u_mo_counts, u_mo_lengths, u_mo_codes, u_mo_weight, u_mo_over, u_mo_used, u_mo_row, .int mo_came, u_mo_in, u_mo_at, u_mo_refused, .int mo_place, u_mo_readMany, u_mo_readSymbol, u_mo_readX, u_mo_readY, u_mo_readDiffers, u_mo_readWays]))] [] sz))
      (va_Qi (fun (r : Int32) (u : Int32) => (r, u) = o) (fun u t => va_P (dC, dI) CL [(h_mo, .inr (1, [.int (u), .int mo_width, .int mo_height, .int mo_kind, .int mo_symbols, u_mo_wide, u_mo_high, u_mo_dark, .int mo_instances, u_mo_symbolOf, u_mo_xs, u_mo_ys, u_mo_differs, u_mo_ways, u_mo_ordered, u_mo_page, u_mo_told, u_mo_keeps, .int mo_toldBytes, u_mo_out, u_mo_counts, u_mo_lengths, u_mo_codes, u_mo_weight, u_mo_over, u_mo_used, u_mo_row, .int mo_came, u_mo_in, u_mo_at, u_mo_refused, .int mo_place, u_mo_readMany, u_mo_readSymbol, u_mo_readX, u_mo_readY, u_mo_readDiffers, u_mo_readWays]))] t.heap ∧ va_K (dC, dI) CL [] t ∧ va_D (va_A [(h_mo, .inr (1, [.int mo_thrown, .int mo_width, .int mo_height, .int mo_kind, .int mo_symbols, u_mo_wide, u_mo_high, u_mo_dark, .int mo_instances, u_mo_symbolOf, u_mo_xs, u_mo_ys, u_mo_differs, u_mo_ways, u_mo_ordered, u_mo_page, u_mo_told, u_mo_keeps, .int mo_toldBytes, u_mo_out, u_mo_counts, u_mo_lengths, u_mo_codes, u_mo_weight, u_mo_over, u_mo_used, u_mo_row, .int mo_came, u_mo_in, u_mo_at, u_mo_refused, .int mo_place, u_mo_readMany, u_mo_readSymbol, u_mo_readX, u_mo_readY, u_mo_readDiffers, u_mo_readWays]))] sz) [(h_mo, .inr (1, [.int (u), .int mo_width, .int mo_height, .int mo_kind, .int mo_symbols, u_mo_wide, u_mo_high, u_mo_dark, .int mo_instances, u_mo_symbolOf, u_mo_xs, u_mo_ys, u_mo_differs, u_mo_ways, u_mo_ordered, u_mo_page, u_mo_told, u_mo_keeps, .int mo_toldBytes, u_mo_out, u_mo_counts, u_mo_lengths, u_mo_codes, u_mo_weight, u_mo_over, u_mo_used, u_mo_row, .int mo_came, u_mo_in, u_mo_at, u_mo_refused, .int mo_place, u_mo_readMany, u_mo_readSymbol, u_mo_readX, u_mo_readY, u_mo_readDiffers, u_mo_readWays]))]) (va_A [(h_mo, .inr (1, [.int mo_thrown, .int mo_width, .int mo_height, .int mo_kind, .int mo_symbols, u_mo_wide, u_mo_high, u_mo_dark, .int mo_instances, u_mo_symbolOf, u_mo_xs, u_mo_ys, u_mo_differs, u_mo_ways, u_mo_ordered, u_mo_page, u_mo_told, u_mo_keeps, .int mo_toldBytes, u_mo_out, u_mo_counts, u_mo_lengths, u_mo_codes, u_mo_weight, u_mo_over, u_mo_used, u_mo_row, .int mo_came, u_mo_in, u_mo_at, u_mo_refused, .int mo_place, u_mo_readMany, u_mo_readSymbol, u_mo_readX, u_mo_readY, u_mo_readDiffers, u_mo_readWays]))] sz)) 0 0 (va_A [(h_mo, .inr (1, [.int mo_thrown, .int mo_width, .int mo_height, .int mo_kind, .int mo_symbols, u_mo_wide, u_mo_high, u_mo_dark, .int mo_instances, u_mo_symbolOf, u_mo_xs, u_mo_ys, u_mo_differs, u_mo_ways, u_mo_ordered, u_mo_page, u_mo_told, u_mo_keeps, .int mo_toldBytes, u_mo_out, u_mo_counts, u_mo_lengths, u_mo_codes, u_mo_weight, u_mo_over, u_mo_used, u_mo_row, .int mo_came, u_mo_in, u_mo_at, u_mo_refused, .int mo_place, u_mo_readMany, u_mo_readSymbol, u_mo_readX, u_mo_readY, u_mo_readDiffers, u_mo_readWays]))] sz) := by
  refine Met.ofW (cc := b_Mo_told) (maxL := 2) (ret := (some .int)) (by decide) rfl ?_
  intro p e s m args below meth c s₁ B hml hv
  obtain ⟨rfl, hsz, hP, hK, hD0, hnw⟩ := hv
  have hx := B.exec
  have hb := B.bytes
  have hr := B.returns
  have hts := atoms_spec (ws := ws_Mo_told) B.pre
  have hB : ∀ w ∈ BIG, w.before _ s = true := fun w h => hts w (List.mem_cons_of_mem _ h)
  have hown : s.vm.findClass R_Mo = some m.cls := findClass_of_methodNamed B.named
  have hlocks := B.notSynchronized
  subst hsz
  have hD := hD0.self (sz := s.heap.size)
  refine W_Q (fun Q9 eQ => ?_)
  generalize hAe : va_A [(h_mo, .inr (1, [.int mo_thrown, .int mo_width, .int mo_height, .int mo_kind, .int mo_symbols, u_mo_wide, u_mo_high, u_mo_dark, .int mo_instances, u_mo_symbolOf, u_mo_xs, u_mo_ys, u_mo_differs, u_mo_ways, u_mo_ordered, u_mo_page, u_mo_told, u_mo_keeps, .int mo_toldBytes, u_mo_out, u_mo_counts, u_mo_lengths, u_mo_codes, u_mo_weight, u_mo_over, u_mo_used, u_mo_row, .int mo_came, u_mo_in, u_mo_at, u_mo_refused, .int mo_place, u_mo_readMany, u_mo_readSymbol, u_mo_readX, u_mo_readY, u_mo_readDiffers, u_mo_readWays]))] s.heap.size = A at hD eQ
  have hA : ∀ q : Nat, s.heap.size ≤ q → A q := fun q h => by rw [← hAe]; exact Or.inr h
  have hS : va_S A s.heap s.heap [] := va_S.rf
  have hl := lv_entry ([.ref h_mo, .int p0]) (n := 2) (Nat.le_of_ble_eq_true rfl)
  rw [lg_entry_eq]
  generalize (lg_sl ([.ref h_mo, .int p0]) ++ List.replicate (2 - (lg_sl ([.ref h_mo, .int p0])).length) Slot.unset).toArray = ls at hl ⊢
  have hl : lv_has ls 2 [(0, .ref h_mo), (1, .int p0)] := hl
  have h := hf
  unfold f_Mo_told at h
  refine lv_aload_n hx hb d_Mo_told_0 rfl (lv_at hl 0 rfl) ?_
  refine lv_iconst (v := 0) hx hb d_Mo_told_1 (by decide) ?_
  refine va_put (D := (dC, dI)) (ci := 1) (v := .int (0 : Int32)) (ty := .int) (C := R_Mo) (T := T_Mo) (N := 38) hx hb hB iw_Mo ty_Mo tk_Mo n_Mo hown hK hP hD hS 0 rfl rfl 0 (by decide) (hB _ bw_873) (fun _ h9 => h9) rfl (by decide +kernel) rfl rfl (Nat.le_of_ble_eq_true rfl) d_Mo_told_2 (fun H locs hP hD hS => ?_)
  have hP : va_P (dC, dI) CL [(h_mo, .inr (1, [.int (0 : Int32), .int mo_width, .int mo_height, .int mo_kind, .int mo_symbols, u_mo_wide, u_mo_high, u_mo_dark, .int mo_instances, u_mo_symbolOf, u_mo_xs, u_mo_ys, u_mo_differs, u_mo_ways, u_mo_ordered, u_mo_page, u_mo_told, u_mo_keeps, .int mo_toldBytes, u_mo_out, u_mo_counts, u_mo_lengths, u_mo_codes, u_mo_weight, u_mo_over, u_mo_used, u_mo_row, .int mo_came, u_mo_in, u_mo_at, u_mo_refused, .int mo_place, u_mo_readMany, u_mo_readSymbol, u_mo_readX, u_mo_readY, u_mo_readDiffers, u_mo_readWays]))] H := hP
  have hD : va_D A [(h_mo, .inr (1, [.int (0 : Int32), .int mo_width, .int mo_height, .int mo_kind, .int mo_symbols, u_mo_wide, u_mo_high, u_mo_dark, .int mo_instances, u_mo_symbolOf, u_mo_xs, u_mo_ys, u_mo_differs, u_mo_ways, u_mo_ordered, u_mo_page, u_mo_told, u_mo_keeps, .int mo_toldBytes, u_mo_out, u_mo_counts, u_mo_lengths, u_mo_codes, u_mo_weight, u_mo_over, u_mo_used, u_mo_row, .int mo_came, u_mo_in, u_mo_at, u_mo_refused, .int mo_place, u_mo_readMany, u_mo_readSymbol, u_mo_readX, u_mo_readY, u_mo_readDiffers, u_mo_readWays]))] := hD
  refine lv_iload_n hx hb d_Mo_told_5 rfl (lv_at hl 1 rfl) ?_
  refine lv_if_ne (tgt := 14) hx hb d_Mo_told_6 (by decide) (fun c_1 => ?_) (fun c_1 => ?_)
  · have h := if_f h c_1
    refine lv_iload_n hx hb d_Mo_told_14 rfl (lv_at hl 1 rfl) ?_
    refine lv_iconst (v := 1) hx hb d_Mo_told_15 (by decide) ?_
    refine lv_icmp_ne (tgt := 24) hx hb d_Mo_told_16 (by decide) (fun c_2 => ?_) (fun c_2 => ?_)
    · have h := if_f h c_2
      refine lv_iload_n hx hb d_Mo_told_24 rfl (lv_at hl 1 rfl) ?_
      refine lv_iconst (v := 2) hx hb d_Mo_told_25 (by decide) ?_
      refine lv_icmp_ne (tgt := 34) hx hb d_Mo_told_26 (by decide) (fun c_3 => ?_) (fun c_3 => ?_)
      · have h := if_f h c_3
        refine lv_iload_n hx hb d_Mo_told_34 rfl (lv_at hl 1 rfl) ?_
        refine lv_iconst (v := 3) hx hb d_Mo_told_35 (by decide) ?_
        refine lv_icmp_ne (tgt := 44) hx hb d_Mo_told_36 (by decide) (fun c_4 => ?_) (fun c_4 => ?_)
        · have h := if_f h c_4
          refine lv_iload_n hx hb d_Mo_told_44 rfl (lv_at hl 1 rfl) ?_
          refine lv_iconst (v := 4) hx hb d_Mo_told_45 (by decide) ?_
          refine lv_icmp_ne (tgt := 54) hx hb d_Mo_told_46 (by decide) (fun c_5 => ?_) (fun c_5 => ?_)
          · have h := if_f h c_5
            refine lv_iload_n hx hb d_Mo_told_54 rfl (lv_at hl 1 rfl) ?_
            refine lv_iconst (v := 5) hx hb d_Mo_told_55 (by decide) ?_
            refine lv_icmp_ne (tgt := 64) hx hb d_Mo_told_56 (by decide) (fun c_6 => ?_) (fun c_6 => ?_)
            · have h := if_f h c_6
              refine lv_iload_n hx hb d_Mo_told_64 rfl (lv_at hl 1 rfl) ?_
              refine lv_bipush (v := 6) hx hb d_Mo_told_65 (by decide) ?_
              refine lv_icmp_ne (tgt := 75) hx hb d_Mo_told_67 (by decide) (fun c_7 => ?_) (fun c_7 => ?_)
              · have h := if_f h c_7
                refine lv_iload_n hx hb d_Mo_told_75 rfl (lv_at hl 1 rfl) ?_
                refine lv_bipush (v := 7) hx hb d_Mo_told_76 (by decide) ?_
                refine lv_icmp_ne (tgt := 88) hx hb d_Mo_told_78 (by decide) (fun c_8 => ?_) (fun c_8 => ?_)
                · have h := if_f h c_8
                  refine lv_iconst (v := -1) hx hb d_Mo_told_88 (by decide) ?_
                  subst eQ
                  exact W.iret (v := (-1 : Int32)) hx hb hr (fun t ht hW => ⟨⟨_, (0 : Int32), rfl, Option.some.inj h, by rw [ht]; exact hP, va_K.moved hW.alike hK, hD⟩, hS.F ht⟩) hS.2.2 d_Mo_told_89
                · have h := if_t h c_8
                  refine lv_aload_n hx hb d_Mo_told_81 rfl (lv_at hl 0 rfl) ?_
                  refine va_get (D := (dC, dI)) (ci := 1) (v := .int mo_place) (C := R_Mo) (T := T_Mo) (N := 38) hx hb hB iw_Mo hown hK hP 0 rfl rfl 31 (by decide) (hB _ bw_904) (fun _ h9 => h9) rfl d_Mo_told_82 ?_
                  refine lv_goto (tgt := 89) hx hb d_Mo_told_85 (by decide) ?_
                  subst eQ
                  exact W.iret (v := mo_place) hx hb hr (fun t ht hW => ⟨⟨_, (0 : Int32), rfl, Option.some.inj h, by rw [ht]; exact hP, va_K.moved hW.alike hK, hD⟩, hS.F ht⟩) hS.2.2 d_Mo_told_89
              · have h := if_t h c_7
                refine lv_aload_n hx hb d_Mo_told_70 rfl (lv_at hl 0 rfl) ?_
                refine va_get (D := (dC, dI)) (ci := 1) (v := .int mo_came) (C := R_Mo) (T := T_Mo) (N := 38) hx hb hB iw_Mo hown hK hP 0 rfl rfl 27 (by decide) (hB _ bw_900) (fun _ h9 => h9) rfl d_Mo_told_71 ?_
                subst eQ
                exact W.iret (v := mo_came) hx hb hr (fun t ht hW => ⟨⟨_, (0 : Int32), rfl, Option.some.inj h, by rw [ht]; exact hP, va_K.moved hW.alike hK, hD⟩, hS.F ht⟩) hS.2.2 d_Mo_told_74
            · have h := if_t h c_6
              refine lv_aload_n hx hb d_Mo_told_59 rfl (lv_at hl 0 rfl) ?_
              refine va_get (D := (dC, dI)) (ci := 1) (v := .int mo_toldBytes) (C := R_Mo) (T := T_Mo) (N := 38) hx hb hB iw_Mo hown hK hP 0 rfl rfl 18 (by decide) (hB _ bw_891) (fun _ h9 => h9) rfl d_Mo_told_60 ?_
              subst eQ
              exact W.iret (v := mo_toldBytes) hx hb hr (fun t ht hW => ⟨⟨_, (0 : Int32), rfl, Option.some.inj h, by rw [ht]; exact hP, va_K.moved hW.alike hK, hD⟩, hS.F ht⟩) hS.2.2 d_Mo_told_63
          · have h := if_t h c_5
            refine lv_aload_n hx hb d_Mo_told_49 rfl (lv_at hl 0 rfl) ?_
            refine va_get (D := (dC, dI)) (ci := 1) (v := .int mo_instances) (C := R_Mo) (T := T_Mo) (N := 38) hx hb hB iw_Mo hown hK hP 0 rfl rfl 8 (by decide) (hB _ bw_881) (fun _ h9 => h9) rfl d_Mo_told_50 ?_
            subst eQ
            exact W.iret (v := mo_instances) hx hb hr (fun t ht hW => ⟨⟨_, (0 : Int32), rfl, Option.some.inj h, by rw [ht]; exact hP, va_K.moved hW.alike hK, hD⟩, hS.F ht⟩) hS.2.2 d_Mo_told_53
        · have h := if_t h c_4
          refine lv_aload_n hx hb d_Mo_told_39 rfl (lv_at hl 0 rfl) ?_
          refine va_get (D := (dC, dI)) (ci := 1) (v := .int mo_symbols) (C := R_Mo) (T := T_Mo) (N := 38) hx hb hB iw_Mo hown hK hP 0 rfl rfl 4 (by decide) (hB _ bw_877) (fun _ h9 => h9) rfl d_Mo_told_40 ?_
          subst eQ
          exact W.iret (v := mo_symbols) hx hb hr (fun t ht hW => ⟨⟨_, (0 : Int32), rfl, Option.some.inj h, by rw [ht]; exact hP, va_K.moved hW.alike hK, hD⟩, hS.F ht⟩) hS.2.2 d_Mo_told_43
      · have h := if_t h c_3
        refine lv_aload_n hx hb d_Mo_told_29 rfl (lv_at hl 0 rfl) ?_
        refine va_get (D := (dC, dI)) (ci := 1) (v := .int mo_kind) (C := R_Mo) (T := T_Mo) (N := 38) hx hb hB iw_Mo hown hK hP 0 rfl rfl 3 (by decide) (hB _ bw_876) (fun _ h9 => h9) rfl d_Mo_told_30 ?_
        subst eQ
        exact W.iret (v := mo_kind) hx hb hr (fun t ht hW => ⟨⟨_, (0 : Int32), rfl, Option.some.inj h, by rw [ht]; exact hP, va_K.moved hW.alike hK, hD⟩, hS.F ht⟩) hS.2.2 d_Mo_told_33
    · have h := if_t h c_2
      refine lv_aload_n hx hb d_Mo_told_19 rfl (lv_at hl 0 rfl) ?_
      refine va_get (D := (dC, dI)) (ci := 1) (v := .int mo_height) (C := R_Mo) (T := T_Mo) (N := 38) hx hb hB iw_Mo hown hK hP 0 rfl rfl 2 (by decide) (hB _ bw_875) (fun _ h9 => h9) rfl d_Mo_told_20 ?_
      subst eQ
      exact W.iret (v := mo_height) hx hb hr (fun t ht hW => ⟨⟨_, (0 : Int32), rfl, Option.some.inj h, by rw [ht]; exact hP, va_K.moved hW.alike hK, hD⟩, hS.F ht⟩) hS.2.2 d_Mo_told_23
  · have h := if_t h c_1
    refine lv_aload_n hx hb d_Mo_told_9 rfl (lv_at hl 0 rfl) ?_
    refine va_get (D := (dC, dI)) (ci := 1) (v := .int mo_width) (C := R_Mo) (T := T_Mo) (N := 38) hx hb hB iw_Mo hown hK hP 0 rfl rfl 1 (by decide) (hB _ bw_874) (fun _ h9 => h9) rfl d_Mo_told_10 ?_
    subst eQ
    exact W.iret (v := mo_width) hx hb hr (fun t ht hW => ⟨⟨_, (0 : Int32), rfl, Option.some.inj h, by rw [ht]; exact hP, va_K.moved hW.alike hK, hD⟩, hS.F ht⟩) hS.2.2 d_Mo_told_13
set_option maxHeartbeats 4000000 in
set_option maxRecDepth 100000 in
theorem c_Mo_clear (l : Launch) (dC : Nat → ClassId) (dI : Nat → Nat → Nat) (h_mo : Nat) (h_mo_ways : Nat) (h_mo_page : Nat) (c_mo_ways : ClassId) (c_mo_page : ClassId) (u_mo_width : Value) (u_mo_height : Value) (u_mo_kind : Value) (u_mo_wide : Value) (u_mo_high : Value) (u_mo_dark : Value) (u_mo_symbolOf : Value) (u_mo_xs : Value) (u_mo_ys : Value) (u_mo_differs : Value) (u_mo_ordered : Value) (u_mo_told : Value) (u_mo_keeps : Value) (u_mo_out : Value) (u_mo_counts : Value) (u_mo_lengths : Value) (u_mo_codes : Value) (u_mo_weight : Value) (u_mo_over : Value) (u_mo_used : Value) (u_mo_row : Value) (u_mo_in : Value) (u_mo_at : Value) (u_mo_refused : Value) (u_mo_readMany : Value) (u_mo_readSymbol : Value) (u_mo_readX : Value) (u_mo_readY : Value) (u_mo_readDiffers : Value) (u_mo_readWays : Value) (mo_thrown : Int32) (mo_symbols : Int32) (mo_instances : Int32) (mo_toldBytes : Int32) (mo_came : Int32) (mo_place : Int32) (mo_ways : (Nat → Int32)) (mo_page : (Nat → Int32)) (sz : Nat) (o : Int32 × Int32 × Int32 × Int32 × Int32 × Int32 × (Nat → Int32) × (Nat → Int32)) (hf : f_Mo_clear mo_ways mo_page = some o) :
    Met l y_Mo_clear ws_Mo_clear { frames := 0, cells := 0, slots := 0, locals := 0 } (va_Pc [.ref h_mo] (PcM (dC, dI) [(h_mo, .inr (1, [.int mo_thrown, u_mo_width, u_mo_height, u_mo_kind, .int mo_symbols, u_mo_wide, u_mo_high, u_mo_dark, .int mo_instances, u_mo_symbolOf, u_mo_xs, u_mo_ys, u_mo_differs, .ref h_mo_ways, u_mo_ordered, .ref h_mo_page, u_mo_told, u_mo_keeps, .int mo_toldBytes, u_mo_out, u_mo_counts, u_mo_lengths, u_mo_codes, u_mo_weight, u_mo_over, u_mo_used, u_mo_row, .int mo_came, u_mo_in, u_mo_at, u_mo_refused, .int mo_place, u_mo_readMany, u_mo_readSymbol, u_mo_readX, u_mo_readY, u_mo_readDiffers, u_mo_readWays])), (h_mo_ways, .inl (c_mo_ways, 4, .inl mo_ways)), (h_mo_page, .inl (c_mo_page, 576, .inl mo_page))] [(c_mo_ways, .int), (c_mo_page, .boolean)] sz))
      (va_Qv (fun u : Int32 × Int32 × Int32 × Int32 × Int32 × Int32 × (Nat → Int32) × (Nat → Int32) => u = o) (fun u t => va_P (dC, dI) CL [(h_mo, .inr (1, [.int (u.1), u_mo_width, u_mo_height, u_mo_kind, .int (u.2.1), u_mo_wide, u_mo_high, u_mo_dark, .int (u.2.2.1), u_mo_symbolOf, u_mo_xs, u_mo_ys, u_mo_differs, .ref h_mo_ways, u_mo_ordered, .ref h_mo_page, u_mo_told, u_mo_keeps, .int (u.2.2.2.1), u_mo_out, u_mo_counts, u_mo_lengths, u_mo_codes, u_mo_weight, u_mo_over, u_mo_used, u_mo_row, .int (u.2.2.2.2.1), u_mo_in, u_mo_at, u_mo_refused, .int (u.2.2.2.2.2.1), u_mo_readMany, u_mo_readSymbol, u_mo_readX, u_mo_readY, u_mo_readDiffers, u_mo_readWays])), (h_mo_ways, .inl (c_mo_ways, 4, .inl (u.2.2.2.2.2.2.1))), (h_mo_page, .inl (c_mo_page, 576, .inl (u.2.2.2.2.2.2.2)))] t.heap ∧ va_K (dC, dI) CL [(c_mo_ways, .int), (c_mo_page, .boolean)] t ∧ va_D (va_A [(h_mo, .inr (1, [.int mo_thrown, u_mo_width, u_mo_height, u_mo_kind, .int mo_symbols, u_mo_wide, u_mo_high, u_mo_dark, .int mo_instances, u_mo_symbolOf, u_mo_xs, u_mo_ys, u_mo_differs, .ref h_mo_ways, u_mo_ordered, .ref h_mo_page, u_mo_told, u_mo_keeps, .int mo_toldBytes, u_mo_out, u_mo_counts, u_mo_lengths, u_mo_codes, u_mo_weight, u_mo_over, u_mo_used, u_mo_row, .int mo_came, u_mo_in, u_mo_at, u_mo_refused, .int mo_place, u_mo_readMany, u_mo_readSymbol, u_mo_readX, u_mo_readY, u_mo_readDiffers, u_mo_readWays])), (h_mo_ways, .inl (c_mo_ways, 4, .inl mo_ways)), (h_mo_page, .inl (c_mo_page, 576, .inl mo_page))] sz) [(h_mo, .inr (1, [.int (u.1), u_mo_width, u_mo_height, u_mo_kind, .int (u.2.1), u_mo_wide, u_mo_high, u_mo_dark, .int (u.2.2.1), u_mo_symbolOf, u_mo_xs, u_mo_ys, u_mo_differs, .ref h_mo_ways, u_mo_ordered, .ref h_mo_page, u_mo_told, u_mo_keeps, .int (u.2.2.2.1), u_mo_out, u_mo_counts, u_mo_lengths, u_mo_codes, u_mo_weight, u_mo_over, u_mo_used, u_mo_row, .int (u.2.2.2.2.1), u_mo_in, u_mo_at, u_mo_refused, .int (u.2.2.2.2.2.1), u_mo_readMany, u_mo_readSymbol, u_mo_readX, u_mo_readY, u_mo_readDiffers, u_mo_readWays])), (h_mo_ways, .inl (c_mo_ways, 4, .inl (u.2.2.2.2.2.2.1))), (h_mo_page, .inl (c_mo_page, 576, .inl (u.2.2.2.2.2.2.2)))]) (va_A [(h_mo, .inr (1, [.int mo_thrown, u_mo_width, u_mo_height, u_mo_kind, .int mo_symbols, u_mo_wide, u_mo_high, u_mo_dark, .int mo_instances, u_mo_symbolOf, u_mo_xs, u_mo_ys, u_mo_differs, .ref h_mo_ways, u_mo_ordered, .ref h_mo_page, u_mo_told, u_mo_keeps, .int mo_toldBytes, u_mo_out, u_mo_counts, u_mo_lengths, u_mo_codes, u_mo_weight, u_mo_over, u_mo_used, u_mo_row, .int mo_came, u_mo_in, u_mo_at, u_mo_refused, .int mo_place, u_mo_readMany, u_mo_readSymbol, u_mo_readX, u_mo_readY, u_mo_readDiffers, u_mo_readWays])), (h_mo_ways, .inl (c_mo_ways, 4, .inl mo_ways)), (h_mo_page, .inl (c_mo_page, 576, .inl mo_page))] sz)) 0 0 (va_A [(h_mo, .inr (1, [.int mo_thrown, u_mo_width, u_mo_height, u_mo_kind, .int mo_symbols, u_mo_wide, u_mo_high, u_mo_dark, .int mo_instances, u_mo_symbolOf, u_mo_xs, u_mo_ys, u_mo_differs, .ref h_mo_ways, u_mo_ordered, .ref h_mo_page, u_mo_told, u_mo_keeps, .int mo_toldBytes, u_mo_out, u_mo_counts, u_mo_lengths, u_mo_codes, u_mo_weight, u_mo_over, u_mo_used, u_mo_row, .int mo_came, u_mo_in, u_mo_at, u_mo_refused, .int mo_place, u_mo_readMany, u_mo_readSymbol, u_mo_readX, u_mo_readY, u_mo_readDiffers, u_mo_readWays])), (h_mo_ways, .inl (c_mo_ways, 4, .inl mo_ways)), (h_mo_page, .inl (c_mo_page, 576, .inl mo_page))] sz) := by
  refine Met.ofW (cc := b_Mo_clear) (maxL := 2) (ret := none) (by decide) rfl ?_
  intro p e s m args below meth c s₁ B hml hv
  obtain ⟨rfl, hsz, hP, hK, hD0, hnw⟩ := hv
  have hx := B.exec
  have hb := B.bytes
  have hr := B.returns
  have hts := atoms_spec (ws := ws_Mo_clear) B.pre
  have hB : ∀ w ∈ BIG, w.before _ s = true := fun w h => hts w (List.mem_cons_of_mem _ h)
  have hown : s.vm.findClass R_Mo = some m.cls := findClass_of_methodNamed B.named
  have hlocks := B.notSynchronized
  subst hsz
  have hD := hD0.self (sz := s.heap.size)
  refine W_Q (fun Q9 eQ => ?_)
  generalize hAe : va_A [(h_mo, .inr (1, [.int mo_thrown, u_mo_width, u_mo_height, u_mo_kind, .int mo_symbols, u_mo_wide, u_mo_high, u_mo_dark, .int mo_instances, u_mo_symbolOf, u_mo_xs, u_mo_ys, u_mo_differs, .ref h_mo_ways, u_mo_ordered, .ref h_mo_page, u_mo_told, u_mo_keeps, .int mo_toldBytes, u_mo_out, u_mo_counts, u_mo_lengths, u_mo_codes, u_mo_weight, u_mo_over, u_mo_used, u_mo_row, .int mo_came, u_mo_in, u_mo_at, u_mo_refused, .int mo_place, u_mo_readMany, u_mo_readSymbol, u_mo_readX, u_mo_readY, u_mo_readDiffers, u_mo_readWays])), (h_mo_ways, .inl (c_mo_ways, 4, .inl mo_ways)), (h_mo_page, .inl (c_mo_page, 576, .inl mo_page))] s.heap.size = A at hD eQ
  have hA : ∀ q : Nat, s.heap.size ≤ q → A q := fun q h => by rw [← hAe]; exact Or.inr h
  have hS : va_S A s.heap s.heap [] := va_S.rf
  have hl := lv_entry ([.ref h_mo]) (n := 2) (Nat.le_of_ble_eq_true rfl)
  rw [lg_entry_eq]
  generalize (lg_sl ([.ref h_mo]) ++ List.replicate (2 - (lg_sl ([.ref h_mo])).length) Slot.unset).toArray = ls at hl ⊢
  have hl : lv_has ls 2 [(0, .ref h_mo)] := hl
  have h := hf
  unfold f_Mo_clear at h
  refine lv_aload_n hx hb d_Mo_clear_0 rfl (lv_at hl 0 rfl) ?_
  refine lv_iconst (v := 0) hx hb d_Mo_clear_1 (by decide) ?_
  refine va_put (D := (dC, dI)) (ci := 1) (v := .int (0 : Int32)) (ty := .int) (C := R_Mo) (T := T_Mo) (N := 38) hx hb hB iw_Mo ty_Mo tk_Mo n_Mo hown hK hP hD hS 0 rfl rfl 0 (by decide) (hB _ bw_873) (fun _ h9 => h9) rfl (by decide +kernel) rfl rfl (Nat.le_of_ble_eq_true rfl) d_Mo_clear_2 (fun H locs hP hD hS => ?_)
  have hP : va_P (dC, dI) CL [(h_mo, .inr (1, [.int (0 : Int32), u_mo_width, u_mo_height, u_mo_kind, .int mo_symbols, u_mo_wide, u_mo_high, u_mo_dark, .int mo_instances, u_mo_symbolOf, u_mo_xs, u_mo_ys, u_mo_differs, .ref h_mo_ways, u_mo_ordered, .ref h_mo_page, u_mo_told, u_mo_keeps, .int mo_toldBytes, u_mo_out, u_mo_counts, u_mo_lengths, u_mo_codes, u_mo_weight, u_mo_over, u_mo_used, u_mo_row, .int mo_came, u_mo_in, u_mo_at, u_mo_refused, .int mo_place, u_mo_readMany, u_mo_readSymbol, u_mo_readX, u_mo_readY, u_mo_readDiffers, u_mo_readWays])), (h_mo_ways, .inl (c_mo_ways, 4, .inl mo_ways)), (h_mo_page, .inl (c_mo_page, 576, .inl mo_page))] H := hP
  have hD : va_D A [(h_mo, .inr (1, [.int (0 : Int32), u_mo_width, u_mo_height, u_mo_kind, .int mo_symbols, u_mo_wide, u_mo_high, u_mo_dark, .int mo_instances, u_mo_symbolOf, u_mo_xs, u_mo_ys, u_mo_differs, .ref h_mo_ways, u_mo_ordered, .ref h_mo_page, u_mo_told, u_mo_keeps, .int mo_toldBytes, u_mo_out, u_mo_counts, u_mo_lengths, u_mo_codes, u_mo_weight, u_mo_over, u_mo_used, u_mo_row, .int mo_came, u_mo_in, u_mo_at, u_mo_refused, .int mo_place, u_mo_readMany, u_mo_readSymbol, u_mo_readX, u_mo_readY, u_mo_readDiffers, u_mo_readWays])), (h_mo_ways, .inl (c_mo_ways, 4, .inl mo_ways)), (h_mo_page, .inl (c_mo_page, 576, .inl mo_page))] := hD
  refine lv_aload_n hx hb d_Mo_clear_5 rfl (lv_at hl 0 rfl) ?_
  refine lv_iconst (v := 0) hx hb d_Mo_clear_6 (by decide) ?_
  refine va_put (D := (dC, dI)) (ci := 1) (v := .int (0 : Int32)) (ty := .int) (C := R_Mo) (T := T_Mo) (N := 38) hx hb hB iw_Mo ty_Mo tk_Mo n_Mo hown hK hP hD hS 0 rfl rfl 4 (by decide) (hB _ bw_877) (fun _ h9 => h9) rfl (by decide +kernel) rfl rfl (Nat.le_of_ble_eq_true rfl) d_Mo_clear_7 (fun H locs hP hD hS => ?_)
  have hP : va_P (dC, dI) CL [(h_mo, .inr (1, [.int (0 : Int32), u_mo_width, u_mo_height, u_mo_kind, .int (0 : Int32), u_mo_wide, u_mo_high, u_mo_dark, .int mo_instances, u_mo_symbolOf, u_mo_xs, u_mo_ys, u_mo_differs, .ref h_mo_ways, u_mo_ordered, .ref h_mo_page, u_mo_told, u_mo_keeps, .int mo_toldBytes, u_mo_out, u_mo_counts, u_mo_lengths, u_mo_codes, u_mo_weight, u_mo_over, u_mo_used, u_mo_row, .int mo_came, u_mo_in, u_mo_at, u_mo_refused, .int mo_place, u_mo_readMany, u_mo_readSymbol, u_mo_readX, u_mo_readY, u_mo_readDiffers, u_mo_readWays])), (h_mo_ways, .inl (c_mo_ways, 4, .inl mo_ways)), (h_mo_page, .inl (c_mo_page, 576, .inl mo_page))] H := hP
  have hD : va_D A [(h_mo, .inr (1, [.int (0 : Int32), u_mo_width, u_mo_height, u_mo_kind, .int (0 : Int32), u_mo_wide, u_mo_high, u_mo_dark, .int mo_instances, u_mo_symbolOf, u_mo_xs, u_mo_ys, u_mo_differs, .ref h_mo_ways, u_mo_ordered, .ref h_mo_page, u_mo_told, u_mo_keeps, .int mo_toldBytes, u_mo_out, u_mo_counts, u_mo_lengths, u_mo_codes, u_mo_weight, u_mo_over, u_mo_used, u_mo_row, .int mo_came, u_mo_in, u_mo_at, u_mo_refused, .int mo_place, u_mo_readMany, u_mo_readSymbol, u_mo_readX, u_mo_readY, u_mo_readDiffers, u_mo_readWays])), (h_mo_ways, .inl (c_mo_ways, 4, .inl mo_ways)), (h_mo_page, .inl (c_mo_page, 576, .inl mo_page))] := hD
  refine lv_aload_n hx hb d_Mo_clear_10 rfl (lv_at hl 0 rfl) ?_
  refine lv_iconst (v := 0) hx hb d_Mo_clear_11 (by decide) ?_
  refine va_put (D := (dC, dI)) (ci := 1) (v := .int (0 : Int32)) (ty := .int) (C := R_Mo) (T := T_Mo) (N := 38) hx hb hB iw_Mo ty_Mo tk_Mo n_Mo hown hK hP hD hS 0 rfl rfl 8 (by decide) (hB _ bw_881) (fun _ h9 => h9) rfl (by decide +kernel) rfl rfl (Nat.le_of_ble_eq_true rfl) d_Mo_clear_12 (fun H locs hP hD hS => ?_)
  have hP : va_P (dC, dI) CL [(h_mo, .inr (1, [.int (0 : Int32), u_mo_width, u_mo_height, u_mo_kind, .int (0 : Int32), u_mo_wide, u_mo_high, u_mo_dark, .int (0 : Int32), u_mo_symbolOf, u_mo_xs, u_mo_ys, u_mo_differs, .ref h_mo_ways, u_mo_ordered, .ref h_mo_page, u_mo_told, u_mo_keeps, .int mo_toldBytes, u_mo_out, u_mo_counts, u_mo_lengths, u_mo_codes, u_mo_weight, u_mo_over, u_mo_used, u_mo_row, .int mo_came, u_mo_in, u_mo_at, u_mo_refused, .int mo_place, u_mo_readMany, u_mo_readSymbol, u_mo_readX, u_mo_readY, u_mo_readDiffers, u_mo_readWays])), (h_mo_ways, .inl (c_mo_ways, 4, .inl mo_ways)), (h_mo_page, .inl (c_mo_page, 576, .inl mo_page))] H := hP
  have hD : va_D A [(h_mo, .inr (1, [.int (0 : Int32), u_mo_width, u_mo_height, u_mo_kind, .int (0 : Int32), u_mo_wide, u_mo_high, u_mo_dark, .int (0 : Int32), u_mo_symbolOf, u_mo_xs, u_mo_ys, u_mo_differs, .ref h_mo_ways, u_mo_ordered, .ref h_mo_page, u_mo_told, u_mo_keeps, .int mo_toldBytes, u_mo_out, u_mo_counts, u_mo_lengths, u_mo_codes, u_mo_weight, u_mo_over, u_mo_used, u_mo_row, .int mo_came, u_mo_in, u_mo_at, u_mo_refused, .int mo_place, u_mo_readMany, u_mo_readSymbol, u_mo_readX, u_mo_readY, u_mo_readDiffers, u_mo_readWays])), (h_mo_ways, .inl (c_mo_ways, 4, .inl mo_ways)), (h_mo_page, .inl (c_mo_page, 576, .inl mo_page))] := hD
  refine lv_aload_n hx hb d_Mo_clear_15 rfl (lv_at hl 0 rfl) ?_
  refine lv_iconst (v := 0) hx hb d_Mo_clear_16 (by decide) ?_
  refine va_put (D := (dC, dI)) (ci := 1) (v := .int (0 : Int32)) (ty := .int) (C := R_Mo) (T := T_Mo) (N := 38) hx hb hB iw_Mo ty_Mo tk_Mo n_Mo hown hK hP hD hS 0 rfl rfl 18 (by decide) (hB _ bw_891) (fun _ h9 => h9) rfl (by decide +kernel) rfl rfl (Nat.le_of_ble_eq_true rfl) d_Mo_clear_17 (fun H locs hP hD hS => ?_)
  have hP : va_P (dC, dI) CL [(h_mo, .inr (1, [.int (0 : Int32), u_mo_width, u_mo_height, u_mo_kind, .int (0 : Int32), u_mo_wide, u_mo_high, u_mo_dark, .int (0 : Int32), u_mo_symbolOf, u_mo_xs, u_mo_ys, u_mo_differs, .ref h_mo_ways, u_mo_ordered, .ref h_mo_page, u_mo_told, u_mo_keeps, .int (0 : Int32), u_mo_out, u_mo_counts, u_mo_lengths, u_mo_codes, u_mo_weight, u_mo_over, u_mo_used, u_mo_row, .int mo_came, u_mo_in, u_mo_at, u_mo_refused, .int mo_place, u_mo_readMany, u_mo_readSymbol, u_mo_readX, u_mo_readY, u_mo_readDiffers, u_mo_readWays])), (h_mo_ways, .inl (c_mo_ways, 4, .inl mo_ways)), (h_mo_page, .inl (c_mo_page, 576, .inl mo_page))] H := hP
  have hD : va_D A [(h_mo, .inr (1, [.int (0 : Int32), u_mo_width, u_mo_height, u_mo_kind, .int (0 : Int32), u_mo_wide, u_mo_high, u_mo_dark, .int (0 : Int32), u_mo_symbolOf, u_mo_xs, u_mo_ys, u_mo_differs, .ref h_mo_ways, u_mo_ordered, .ref h_mo_page, u_mo_told, u_mo_keeps, .int (0 : Int32), u_mo_out, u_mo_counts, u_mo_lengths, u_mo_codes, u_mo_weight, u_mo_over, u_mo_used, u_mo_row, .int mo_came, u_mo_in, u_mo_at, u_mo_refused, .int mo_place, u_mo_readMany, u_mo_readSymbol, u_mo_readX, u_mo_readY, u_mo_readDiffers, u_mo_readWays])), (h_mo_ways, .inl (c_mo_ways, 4, .inl mo_ways)), (h_mo_page, .inl (c_mo_page, 576, .inl mo_page))] := hD
  refine lv_aload_n hx hb d_Mo_clear_20 rfl (lv_at hl 0 rfl) ?_
  refine lv_iconst (v := 0) hx hb d_Mo_clear_21 (by decide) ?_
  refine va_put (D := (dC, dI)) (ci := 1) (v := .int (0 : Int32)) (ty := .int) (C := R_Mo) (T := T_Mo) (N := 38) hx hb hB iw_Mo ty_Mo tk_Mo n_Mo hown hK hP hD hS 0 rfl rfl 27 (by decide) (hB _ bw_900) (fun _ h9 => h9) rfl (by decide +kernel) rfl rfl (Nat.le_of_ble_eq_true rfl) d_Mo_clear_22 (fun H locs hP hD hS => ?_)
  have hP : va_P (dC, dI) CL [(h_mo, .inr (1, [.int (0 : Int32), u_mo_width, u_mo_height, u_mo_kind, .int (0 : Int32), u_mo_wide, u_mo_high, u_mo_dark, .int (0 : Int32), u_mo_symbolOf, u_mo_xs, u_mo_ys, u_mo_differs, .ref h_mo_ways, u_mo_ordered, .ref h_mo_page, u_mo_told, u_mo_keeps, .int (0 : Int32), u_mo_out, u_mo_counts, u_mo_lengths, u_mo_codes, u_mo_weight, u_mo_over, u_mo_used, u_mo_row, .int (0 : Int32), u_mo_in, u_mo_at, u_mo_refused, .int mo_place, u_mo_readMany, u_mo_readSymbol, u_mo_readX, u_mo_readY, u_mo_readDiffers, u_mo_readWays])), (h_mo_ways, .inl (c_mo_ways, 4, .inl mo_ways)), (h_mo_page, .inl (c_mo_page, 576, .inl mo_page))] H := hP
  have hD : va_D A [(h_mo, .inr (1, [.int (0 : Int32), u_mo_width, u_mo_height, u_mo_kind, .int (0 : Int32), u_mo_wide, u_mo_high, u_mo_dark, .int (0 : Int32), u_mo_symbolOf, u_mo_xs, u_mo_ys, u_mo_differs, .ref h_mo_ways, u_mo_ordered, .ref h_mo_page, u_mo_told, u_mo_keeps, .int (0 : Int32), u_mo_out, u_mo_counts, u_mo_lengths, u_mo_codes, u_mo_weight, u_mo_over, u_mo_used, u_mo_row, .int (0 : Int32), u_mo_in, u_mo_at, u_mo_refused, .int mo_place, u_mo_readMany, u_mo_readSymbol, u_mo_readX, u_mo_readY, u_mo_readDiffers, u_mo_readWays])), (h_mo_ways, .inl (c_mo_ways, 4, .inl mo_ways)), (h_mo_page, .inl (c_mo_page, 576, .inl mo_page))] := hD
  refine lv_aload_n hx hb d_Mo_clear_25 rfl (lv_at hl 0 rfl) ?_
  refine lv_iconst (v := -1) hx hb d_Mo_clear_26 (by decide) ?_
  refine va_put (D := (dC, dI)) (ci := 1) (v := .int (-1 : Int32)) (ty := .int) (C := R_Mo) (T := T_Mo) (N := 38) hx hb hB iw_Mo ty_Mo tk_Mo n_Mo hown hK hP hD hS 0 rfl rfl 31 (by decide) (hB _ bw_904) (fun _ h9 => h9) rfl (by decide +kernel) rfl rfl (Nat.le_of_ble_eq_true rfl) d_Mo_clear_27 (fun H locs hP hD hS => ?_)
  have hP : va_P (dC, dI) CL [(h_mo, .inr (1, [.int (0 : Int32), u_mo_width, u_mo_height, u_mo_kind, .int (0 : Int32), u_mo_wide, u_mo_high, u_mo_dark, .int (0 : Int32), u_mo_symbolOf, u_mo_xs, u_mo_ys, u_mo_differs, .ref h_mo_ways, u_mo_ordered, .ref h_mo_page, u_mo_told, u_mo_keeps, .int (0 : Int32), u_mo_out, u_mo_counts, u_mo_lengths, u_mo_codes, u_mo_weight, u_mo_over, u_mo_used, u_mo_row, .int (0 : Int32), u_mo_in, u_mo_at, u_mo_refused, .int (-1 : Int32), u_mo_readMany, u_mo_readSymbol, u_mo_readX, u_mo_readY, u_mo_readDiffers, u_mo_readWays])), (h_mo_ways, .inl (c_mo_ways, 4, .inl mo_ways)), (h_mo_page, .inl (c_mo_page, 576, .inl mo_page))] H := hP
  have hD : va_D A [(h_mo, .inr (1, [.int (0 : Int32), u_mo_width, u_mo_height, u_mo_kind, .int (0 : Int32), u_mo_wide, u_mo_high, u_mo_dark, .int (0 : Int32), u_mo_symbolOf, u_mo_xs, u_mo_ys, u_mo_differs, .ref h_mo_ways, u_mo_ordered, .ref h_mo_page, u_mo_told, u_mo_keeps, .int (0 : Int32), u_mo_out, u_mo_counts, u_mo_lengths, u_mo_codes, u_mo_weight, u_mo_over, u_mo_used, u_mo_row, .int (0 : Int32), u_mo_in, u_mo_at, u_mo_refused, .int (-1 : Int32), u_mo_readMany, u_mo_readSymbol, u_mo_readX, u_mo_readY, u_mo_readDiffers, u_mo_readWays])), (h_mo_ways, .inl (c_mo_ways, 4, .inl mo_ways)), (h_mo_page, .inl (c_mo_page, 576, .inl mo_page))] := hD
  refine lv_iconst (v := 0) hx hb d_Mo_clear_30 (by decide) ?_
  refine lv_istore_n (lv' := [(1, .int (0 : Int32)), (0, .ref h_mo)]) hx hb d_Mo_clear_31 rfl hl (by decide) rfl (fun ls hl => ?_)
  obtain ⟨k50, e_k50, h⟩ := abs_k (P := fun k9 => lp (f_Mo_clear_L32 k9) FU ((0 : Int32), mo_ways) = some o) h
  have w_k50 : ∀ (mo_ways_3 : (Nat → Int32)) (H : Heap) (locs : List Loc) (ls : Array Slot), k50 mo_ways_3 = some o → va_P (dC, dI) CL [(h_mo, .inr (1, [.int (0 : Int32), u_mo_width, u_mo_height, u_mo_kind, .int (0 : Int32), u_mo_wide, u_mo_high, u_mo_dark, .int (0 : Int32), u_mo_symbolOf, u_mo_xs, u_mo_ys, u_mo_differs, .ref h_mo_ways, u_mo_ordered, .ref h_mo_page, u_mo_told, u_mo_keeps, .int (0 : Int32), u_mo_out, u_mo_counts, u_mo_lengths, u_mo_codes, u_mo_weight, u_mo_over, u_mo_used, u_mo_row, .int (0 : Int32), u_mo_in, u_mo_at, u_mo_refused, .int (-1 : Int32), u_mo_readMany, u_mo_readSymbol, u_mo_readX, u_mo_readY, u_mo_readDiffers, u_mo_readWays])), (h_mo_ways, .inl (c_mo_ways, 4, .inl mo_ways_3)), (h_mo_page, .inl (c_mo_page, 576, .inl mo_page))] H → va_D A [(h_mo, .inr (1, [.int (0 : Int32), u_mo_width, u_mo_height, u_mo_kind, .int (0 : Int32), u_mo_wide, u_mo_high, u_mo_dark, .int (0 : Int32), u_mo_symbolOf, u_mo_xs, u_mo_ys, u_mo_differs, .ref h_mo_ways, u_mo_ordered, .ref h_mo_page, u_mo_told, u_mo_keeps, .int (0 : Int32), u_mo_out, u_mo_counts, u_mo_lengths, u_mo_codes, u_mo_weight, u_mo_over, u_mo_used, u_mo_row, .int (0 : Int32), u_mo_in, u_mo_at, u_mo_refused, .int (-1 : Int32), u_mo_readMany, u_mo_readSymbol, u_mo_readX, u_mo_readY, u_mo_readDiffers, u_mo_readWays])), (h_mo_ways, .inl (c_mo_ways, 4, .inl mo_ways_3)), (h_mo_page, .inl (c_mo_page, 576, .inl mo_page))] → va_S A s.heap H locs → lv_has ls 2 [(0, .ref h_mo)] → W p l e ({ frames := 0, cells := 0, slots := 0, locals := 0 } : Room) s m ([.ref h_mo] : List Value).toArray below meth c H locs 0 0 Q9 (F0 m 50 ls []) := by
    intro mo_ways_3 H locs ls h hP hD hS hl
    rw [e_k50] at h
    refine lv_iconst (v := 0) hx hb d_Mo_clear_50 (by decide) ?_
    refine lv_istore_n (lv' := [(1, .int (0 : Int32)), (0, .ref h_mo)]) hx hb d_Mo_clear_51 rfl hl (by decide) rfl (fun ls hl => ?_)
    have w_self52 : ∀ n9 : Nat, ∀ (v1_5 : Int32) (mo_page_6 : (Nat → Int32)) (H : Heap) (locs : List Loc) (ls : Array Slot), lp (f_Mo_clear_L52 mo_ways_3) n9 (v1_5, mo_page_6) = some o → va_P (dC, dI) CL [(h_mo, .inr (1, [.int (0 : Int32), u_mo_width, u_mo_height, u_mo_kind, .int (0 : Int32), u_mo_wide, u_mo_high, u_mo_dark, .int (0 : Int32), u_mo_symbolOf, u_mo_xs, u_mo_ys, u_mo_differs, .ref h_mo_ways, u_mo_ordered, .ref h_mo_page, u_mo_told, u_mo_keeps, .int (0 : Int32), u_mo_out, u_mo_counts, u_mo_lengths, u_mo_codes, u_mo_weight, u_mo_over, u_mo_used, u_mo_row, .int (0 : Int32), u_mo_in, u_mo_at, u_mo_refused, .int (-1 : Int32), u_mo_readMany, u_mo_readSymbol, u_mo_readX, u_mo_readY, u_mo_readDiffers, u_mo_readWays])), (h_mo_ways, .inl (c_mo_ways, 4, .inl mo_ways_3)), (h_mo_page, .inl (c_mo_page, 576, .inl mo_page_6))] H → va_D A [(h_mo, .inr (1, [.int (0 : Int32), u_mo_width, u_mo_height, u_mo_kind, .int (0 : Int32), u_mo_wide, u_mo_high, u_mo_dark, .int (0 : Int32), u_mo_symbolOf, u_mo_xs, u_mo_ys, u_mo_differs, .ref h_mo_ways, u_mo_ordered, .ref h_mo_page, u_mo_told, u_mo_keeps, .int (0 : Int32), u_mo_out, u_mo_counts, u_mo_lengths, u_mo_codes, u_mo_weight, u_mo_over, u_mo_used, u_mo_row, .int (0 : Int32), u_mo_in, u_mo_at, u_mo_refused, .int (-1 : Int32), u_mo_readMany, u_mo_readSymbol, u_mo_readX, u_mo_readY, u_mo_readDiffers, u_mo_readWays])), (h_mo_ways, .inl (c_mo_ways, 4, .inl mo_ways_3)), (h_mo_page, .inl (c_mo_page, 576, .inl mo_page_6))] → va_S A s.heap H locs → lv_has ls 2 [(1, .int v1_5), (0, .ref h_mo)] → W p l e ({ frames := 0, cells := 0, slots := 0, locals := 0 } : Room) s m ([.ref h_mo] : List Value).toArray below meth c H locs 0 0 Q9 (F0 m 52 ls []) := by
      intro n9
      induction n9 with
      | zero =>
        intro v1_5 mo_page_6 H locs ls h hP hD hS hl
        exact absurd h (by simp [lp])
      | succ n9 ih_self52 =>
        intro v1_5 mo_page_6 H locs ls h hP hD hS hl
        obtain ⟨self52, e_self52, h⟩ := abs_k (P := fun z9 => f_Mo_clear_L52 mo_ways_3 z9 (v1_5, mo_page_6) = some o) (lp_e h)
        rw [← e_self52] at ih_self52
        unfold f_Mo_clear_L52 at h
        try dsimp only at h
        refine lv_iload_n hx hb d_Mo_clear_52 rfl (lv_at hl 0 rfl) ?_
        refine lv_sipush (v := 576) hx hb d_Mo_clear_53 (by decide) ?_
        refine lv_icmp_ge (tgt := 72) hx hb d_Mo_clear_56 (by decide) (fun c_1 => ?_) (fun c_1 => ?_)
        · have h := if_t h c_1
          subst eQ
          exact W.vret hx hb hr (fun t ht hW => ⟨⟨((0 : Int32), (0 : Int32), (0 : Int32), (0 : Int32), (0 : Int32), (-1 : Int32), mo_ways_3, mo_page_6), rfl, Option.some.inj h, by rw [ht]; exact hP, va_K.moved hW.alike hK, hD⟩, hS.F ht⟩) hS.2.2 d_Mo_clear_72
        · have h := if_f h c_1
          refine lv_aload_n hx hb d_Mo_clear_59 rfl (lv_at hl 1 rfl) ?_
          refine va_get (D := (dC, dI)) (ci := 1) (v := .ref h_mo_page) (C := R_Mo) (T := T_Mo) (N := 38) hx hb hB iw_Mo hown hK hP 0 rfl rfl 15 (by decide) (hB _ bw_888) (fun _ h9 => h9) rfl d_Mo_clear_60 ?_
          refine lv_iload_n hx hb d_Mo_clear_63 rfl (lv_at hl 0 rfl) ?_
          refine lv_iconst (v := 0) hx hb d_Mo_clear_64 (by decide) ?_
          obtain ⟨hin, h⟩ := gq_e h
          refine va_zast hx hb hK hP hD hS 2 1 rfl rfl hin d_Mo_clear_65 (fun H locs hP hD hS => ?_)
          have hP : va_P (dC, dI) CL [(h_mo, .inr (1, [.int (0 : Int32), u_mo_width, u_mo_height, u_mo_kind, .int (0 : Int32), u_mo_wide, u_mo_high, u_mo_dark, .int (0 : Int32), u_mo_symbolOf, u_mo_xs, u_mo_ys, u_mo_differs, .ref h_mo_ways, u_mo_ordered, .ref h_mo_page, u_mo_told, u_mo_keeps, .int (0 : Int32), u_mo_out, u_mo_counts, u_mo_lengths, u_mo_codes, u_mo_weight, u_mo_over, u_mo_used, u_mo_row, .int (0 : Int32), u_mo_in, u_mo_at, u_mo_refused, .int (-1 : Int32), u_mo_readMany, u_mo_readSymbol, u_mo_readX, u_mo_readY, u_mo_readDiffers, u_mo_readWays])), (h_mo_ways, .inl (c_mo_ways, 4, .inl mo_ways_3)), (h_mo_page, .inl (c_mo_page, 576, .inl (upd mo_page_6 (v1_5).toNatClampNeg (vp_nar .boolean (0 : Int32)))))] H := hP
          have hD : va_D A [(h_mo, .inr (1, [.int (0 : Int32), u_mo_width, u_mo_height, u_mo_kind, .int (0 : Int32), u_mo_wide, u_mo_high, u_mo_dark, .int (0 : Int32), u_mo_symbolOf, u_mo_xs, u_mo_ys, u_mo_differs, .ref h_mo_ways, u_mo_ordered, .ref h_mo_page, u_mo_told, u_mo_keeps, .int (0 : Int32), u_mo_out, u_mo_counts, u_mo_lengths, u_mo_codes, u_mo_weight, u_mo_over, u_mo_used, u_mo_row, .int (0 : Int32), u_mo_in, u_mo_at, u_mo_refused, .int (-1 : Int32), u_mo_readMany, u_mo_readSymbol, u_mo_readX, u_mo_readY, u_mo_readDiffers, u_mo_readWays])), (h_mo_ways, .inl (c_mo_ways, 4, .inl mo_ways_3)), (h_mo_page, .inl (c_mo_page, 576, .inl (upd mo_page_6 (v1_5).toNatClampNeg (vp_nar .boolean (0 : Int32)))))] := hD
          obtain ⟨v1_7, e_v1_7⟩ : ∃ y9 : Int32, y9 = (v1_5 + (1 : Int32)) := ⟨_, rfl⟩
          have h := nl_u e_v1_7 h
          refine lv_iinc (v := v1_7) (lv' := [(1, .int v1_7), (0, .ref h_mo)]) hx hb d_Mo_clear_66 hl (k := 0) rfl (by rw [e_v1_7]; rfl) (by decide) rfl (fun ls hl => ?_)
          refine lv_goto (tgt := 52) hx hb d_Mo_clear_69 (by decide) ?_
          exact ih_self52 _ _ _ _ _ h hP hD hS hl
    exact w_self52 FU _ _ _ _ _ h hP hD hS hl
  have w_self32 : ∀ n9 : Nat, ∀ (v1_1 : Int32) (mo_ways_2 : (Nat → Int32)) (H : Heap) (locs : List Loc) (ls : Array Slot), lp (f_Mo_clear_L32 k50) n9 (v1_1, mo_ways_2) = some o → va_P (dC, dI) CL [(h_mo, .inr (1, [.int (0 : Int32), u_mo_width, u_mo_height, u_mo_kind, .int (0 : Int32), u_mo_wide, u_mo_high, u_mo_dark, .int (0 : Int32), u_mo_symbolOf, u_mo_xs, u_mo_ys, u_mo_differs, .ref h_mo_ways, u_mo_ordered, .ref h_mo_page, u_mo_told, u_mo_keeps, .int (0 : Int32), u_mo_out, u_mo_counts, u_mo_lengths, u_mo_codes, u_mo_weight, u_mo_over, u_mo_used, u_mo_row, .int (0 : Int32), u_mo_in, u_mo_at, u_mo_refused, .int (-1 : Int32), u_mo_readMany, u_mo_readSymbol, u_mo_readX, u_mo_readY, u_mo_readDiffers, u_mo_readWays])), (h_mo_ways, .inl (c_mo_ways, 4, .inl mo_ways_2)), (h_mo_page, .inl (c_mo_page, 576, .inl mo_page))] H → va_D A [(h_mo, .inr (1, [.int (0 : Int32), u_mo_width, u_mo_height, u_mo_kind, .int (0 : Int32), u_mo_wide, u_mo_high, u_mo_dark, .int (0 : Int32), u_mo_symbolOf, u_mo_xs, u_mo_ys, u_mo_differs, .ref h_mo_ways, u_mo_ordered, .ref h_mo_page, u_mo_told, u_mo_keeps, .int (0 : Int32), u_mo_out, u_mo_counts, u_mo_lengths, u_mo_codes, u_mo_weight, u_mo_over, u_mo_used, u_mo_row, .int (0 : Int32), u_mo_in, u_mo_at, u_mo_refused, .int (-1 : Int32), u_mo_readMany, u_mo_readSymbol, u_mo_readX, u_mo_readY, u_mo_readDiffers, u_mo_readWays])), (h_mo_ways, .inl (c_mo_ways, 4, .inl mo_ways_2)), (h_mo_page, .inl (c_mo_page, 576, .inl mo_page))] → va_S A s.heap H locs → lv_has ls 2 [(1, .int v1_1), (0, .ref h_mo)] → W p l e ({ frames := 0, cells := 0, slots := 0, locals := 0 } : Room) s m ([.ref h_mo] : List Value).toArray below meth c H locs 0 0 Q9 (F0 m 32 ls []) := by
    intro n9
    induction n9 with
    | zero =>
      intro v1_1 mo_ways_2 H locs ls h hP hD hS hl
      exact absurd h (by simp [lp])
    | succ n9 ih_self32 =>
      intro v1_1 mo_ways_2 H locs ls h hP hD hS hl
      obtain ⟨self32, e_self32, h⟩ := abs_k (P := fun z9 => f_Mo_clear_L32 k50 z9 (v1_1, mo_ways_2) = some o) (lp_e h)
      rw [← e_self32] at ih_self32
      unfold f_Mo_clear_L32 at h
      try dsimp only at h
      refine lv_iload_n hx hb d_Mo_clear_32 rfl (lv_at hl 0 rfl) ?_
      refine lv_iconst (v := 4) hx hb d_Mo_clear_33 (by decide) ?_
      refine lv_icmp_ge (tgt := 50) hx hb d_Mo_clear_34 (by decide) (fun c_2 => ?_) (fun c_2 => ?_)
      · have h := if_t h c_2
        exact w_k50 _ _ _ _ h hP hD hS (lv_sub hl [1] rfl)
      · have h := if_f h c_2
        refine lv_aload_n hx hb d_Mo_clear_37 rfl (lv_at hl 1 rfl) ?_
        refine va_get (D := (dC, dI)) (ci := 1) (v := .ref h_mo_ways) (C := R_Mo) (T := T_Mo) (N := 38) hx hb hB iw_Mo hown hK hP 0 rfl rfl 13 (by decide) (hB _ bw_886) (fun _ h9 => h9) rfl d_Mo_clear_38 ?_
        refine lv_iload_n hx hb d_Mo_clear_41 rfl (lv_at hl 0 rfl) ?_
        refine lv_iconst (v := 0) hx hb d_Mo_clear_42 (by decide) ?_
        obtain ⟨hin, h⟩ := gq_e h
        refine va_iast hx hb hK hP hD hS 1 0 rfl rfl hin d_Mo_clear_43 (fun H locs hP hD hS => ?_)
        have hP : va_P (dC, dI) CL [(h_mo, .inr (1, [.int (0 : Int32), u_mo_width, u_mo_height, u_mo_kind, .int (0 : Int32), u_mo_wide, u_mo_high, u_mo_dark, .int (0 : Int32), u_mo_symbolOf, u_mo_xs, u_mo_ys, u_mo_differs, .ref h_mo_ways, u_mo_ordered, .ref h_mo_page, u_mo_told, u_mo_keeps, .int (0 : Int32), u_mo_out, u_mo_counts, u_mo_lengths, u_mo_codes, u_mo_weight, u_mo_over, u_mo_used, u_mo_row, .int (0 : Int32), u_mo_in, u_mo_at, u_mo_refused, .int (-1 : Int32), u_mo_readMany, u_mo_readSymbol, u_mo_readX, u_mo_readY, u_mo_readDiffers, u_mo_readWays])), (h_mo_ways, .inl (c_mo_ways, 4, .inl (upd mo_ways_2 (v1_1).toNatClampNeg (0 : Int32)))), (h_mo_page, .inl (c_mo_page, 576, .inl mo_page))] H := hP
        have hD : va_D A [(h_mo, .inr (1, [.int (0 : Int32), u_mo_width, u_mo_height, u_mo_kind, .int (0 : Int32), u_mo_wide, u_mo_high, u_mo_dark, .int (0 : Int32), u_mo_symbolOf, u_mo_xs, u_mo_ys, u_mo_differs, .ref h_mo_ways, u_mo_ordered, .ref h_mo_page, u_mo_told, u_mo_keeps, .int (0 : Int32), u_mo_out, u_mo_counts, u_mo_lengths, u_mo_codes, u_mo_weight, u_mo_over, u_mo_used, u_mo_row, .int (0 : Int32), u_mo_in, u_mo_at, u_mo_refused, .int (-1 : Int32), u_mo_readMany, u_mo_readSymbol, u_mo_readX, u_mo_readY, u_mo_readDiffers, u_mo_readWays])), (h_mo_ways, .inl (c_mo_ways, 4, .inl (upd mo_ways_2 (v1_1).toNatClampNeg (0 : Int32)))), (h_mo_page, .inl (c_mo_page, 576, .inl mo_page))] := hD
        obtain ⟨v1_4, e_v1_4⟩ : ∃ y9 : Int32, y9 = (v1_1 + (1 : Int32)) := ⟨_, rfl⟩
        have h := nl_u e_v1_4 h
        refine lv_iinc (v := v1_4) (lv' := [(1, .int v1_4), (0, .ref h_mo)]) hx hb d_Mo_clear_44 hl (k := 0) rfl (by rw [e_v1_4]; rfl) (by decide) rfl (fun ls hl => ?_)
        refine lv_goto (tgt := 32) hx hb d_Mo_clear_47 (by decide) ?_
        exact ih_self32 _ _ _ _ _ h hP hD hS hl
  exact w_self32 FU _ _ _ _ _ h hP hD hS hl
