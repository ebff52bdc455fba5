set_option maxHeartbeats 4000000 in
set_option maxRecDepth 100000 in
theorem c_CodeNames_symbolOf (l : Launch) (dC : Nat → ClassId) (dI : Nat → Nat → Nat) (h_na : Nat) (h_di : Nat) (h_na_lengths : Nat) (h_na_codes : Nat) (c_na_lengths : ClassId) (c_na_codes : ClassId) (u_na_weights : Value) (u_na_joinedTo : Value) (u_di_widths : Value) (u_di_heights : Value) (u_di_samples : Value) (di_count : Int32) (na_lengths : (Nat → Int32)) (na_codes : (Nat → Int32)) (p0 : Int32) (p1 : Int32) (o : Int32) (hf : f_CodeNames_symbolOf di_count na_lengths na_codes p0 p1 = some o) :
    Met l y_CodeNames_symbolOf ws_CodeNames_symbolOf { frames := 0, cells := 0, slots := 0, locals := 0 } (va_Pc [.ref h_na, .int p0, .int p1] (PcP (dC, dI) [(h_na, .inr (5, [.ref h_di, .ref h_na_lengths, .ref h_na_codes, u_na_weights, u_na_joinedTo])), (h_di, .inr (6, [u_di_widths, u_di_heights, u_di_samples, .int di_count])), (h_na_lengths, .inl (c_na_lengths, 16, .inl na_lengths)), (h_na_codes, .inl (c_na_codes, 16, .inl na_codes))] [(c_na_lengths, .int), (c_na_codes, .int)]))
      (vp_Si (fun r => r = o)) 0 0 (fun _ => False) := by
  refine Met.ofW (cc := b_CodeNames_symbolOf) (maxL := 4) (ret := (some .int)) (by decide) rfl ?_
  intro p e s m args below meth c s₁ B hml hv
  obtain ⟨rfl, hP, hK, hnw⟩ := hv
  have hx := B.exec
  have hb := B.bytes
  have hr := B.returns
  have hts := atoms_spec (ws := ws_CodeNames_symbolOf) B.pre
  have hB : ∀ w ∈ BIG, w.before _ s = true := fun w h => hts w (List.mem_cons_of_mem _ h)
  have hown : s.vm.findClass R_CodeNames = some m.cls := findClass_of_methodNamed B.named
  have hlocks := B.notSynchronized
  refine W_Q (fun Q9 eQ => ?_)
  have hl := lv_entry ([.ref h_na, .int p0, .int p1]) (n := 4) (Nat.le_of_ble_eq_true rfl)
  rw [lg_entry_eq]
  generalize (lg_sl ([.ref h_na, .int p0, .int p1]) ++ List.replicate (4 - (lg_sl ([.ref h_na, .int p0, .int p1])).length) Slot.unset).toArray = ls at hl ⊢
  have hl : lv_has ls 4 [(0, .ref h_na), (1, .int p0), (2, .int p1)] := hl
  have h := hf
  unfold f_CodeNames_symbolOf at h
  refine lv_iconst (v := 0) hx hb d_CodeNames_symbolOf_0 (by decide) ?_
  refine lv_istore_n (lv' := [(3, .int (0 : Int32)), (0, .ref h_na), (1, .int p0), (2, .int p1)]) hx hb d_CodeNames_symbolOf_1 rfl hl (by decide) rfl (fun ls hl => ?_)
  have w_self2 : ∀ n9 : Nat, ∀ (v3_1 : Int32) (ls : Array Slot), lp (f_CodeNames_symbolOf_L2 di_count na_lengths p1 na_codes p0) n9 v3_1 = some o → lv_has ls 4 [(3, .int v3_1), (0, .ref h_na), (1, .int p0), (2, .int p1)] → W p l e ({ frames := 0, cells := 0, slots := 0, locals := 0 } : Room) s m ([.ref h_na, .int p0, .int p1] : List Value).toArray below meth c s.heap [] 0 0 Q9 (F0 m 2 ls []) := by
    intro n9
    induction n9 with
    | zero =>
      intro v3_1 ls h hl
      exact absurd h (by simp [lp])
    | succ n9 ih_self2 =>
      intro v3_1 ls h hl
      obtain ⟨self2, e_self2, h⟩ := abs_k (P := fun z9 => f_CodeNames_symbolOf_L2 di_count na_lengths p1 na_codes p0 z9 v3_1 = some o) (lp_e h)
      rw [← e_self2] at ih_self2
      unfold f_CodeNames_symbolOf_L2 at h
      try dsimp only at h
      refine lv_iload_n hx hb d_CodeNames_symbolOf_2 rfl (lv_at hl 0 rfl) ?_
      refine lv_aload_n hx hb d_CodeNames_symbolOf_3 rfl (lv_at hl 1 rfl) ?_
      refine va_get (D := (dC, dI)) (ci := 5) (v := .ref h_di) (C := R_CodeNames) (T := T_CodeNames) (N := 5) hx hb hB iw_CodeNames hown hK hP 0 rfl rfl 0 (by decide) (hB _ bw_113) (fun _ h9 => h9) rfl d_CodeNames_symbolOf_4 ?_
      refine va_getN (D := (dC, dI)) (ci := 6) (v := .int di_count) (C := R_Dictionary) (T := T_Dictionary) (N := 4) hx hb hB iw_Dictionary hown hK hP 1 rfl rfl 3 (by decide) (va_Nw.use rfl (hnw.1 _ bn_54)) (fun _ h9 => h9) rfl d_CodeNames_symbolOf_7 ?_
      refine lv_icmp_ge (tgt := 41) hx hb d_CodeNames_symbolOf_10 (by decide) (fun c_1 => ?_) (fun c_1 => ?_)
      · have h := if_t h c_1
        refine lv_iconst (v := -1) hx hb d_CodeNames_symbolOf_41 (by decide) ?_
        subst eQ
        exact W.iret (v := (-1 : Int32)) hx hb hr (fun t ht hW => ⟨_, rfl, Option.some.inj h, ht⟩) (fun _ h9 => absurd h9 List.not_mem_nil) d_CodeNames_symbolOf_42
      · have h := if_f h c_1
        refine lv_aload_n hx hb d_CodeNames_symbolOf_13 rfl (lv_at hl 1 rfl) ?_
        refine va_get (D := (dC, dI)) (ci := 5) (v := .ref h_na_lengths) (C := R_CodeNames) (T := T_CodeNames) (N := 5) hx hb hB iw_CodeNames hown hK hP 0 rfl rfl 1 (by decide) (hB _ bw_114) (fun _ h9 => h9) rfl d_CodeNames_symbolOf_14 ?_
        refine lv_iload_n hx hb d_CodeNames_symbolOf_17 rfl (lv_at hl 0 rfl) ?_
        obtain ⟨hin, h⟩ := gq_e h
        refine va_iald hx hb hK hP 2 0 rfl rfl hin d_CodeNames_symbolOf_18 ?_
        refine lv_iload_n hx hb d_CodeNames_symbolOf_19 rfl (lv_at hl 3 rfl) ?_
        obtain ⟨j35, e_j35, h⟩ := jn_e h
        have w_j35 : ∀ (ls : Array Slot), j35 () = some o → lv_has ls 4 [(3, .int v3_1), (0, .ref h_na), (1, .int p0), (2, .int p1)] → W p l e ({ frames := 0, cells := 0, slots := 0, locals := 0 } : Room) s m ([.ref h_na, .int p0, .int p1] : List Value).toArray below meth c s.heap [] 0 0 Q9 (F0 m 35 ls []) := by
          intro ls h hl
          rw [e_j35] at h
          obtain ⟨v3_2, e_v3_2⟩ : ∃ y9 : Int32, y9 = (v3_1 + (1 : Int32)) := ⟨_, rfl⟩
          have h := nl_u e_v3_2 h
          refine lv_iinc (v := v3_2) (lv' := [(3, .int v3_2), (0, .ref h_na), (1, .int p0), (2, .int p1)]) hx hb d_CodeNames_symbolOf_35 hl (k := 0) rfl (by rw [e_v3_2]; rfl) (by decide) rfl (fun ls hl => ?_)
          refine lv_goto (tgt := 2) hx hb d_CodeNames_symbolOf_38 (by decide) ?_
          exact ih_self2 _ _ h hl
        refine lv_icmp_ne (tgt := 35) hx hb d_CodeNames_symbolOf_20 (by decide) (fun c_2 => ?_) (fun c_2 => ?_)
        · have h := if_f h c_2
          exact w_j35 _ h hl
        · have h := if_t h c_2
          refine lv_aload_n hx hb d_CodeNames_symbolOf_23 rfl (lv_at hl 1 rfl) ?_
          refine va_get (D := (dC, dI)) (ci := 5) (v := .ref h_na_codes) (C := R_CodeNames) (T := T_CodeNames) (N := 5) hx hb hB iw_CodeNames hown hK hP 0 rfl rfl 2 (by decide) (hB _ bw_115) (fun _ h9 => h9) rfl d_CodeNames_symbolOf_24 ?_
          refine lv_iload_n hx hb d_CodeNames_symbolOf_27 rfl (lv_at hl 0 rfl) ?_
          obtain ⟨hin, h⟩ := gq_e h
          refine va_iald hx hb hK hP 3 1 rfl rfl hin d_CodeNames_symbolOf_28 ?_
          refine lv_iload_n hx hb d_CodeNames_symbolOf_29 rfl (lv_at hl 2 rfl) ?_
          refine lv_icmp_ne (tgt := 35) hx hb d_CodeNames_symbolOf_30 (by decide) (fun c_3 => ?_) (fun c_3 => ?_)
          · have h := if_f h c_3
            exact w_j35 _ h hl
          · have h := if_t h c_3
            refine lv_iload_n hx hb d_CodeNames_symbolOf_33 rfl (lv_at hl 0 rfl) ?_
            subst eQ
            exact W.iret (v := v3_1) hx hb hr (fun t ht hW => ⟨_, rfl, Option.some.inj h, ht⟩) (fun _ h9 => absurd h9 List.not_mem_nil) d_CodeNames_symbolOf_34
  exact w_self2 FU _ _ h hl
set_option maxHeartbeats 4000000 in
set_option maxRecDepth 100000 in
theorem c_CodeNames_weigh (l : Launch) (dC : Nat → ClassId) (dI : Nat → Nat → Nat) (h_na : Nat) (h_la : Nat) (h_na_weights : Nat) (h_na_joinedTo : Nat) (h_la_symbolOf : Nat) (c_na_weights : ClassId) (c_na_joinedTo : ClassId) (c_la_symbolOf : ClassId) (u_na_symbols : Value) (u_na_lengths : Value) (u_na_codes : Value) (u_la_symbols : Value) (u_la_ways : Value) (u_la_xs : Value) (u_la_ys : Value) (u_la_differs : Value) (u_la_sequence : Value) (la_count : Int32) (na_weights : (Nat → Int32)) (na_joinedTo : (Nat → Int32)) (la_symbolOf : (Nat → Int32)) (sz : Nat) (o : (Nat → Int32) × (Nat → Int32)) (hf : f_CodeNames_weigh la_count na_weights na_joinedTo la_symbolOf = some o) :
    Met l y_CodeNames_weigh ws_CodeNames_weigh { frames := 0, cells := 0, slots := 0, locals := 0 } (va_Pc [.ref h_na, .ref h_la] (PcM (dC, dI) [(h_na, .inr (5, [u_na_symbols, u_na_lengths, u_na_codes, .ref h_na_weights, .ref h_na_joinedTo])), (h_la, .inr (8, [u_la_symbols, u_la_ways, .ref h_la_symbolOf, u_la_xs, u_la_ys, u_la_differs, u_la_sequence, .int la_count])), (h_na_weights, .inl (c_na_weights, 32, .inl na_weights)), (h_na_joinedTo, .inl (c_na_joinedTo, 32, .inl na_joinedTo)), (h_la_symbolOf, .inl (c_la_symbolOf, 40, .inl la_symbolOf))] [(c_na_weights, .int), (c_na_joinedTo, .int), (c_la_symbolOf, .int)] sz))
      (va_Qv (fun u : (Nat → Int32) × (Nat → Int32) => u = o) (fun u t => va_P (dC, dI) CL [(h_na, .inr (5, [u_na_symbols, u_na_lengths, u_na_codes, .ref h_na_weights, .ref h_na_joinedTo])), (h_la, .inr (8, [u_la_symbols, u_la_ways, .ref h_la_symbolOf, u_la_xs, u_la_ys, u_la_differs, u_la_sequence, .int la_count])), (h_na_weights, .inl (c_na_weights, 32, .inl (u.1))), (h_na_joinedTo, .inl (c_na_joinedTo, 32, .inl (u.2))), (h_la_symbolOf, .inl (c_la_symbolOf, 40, .inl la_symbolOf))] t.heap ∧ va_K (dC, dI) CL [(c_na_weights, .int), (c_na_joinedTo, .int), (c_la_symbolOf, .int)] t ∧ va_D (va_A [(h_na, .inr (5, [u_na_symbols, u_na_lengths, u_na_codes, .ref h_na_weights, .ref h_na_joinedTo])), (h_la, .inr (8, [u_la_symbols, u_la_ways, .ref h_la_symbolOf, u_la_xs, u_la_ys, u_la_differs, u_la_sequence, .int la_count])), (h_na_weights, .inl (c_na_weights, 32, .inl na_weights)), (h_na_joinedTo, .inl (c_na_joinedTo, 32, .inl na_joinedTo)), (h_la_symbolOf, .inl (c_la_symbolOf, 40, .inl la_symbolOf))] sz) [(h_na, .inr (5, [u_na_symbols, u_na_lengths, u_na_codes, .ref h_na_weights, .ref h_na_joinedTo])), (h_la, .inr (8, [u_la_symbols, u_la_ways, .ref h_la_symbolOf, u_la_xs, u_la_ys, u_la_differs, u_la_sequence, .int la_count])), (h_na_weights, .inl (c_na_weights, 32, .inl (u.1))), (h_na_joinedTo, .inl (c_na_joinedTo, 32, .inl (u.2))), (h_la_symbolOf, .inl (c_la_symbolOf, 40, .inl la_symbolOf))]) (va_A [(h_na, .inr (5, [u_na_symbols, u_na_lengths, u_na_codes, .ref h_na_weights, .ref h_na_joinedTo])), (h_la, .inr (8, [u_la_symbols, u_la_ways, .ref h_la_symbolOf, u_la_xs, u_la_ys, u_la_differs, u_la_sequence, .int la_count])), (h_na_weights, .inl (c_na_weights, 32, .inl na_weights)), (h_na_joinedTo, .inl (c_na_joinedTo, 32, .inl na_joinedTo)), (h_la_symbolOf, .inl (c_la_symbolOf, 40, .inl la_symbolOf))] sz)) 0 0 (va_A [(h_na, .inr (5, [u_na_symbols, u_na_lengths, u_na_codes, .ref h_na_weights, .ref h_na_joinedTo])), (h_la, .inr (8, [u_la_symbols, u_la_ways, .ref h_la_symbolOf, u_la_xs, u_la_ys, u_la_differs, u_la_sequence, .int la_count])), (h_na_weights, .inl (c_na_weights, 32, .inl na_weights)), (h_na_joinedTo, .inl (c_na_joinedTo, 32, .inl na_joinedTo)), (h_la_symbolOf, .inl (c_la_symbolOf, 40, .inl la_symbolOf))] sz) := by
  refine Met.ofW (cc := b_CodeNames_weigh) (maxL := 3) (ret := none) (by decide) rfl ?_
  intro p e s m args below meth c s₁ B hml hv
  obtain ⟨rfl, hsz, hP, hK, hD0, hnw⟩ := hv
  have hx := B.exec
  have hb := B.bytes
  have hr := B.returns
  have hts := atoms_spec (ws := ws_CodeNames_weigh) B.pre
  have hB : ∀ w ∈ BIG, w.before _ s = true := fun w h => hts w (List.mem_cons_of_mem _ h)
  have hown : s.vm.findClass R_CodeNames = some m.cls := findClass_of_methodNamed B.named
  have hlocks := B.notSynchronized
  subst hsz
  have hD := hD0.self (sz := s.heap.size)
  refine W_Q (fun Q9 eQ => ?_)
  generalize hAe : va_A [(h_na, .inr (5, [u_na_symbols, u_na_lengths, u_na_codes, .ref h_na_weights, .ref h_na_joinedTo])), (h_la, .inr (8, [u_la_symbols, u_la_ways, .ref h_la_symbolOf, u_la_xs, u_la_ys, u_la_differs, u_la_sequence, .int la_count])), (h_na_weights, .inl (c_na_weights, 32, .inl na_weights)), (h_na_joinedTo, .inl (c_na_joinedTo, 32, .inl na_joinedTo)), (h_la_symbolOf, .inl (c_la_symbolOf, 40, .inl la_symbolOf))] s.heap.size = A at hD eQ
  have hA : ∀ q : Nat, s.heap.size ≤ q → A q := fun q h => by rw [← hAe]; exact Or.inr h
  have hS : va_S A s.heap s.heap [] := va_S.rf
  have hl := lv_entry ([.ref h_na, .ref h_la]) (n := 3) (Nat.le_of_ble_eq_true rfl)
  rw [lg_entry_eq]
  generalize (lg_sl ([.ref h_na, .ref h_la]) ++ List.replicate (3 - (lg_sl ([.ref h_na, .ref h_la])).length) Slot.unset).toArray = ls at hl ⊢
  have hl : lv_has ls 3 [(0, .ref h_na), (1, .ref h_la)] := hl
  have h := hf
  unfold f_CodeNames_weigh at h
  refine lv_iconst (v := 0) hx hb d_CodeNames_weigh_0 (by decide) ?_
  refine lv_istore_n (lv' := [(2, .int (0 : Int32)), (0, .ref h_na), (1, .ref h_la)]) hx hb d_CodeNames_weigh_1 rfl hl (by decide) rfl (fun ls hl => ?_)
  obtain ⟨k31, e_k31, h⟩ := abs_k (P := fun k9 => lp (f_CodeNames_weigh_L2 k9) FU ((0 : Int32), na_weights, na_joinedTo) = some o) h
  have w_k31 : ∀ (na_weights_4 : (Nat → Int32)) (na_joinedTo_5 : (Nat → Int32)) (H : Heap) (locs : List Loc) (ls : Array Slot), k31 na_weights_4 na_joinedTo_5 = some o → va_P (dC, dI) CL [(h_na, .inr (5, [u_na_symbols, u_na_lengths, u_na_codes, .ref h_na_weights, .ref h_na_joinedTo])), (h_la, .inr (8, [u_la_symbols, u_la_ways, .ref h_la_symbolOf, u_la_xs, u_la_ys, u_la_differs, u_la_sequence, .int la_count])), (h_na_weights, .inl (c_na_weights, 32, .inl na_weights_4)), (h_na_joinedTo, .inl (c_na_joinedTo, 32, .inl na_joinedTo_5)), (h_la_symbolOf, .inl (c_la_symbolOf, 40, .inl la_symbolOf))] H → va_D A [(h_na, .inr (5, [u_na_symbols, u_na_lengths, u_na_codes, .ref h_na_weights, .ref h_na_joinedTo])), (h_la, .inr (8, [u_la_symbols, u_la_ways, .ref h_la_symbolOf, u_la_xs, u_la_ys, u_la_differs, u_la_sequence, .int la_count])), (h_na_weights, .inl (c_na_weights, 32, .inl na_weights_4)), (h_na_joinedTo, .inl (c_na_joinedTo, 32, .inl na_joinedTo_5)), (h_la_symbolOf, .inl (c_la_symbolOf, 40, .inl la_symbolOf))] → va_S A s.heap H locs → lv_has ls 3 [(0, .ref h_na), (1, .ref h_la)] → W p l e ({ frames := 0, cells := 0, slots := 0, locals := 0 } : Room) s m ([.ref h_na, .ref h_la] : List Value).toArray below meth c H locs 0 0 Q9 (F0 m 31 ls []) := by
    intro na_weights_4 na_joinedTo_5 H locs ls h hP hD hS hl
    rw [e_k31] at h
    refine lv_iconst (v := 0) hx hb d_CodeNames_weigh_31 (by decide) ?_
    refine lv_istore_n (lv' := [(2, .int (0 : Int32)), (0, .ref h_na), (1, .ref h_la)]) hx hb d_CodeNames_weigh_32 rfl hl (by decide) rfl (fun ls hl => ?_)
    have w_self33 : ∀ n9 : Nat, ∀ (v2_7 : Int32) (na_weights_8 : (Nat → Int32)) (H : Heap) (locs : List Loc) (ls : Array Slot), lp (f_CodeNames_weigh_L33 la_count na_joinedTo_5 la_symbolOf) n9 (v2_7, na_weights_8) = some o → va_P (dC, dI) CL [(h_na, .inr (5, [u_na_symbols, u_na_lengths, u_na_codes, .ref h_na_weights, .ref h_na_joinedTo])), (h_la, .inr (8, [u_la_symbols, u_la_ways, .ref h_la_symbolOf, u_la_xs, u_la_ys, u_la_differs, u_la_sequence, .int la_count])), (h_na_weights, .inl (c_na_weights, 32, .inl na_weights_8)), (h_na_joinedTo, .inl (c_na_joinedTo, 32, .inl na_joinedTo_5)), (h_la_symbolOf, .inl (c_la_symbolOf, 40, .inl la_symbolOf))] H → va_D A [(h_na, .inr (5, [u_na_symbols, u_na_lengths, u_na_codes, .ref h_na_weights, .ref h_na_joinedTo])), (h_la, .inr (8, [u_la_symbols, u_la_ways, .ref h_la_symbolOf, u_la_xs, u_la_ys, u_la_differs, u_la_sequence, .int la_count])), (h_na_weights, .inl (c_na_weights, 32, .inl na_weights_8)), (h_na_joinedTo, .inl (c_na_joinedTo, 32, .inl na_joinedTo_5)), (h_la_symbolOf, .inl (c_la_symbolOf, 40, .inl la_symbolOf))] → va_S A s.heap H locs → lv_has ls 3 [(2, .int v2_7), (0, .ref h_na), (1, .ref h_la)] → W p l e ({ frames := 0, cells := 0, slots := 0, locals := 0 } : Room) s m ([.ref h_na, .ref h_la] : List Value).toArray below meth c H locs 0 0 Q9 (F0 m 33 ls []) := by
      intro n9
      induction n9 with
      | zero =>
        intro v2_7 na_weights_8 H locs ls h hP hD hS hl
        exact absurd h (by simp [lp])
      | succ n9 ih_self33 =>
        intro v2_7 na_weights_8 H locs ls h hP hD hS hl
        obtain ⟨self33, e_self33, h⟩ := abs_k (P := fun z9 => f_CodeNames_weigh_L33 la_count na_joinedTo_5 la_symbolOf z9 (v2_7, na_weights_8) = some o) (lp_e h)
        rw [← e_self33] at ih_self33
        unfold f_CodeNames_weigh_L33 at h
        try dsimp only at h
        refine lv_iload_n hx hb d_CodeNames_weigh_33 rfl (lv_at hl 0 rfl) ?_
        refine lv_aload_n hx hb d_CodeNames_weigh_34 rfl (lv_at hl 2 rfl) ?_
        refine va_getN (D := (dC, dI)) (ci := 8) (v := .int la_count) (C := R_Layout) (T := T_Layout) (N := 8) hx hb hB iw_Layout hown hK hP 1 rfl rfl 7 (by decide) (va_Nw.use rfl (hnw.1 _ bn_242)) (fun _ h9 => h9) rfl d_CodeNames_weigh_35 ?_
        refine lv_icmp_ge (tgt := 62) hx hb d_CodeNames_weigh_38 (by decide) (fun c_1 => ?_) (fun c_1 => ?_)
        · have h := if_t h c_1
          subst eQ
          exact W.vret hx hb hr (fun t ht hW => ⟨⟨(na_weights_8, na_joinedTo_5), rfl, Option.some.inj h, by rw [ht]; exact hP, va_K.moved hW.alike hK, hD⟩, hS.F ht⟩) hS.2.2 d_CodeNames_weigh_62
        · have h := if_f h c_1
          refine lv_aload_n hx hb d_CodeNames_weigh_41 rfl (lv_at hl 1 rfl) ?_
          refine va_get (D := (dC, dI)) (ci := 5) (v := .ref h_na_weights) (C := R_CodeNames) (T := T_CodeNames) (N := 5) hx hb hB iw_CodeNames hown hK hP 0 rfl rfl 3 (by decide) (hB _ bw_116) (fun _ h9 => h9) rfl d_CodeNames_weigh_42 ?_
          refine lv_aload_n hx hb d_CodeNames_weigh_45 rfl (lv_at hl 2 rfl) ?_
          refine va_getN (D := (dC, dI)) (ci := 8) (v := .ref h_la_symbolOf) (C := R_Layout) (T := T_Layout) (N := 8) hx hb hB iw_Layout hown hK hP 1 rfl rfl 2 (by decide) (va_Nw.use rfl (hnw.1 _ bn_223)) (fun _ h9 => h9) rfl d_CodeNames_weigh_46 ?_
          refine lv_iload_n hx hb d_CodeNames_weigh_49 rfl (lv_at hl 0 rfl) ?_
          obtain ⟨hin, h⟩ := gq_e h
          refine va_iald hx hb hK hP 4 2 rfl rfl hin d_CodeNames_weigh_50 ?_
          refine lv_dup2_11 hx hb d_CodeNames_weigh_51 rfl rfl ?_
          obtain ⟨hin, h⟩ := gq_e h
          refine va_iald hx hb hK hP 2 0 rfl rfl hin d_CodeNames_weigh_52 ?_
          refine lv_iconst (v := 1) hx hb d_CodeNames_weigh_53 (by decide) ?_
          refine lv_iadd hx hb d_CodeNames_weigh_54 ?_
          refine lv_topi (fun w_9 e_w_9 => ?_)
          have h := nl_u e_w_9 h
          obtain ⟨hin, h⟩ := gq_e h
          refine va_iast hx hb hK hP hD hS 2 0 rfl rfl hin d_CodeNames_weigh_55 (fun H locs hP hD hS => ?_)
          have hP : va_P (dC, dI) CL [(h_na, .inr (5, [u_na_symbols, u_na_lengths, u_na_codes, .ref h_na_weights, .ref h_na_joinedTo])), (h_la, .inr (8, [u_la_symbols, u_la_ways, .ref h_la_symbolOf, u_la_xs, u_la_ys, u_la_differs, u_la_sequence, .int la_count])), (h_na_weights, .inl (c_na_weights, 32, .inl (upd na_weights_8 ((la_symbolOf (v2_7).toNatClampNeg)).toNatClampNeg w_9))), (h_na_joinedTo, .inl (c_na_joinedTo, 32, .inl na_joinedTo_5)), (h_la_symbolOf, .inl (c_la_symbolOf, 40, .inl la_symbolOf))] H := hP
          have hD : va_D A [(h_na, .inr (5, [u_na_symbols, u_na_lengths, u_na_codes, .ref h_na_weights, .ref h_na_joinedTo])), (h_la, .inr (8, [u_la_symbols, u_la_ways, .ref h_la_symbolOf, u_la_xs, u_la_ys, u_la_differs, u_la_sequence, .int la_count])), (h_na_weights, .inl (c_na_weights, 32, .inl (upd na_weights_8 ((la_symbolOf (v2_7).toNatClampNeg)).toNatClampNeg w_9))), (h_na_joinedTo, .inl (c_na_joinedTo, 32, .inl na_joinedTo_5)), (h_la_symbolOf, .inl (c_la_symbolOf, 40, .inl la_symbolOf))] := hD
          obtain ⟨v2_10, e_v2_10⟩ : ∃ y9 : Int32, y9 = (v2_7 + (1 : Int32)) := ⟨_, rfl⟩
          have h := nl_u e_v2_10 h
          refine lv_iinc (v := v2_10) (lv' := [(2, .int v2_10), (0, .ref h_na), (1, .ref h_la)]) hx hb d_CodeNames_weigh_56 hl (k := 0) rfl (by rw [e_v2_10]; rfl) (by decide) rfl (fun ls hl => ?_)
          refine lv_goto (tgt := 33) hx hb d_CodeNames_weigh_59 (by decide) ?_
          exact ih_self33 _ _ _ _ _ h hP hD hS hl
    exact w_self33 FU _ _ _ _ _ h hP hD hS hl
  have w_self2 : ∀ n9 : Nat, ∀ (v2_1 : Int32) (na_weights_2 : (Nat → Int32)) (na_joinedTo_3 : (Nat → Int32)) (H : Heap) (locs : List Loc) (ls : Array Slot), lp (f_CodeNames_weigh_L2 k31) n9 (v2_1, na_weights_2, na_joinedTo_3) = some o → va_P (dC, dI) CL [(h_na, .inr (5, [u_na_symbols, u_na_lengths, u_na_codes, .ref h_na_weights, .ref h_na_joinedTo])), (h_la, .inr (8, [u_la_symbols, u_la_ways, .ref h_la_symbolOf, u_la_xs, u_la_ys, u_la_differs, u_la_sequence, .int la_count])), (h_na_weights, .inl (c_na_weights, 32, .inl na_weights_2)), (h_na_joinedTo, .inl (c_na_joinedTo, 32, .inl na_joinedTo_3)), (h_la_symbolOf, .inl (c_la_symbolOf, 40, .inl la_symbolOf))] H → va_D A [(h_na, .inr (5, [u_na_symbols, u_na_lengths, u_na_codes, .ref h_na_weights, .ref h_na_joinedTo])), (h_la, .inr (8, [u_la_symbols, u_la_ways, .ref h_la_symbolOf, u_la_xs, u_la_ys, u_la_differs, u_la_sequence, .int la_count])), (h_na_weights, .inl (c_na_weights, 32, .inl na_weights_2)), (h_na_joinedTo, .inl (c_na_joinedTo, 32, .inl na_joinedTo_3)), (h_la_symbolOf, .inl (c_la_symbolOf, 40, .inl la_symbolOf))] → va_S A s.heap H locs → lv_has ls 3 [(2, .int v2_1), (0, .ref h_na), (1, .ref h_la)] → W p l e ({ frames := 0, cells := 0, slots := 0, locals := 0 } : Room) s m ([.ref h_na, .ref h_la] : List Value).toArray below meth c H locs 0 0 Q9 (F0 m 2 ls []) := by
    intro n9
    induction n9 with
    | zero =>
      intro v2_1 na_weights_2 na_joinedTo_3 H locs ls h hP hD hS hl
      exact absurd h (by simp [lp])
    | succ n9 ih_self2 =>
      intro v2_1 na_weights_2 na_joinedTo_3 H locs ls h hP hD hS hl
      obtain ⟨self2, e_self2, h⟩ := abs_k (P := fun z9 => f_CodeNames_weigh_L2 k31 z9 (v2_1, na_weights_2, na_joinedTo_3) = some o) (lp_e h)
      rw [← e_self2] at ih_self2
      unfold f_CodeNames_weigh_L2 at h
      try dsimp only at h
      refine lv_iload_n hx hb d_CodeNames_weigh_2 rfl (lv_at hl 0 rfl) ?_
      refine lv_aload_n hx hb d_CodeNames_weigh_3 rfl (lv_at hl 1 rfl) ?_
      refine va_get (D := (dC, dI)) (ci := 5) (v := .ref h_na_weights) (C := R_CodeNames) (T := T_CodeNames) (N := 5) hx hb hB iw_CodeNames hown hK hP 0 rfl rfl 3 (by decide) (hB _ bw_116) (fun _ h9 => h9) rfl d_CodeNames_weigh_4 ?_
      refine va_alen hx hb hK hP 2 0 rfl rfl rfl d_CodeNames_weigh_7 ?_
      refine lv_icmp_ge (tgt := 31) hx hb d_CodeNames_weigh_8 (by decide) (fun c_2 => ?_) (fun c_2 => ?_)
      · have h := if_t h c_2
        exact w_k31 _ _ _ _ _ h hP hD hS (lv_sub hl [1, 2] rfl)
      · have h := if_f h c_2
        refine lv_aload_n hx hb d_CodeNames_weigh_11 rfl (lv_at hl 1 rfl) ?_
        refine va_get (D := (dC, dI)) (ci := 5) (v := .ref h_na_weights) (C := R_CodeNames) (T := T_CodeNames) (N := 5) hx hb hB iw_CodeNames hown hK hP 0 rfl rfl 3 (by decide) (hB _ bw_116) (fun _ h9 => h9) rfl d_CodeNames_weigh_12 ?_
        refine lv_iload_n hx hb d_CodeNames_weigh_15 rfl (lv_at hl 0 rfl) ?_
        refine lv_iconst (v := 0) hx hb d_CodeNames_weigh_16 (by decide) ?_
        obtain ⟨hin, h⟩ := gq_e h
        refine va_iast hx hb hK hP hD hS 2 0 rfl rfl hin d_CodeNames_weigh_17 (fun H locs hP hD hS => ?_)
        have hP : va_P (dC, dI) CL [(h_na, .inr (5, [u_na_symbols, u_na_lengths, u_na_codes, .ref h_na_weights, .ref h_na_joinedTo])), (h_la, .inr (8, [u_la_symbols, u_la_ways, .ref h_la_symbolOf, u_la_xs, u_la_ys, u_la_differs, u_la_sequence, .int la_count])), (h_na_weights, .inl (c_na_weights, 32, .inl (upd na_weights_2 (v2_1).toNatClampNeg (0 : Int32)))), (h_na_joinedTo, .inl (c_na_joinedTo, 32, .inl na_joinedTo_3)), (h_la_symbolOf, .inl (c_la_symbolOf, 40, .inl la_symbolOf))] H := hP
        have hD : va_D A [(h_na, .inr (5, [u_na_symbols, u_na_lengths, u_na_codes, .ref h_na_weights, .ref h_na_joinedTo])), (h_la, .inr (8, [u_la_symbols, u_la_ways, .ref h_la_symbolOf, u_la_xs, u_la_ys, u_la_differs, u_la_sequence, .int la_count])), (h_na_weights, .inl (c_na_weights, 32, .inl (upd na_weights_2 (v2_1).toNatClampNeg (0 : Int32)))), (h_na_joinedTo, .inl (c_na_joinedTo, 32, .inl na_joinedTo_3)), (h_la_symbolOf, .inl (c_la_symbolOf, 40, .inl la_symbolOf))] := hD
        refine lv_aload_n hx hb d_CodeNames_weigh_18 rfl (lv_at hl 1 rfl) ?_
        refine va_get (D := (dC, dI)) (ci := 5) (v := .ref h_na_joinedTo) (C := R_CodeNames) (T := T_CodeNames) (N := 5) hx hb hB iw_CodeNames hown hK hP 0 rfl rfl 4 (by decide) (hB _ bw_117) (fun _ h9 => h9) rfl d_CodeNames_weigh_19 ?_
        refine lv_iload_n hx hb d_CodeNames_weigh_22 rfl (lv_at hl 0 rfl) ?_
        refine lv_iconst (v := -1) hx hb d_CodeNames_weigh_23 (by decide) ?_
        obtain ⟨hin, h⟩ := gq_e h
        refine va_iast hx hb hK hP hD hS 3 1 rfl rfl hin d_CodeNames_weigh_24 (fun H locs hP hD hS => ?_)
        have hP : va_P (dC, dI) CL [(h_na, .inr (5, [u_na_symbols, u_na_lengths, u_na_codes, .ref h_na_weights, .ref h_na_joinedTo])), (h_la, .inr (8, [u_la_symbols, u_la_ways, .ref h_la_symbolOf, u_la_xs, u_la_ys, u_la_differs, u_la_sequence, .int la_count])), (h_na_weights, .inl (c_na_weights, 32, .inl (upd na_weights_2 (v2_1).toNatClampNeg (0 : Int32)))), (h_na_joinedTo, .inl (c_na_joinedTo, 32, .inl (upd na_joinedTo_3 (v2_1).toNatClampNeg (-1 : Int32)))), (h_la_symbolOf, .inl (c_la_symbolOf, 40, .inl la_symbolOf))] H := hP
        have hD : va_D A [(h_na, .inr (5, [u_na_symbols, u_na_lengths, u_na_codes, .ref h_na_weights, .ref h_na_joinedTo])), (h_la, .inr (8, [u_la_symbols, u_la_ways, .ref h_la_symbolOf, u_la_xs, u_la_ys, u_la_differs, u_la_sequence, .int la_count])), (h_na_weights, .inl (c_na_weights, 32, .inl (upd na_weights_2 (v2_1).toNatClampNeg (0 : Int32)))), (h_na_joinedTo, .inl (c_na_joinedTo, 32, .inl (upd na_joinedTo_3 (v2_1).toNatClampNeg (-1 : Int32)))), (h_la_symbolOf, .inl (c_la_symbolOf, 40, .inl la_symbolOf))] := hD
        obtain ⟨v2_6, e_v2_6⟩ : ∃ y9 : Int32, y9 = (v2_1 + (1 : Int32)) := ⟨_, rfl⟩
        have h := nl_u e_v2_6 h
        refine lv_iinc (v := v2_6) (lv' := [(2, .int v2_6), (0, .ref h_na), (1, .ref h_la)]) hx hb d_CodeNames_weigh_25 hl (k := 0) rfl (by rw [e_v2_6]; rfl) (by decide) rfl (fun ls hl => ?_)
        refine lv_goto (tgt := 2) hx hb d_CodeNames_weigh_28 (by decide) ?_
        exact ih_self2 _ _ _ _ _ _ h hP hD hS hl
  exact w_self2 FU _ _ _ _ _ _ h hP hD hS hl
set_option maxHeartbeats 4000000 in
set_option maxRecDepth 100000 in
theorem c_CodeNames_joinLeast (l : Launch) (dC : Nat → ClassId) (dI : Nat → Nat → Nat) (h_na : Nat) (h_na_weights : Nat) (h_na_joinedTo : Nat) (c_na_weights : ClassId) (c_na_joinedTo : ClassId) (u_na_symbols : Value) (u_na_lengths : Value) (u_na_codes : Value) (na_weights : (Nat → Int32)) (na_joinedTo : (Nat → Int32)) (p0 : Int32) (sz : Nat) (o : Int32 × (Nat → Int32)) (hf : f_CodeNames_joinLeast na_weights na_joinedTo p0 = some o) :
    Met l y_CodeNames_joinLeast ws_CodeNames_joinLeast { frames := 0, cells := 0, slots := 0, locals := 0 } (va_Pc [.ref h_na, .int p0] (PcM (dC, dI) [(h_na, .inr (5, [u_na_symbols, u_na_lengths, u_na_codes, .ref h_na_weights, .ref h_na_joinedTo])), (h_na_weights, .inl (c_na_weights, 32, .inl na_weights)), (h_na_joinedTo, .inl (c_na_joinedTo, 32, .inl na_joinedTo))] [(c_na_weights, .int), (c_na_joinedTo, .int)] sz))
      (va_Qi (fun (r : Int32) (u : (Nat → Int32)) => (r, u) = o) (fun u t => va_P (dC, dI) CL [(h_na, .inr (5, [u_na_symbols, u_na_lengths, u_na_codes, .ref h_na_weights, .ref h_na_joinedTo])), (h_na_weights, .inl (c_na_weights, 32, .inl na_weights)), (h_na_joinedTo, .inl (c_na_joinedTo, 32, .inl u))] t.heap ∧ va_K (dC, dI) CL [(c_na_weights, .int), (c_na_joinedTo, .int)] t ∧ va_D (va_A [(h_na, .inr (5, [u_na_symbols, u_na_lengths, u_na_codes, .ref h_na_weights, .ref h_na_joinedTo])), (h_na_weights, .inl (c_na_weights, 32, .inl na_weights)), (h_na_joinedTo, .inl (c_na_joinedTo, 32, .inl na_joinedTo))] sz) [(h_na, .inr (5, [u_na_symbols, u_na_lengths, u_na_codes, .ref h_na_weights, .ref h_na_joinedTo])), (h_na_weights, .inl (c_na_weights, 32, .inl na_weights)), (h_na_joinedTo, .inl (c_na_joinedTo, 32, .inl u))]) (va_A [(h_na, .inr (5, [u_na_symbols, u_na_lengths, u_na_codes, .ref h_na_weights, .ref h_na_joinedTo])), (h_na_weights, .inl (c_na_weights, 32, .inl na_weights)), (h_na_joinedTo, .inl (c_na_joinedTo, 32, .inl na_joinedTo))] sz)) 0 0 (va_A [(h_na, .inr (5, [u_na_symbols, u_na_lengths, u_na_codes, .ref h_na_weights, .ref h_na_joinedTo])), (h_na_weights, .inl (c_na_weights, 32, .inl na_weights)), (h_na_joinedTo, .inl (c_na_joinedTo, 32, .inl na_joinedTo))] sz) := by
  refine Met.ofW (cc := b_CodeNames_joinLeast) (maxL := 4) (ret := (some .int)) (by decide) rfl ?_
  intro p e s m args below meth c s₁ B hml hv
  obtain ⟨rfl, hsz, hP, hK, hD0, hnw⟩ := hv
  have hx := B.exec
  have hb := B.bytes
  have hr := B.returns
  have hts := atoms_spec (ws := ws_CodeNames_joinLeast) B.pre
  have hB : ∀ w ∈ BIG, w.before _ s = true := fun w h => hts w (List.mem_cons_of_mem _ h)
  have hown : s.vm.findClass R_CodeNames = some m.cls := findClass_of_methodNamed B.named
  have hlocks := B.notSynchronized
  subst hsz
  have hD := hD0.self (sz := s.heap.size)
  refine W_Q (fun Q9 eQ => ?_)
  generalize hAe : va_A [(h_na, .inr (5, [u_na_symbols, u_na_lengths, u_na_codes, .ref h_na_weights, .ref h_na_joinedTo])), (h_na_weights, .inl (c_na_weights, 32, .inl na_weights)), (h_na_joinedTo, .inl (c_na_joinedTo, 32, .inl na_joinedTo))] s.heap.size = A at hD eQ
  have hA : ∀ q : Nat, s.heap.size ≤ q → A q := fun q h => by rw [← hAe]; exact Or.inr h
  have hS : va_S A s.heap s.heap [] := va_S.rf
  have hl := lv_entry ([.ref h_na, .int p0]) (n := 4) (Nat.le_of_ble_eq_true rfl)
  rw [lg_entry_eq]
  generalize (lg_sl ([.ref h_na, .int p0]) ++ List.replicate (4 - (lg_sl ([.ref h_na, .int p0])).length) Slot.unset).toArray = ls at hl ⊢
  have hl : lv_has ls 4 [(0, .ref h_na), (1, .int p0)] := hl
  have h := hf
  unfold f_CodeNames_joinLeast at h
  refine lv_iconst (v := -1) hx hb d_CodeNames_joinLeast_0 (by decide) ?_
  refine lv_istore_n (lv' := [(2, .int (-1 : Int32)), (0, .ref h_na), (1, .int p0)]) hx hb d_CodeNames_joinLeast_1 rfl hl (by decide) rfl (fun ls hl => ?_)
  refine lv_iconst (v := 0) hx hb d_CodeNames_joinLeast_2 (by decide) ?_
  refine lv_istore_n (lv' := [(3, .int (0 : Int32)), (2, .int (-1 : Int32)), (0, .ref h_na), (1, .int p0)]) hx hb d_CodeNames_joinLeast_3 rfl hl (by decide) rfl (fun ls hl => ?_)
  obtain ⟨k56, e_k56, h⟩ := abs_k (P := fun k9 => lp (f_CodeNames_joinLeast_L4 p0 na_weights na_joinedTo k9) FU ((0 : Int32), (-1 : Int32)) = some o) h
  have w_k56 : ∀ (v2_3 : Int32) (H : Heap) (locs : List Loc) (ls : Array Slot), k56 v2_3 = some o → va_P (dC, dI) CL [(h_na, .inr (5, [u_na_symbols, u_na_lengths, u_na_codes, .ref h_na_weights, .ref h_na_joinedTo])), (h_na_weights, .inl (c_na_weights, 32, .inl na_weights)), (h_na_joinedTo, .inl (c_na_joinedTo, 32, .inl na_joinedTo))] H → va_D A [(h_na, .inr (5, [u_na_symbols, u_na_lengths, u_na_codes, .ref h_na_weights, .ref h_na_joinedTo])), (h_na_weights, .inl (c_na_weights, 32, .inl na_weights)), (h_na_joinedTo, .inl (c_na_joinedTo, 32, .inl na_joinedTo))] → va_S A s.heap H locs → lv_has ls 4 [(2, .int v2_3), (0, .ref h_na), (1, .int p0)] → W p l e ({ frames := 0, cells := 0, slots := 0, locals := 0 } : Room) s m ([.ref h_na, .int p0] : List Value).toArray below meth c H locs 0 0 Q9 (F0 m 56 ls []) := by
    intro v2_3 H locs ls h hP hD hS hl
    rw [e_k56] at h
    refine lv_iload_n hx hb d_CodeNames_joinLeast_56 rfl (lv_at hl 0 rfl) ?_
    refine lv_iconst (v := -1) hx hb d_CodeNames_joinLeast_57 (by decide) ?_
    refine lv_icmp_ne (tgt := 63) hx hb d_CodeNames_joinLeast_58 (by decide) (fun c_1 => ?_) (fun c_1 => ?_)
    · have h := if_f h c_1
      refine lv_aload_n hx hb d_CodeNames_joinLeast_63 rfl (lv_at hl 1 rfl) ?_
      refine va_get (D := (dC, dI)) (ci := 5) (v := .ref h_na_joinedTo) (C := R_CodeNames) (T := T_CodeNames) (N := 5) hx hb hB iw_CodeNames hown hK hP 0 rfl rfl 4 (by decide) (hB _ bw_117) (fun _ h9 => h9) rfl d_CodeNames_joinLeast_64 ?_
      refine lv_iload_n hx hb d_CodeNames_joinLeast_67 rfl (lv_at hl 0 rfl) ?_
      refine lv_iload_n hx hb d_CodeNames_joinLeast_68 rfl (lv_at hl 2 rfl) ?_
      obtain ⟨hin, h⟩ := gq_e h
      refine va_iast hx hb hK hP hD hS 2 1 rfl rfl hin d_CodeNames_joinLeast_69 (fun H locs hP hD hS => ?_)
      have hP : va_P (dC, dI) CL [(h_na, .inr (5, [u_na_symbols, u_na_lengths, u_na_codes, .ref h_na_weights, .ref h_na_joinedTo])), (h_na_weights, .inl (c_na_weights, 32, .inl na_weights)), (h_na_joinedTo, .inl (c_na_joinedTo, 32, .inl (upd na_joinedTo (v2_3).toNatClampNeg p0)))] H := hP
      have hD : va_D A [(h_na, .inr (5, [u_na_symbols, u_na_lengths, u_na_codes, .ref h_na_weights, .ref h_na_joinedTo])), (h_na_weights, .inl (c_na_weights, 32, .inl na_weights)), (h_na_joinedTo, .inl (c_na_joinedTo, 32, .inl (upd na_joinedTo (v2_3).toNatClampNeg p0)))] := hD
      refine lv_aload_n hx hb d_CodeNames_joinLeast_70 rfl (lv_at hl 1 rfl) ?_
      refine va_get (D := (dC, dI)) (ci := 5) (v := .ref h_na_weights) (C := R_CodeNames) (T := T_CodeNames) (N := 5) hx hb hB iw_CodeNames hown hK hP 0 rfl rfl 3 (by decide) (hB _ bw_116) (fun _ h9 => h9) rfl d_CodeNames_joinLeast_71 ?_
      refine lv_iload_n hx hb d_CodeNames_joinLeast_74 rfl (lv_at hl 0 rfl) ?_
      obtain ⟨hin, h⟩ := gq_e h
      refine va_iald hx hb hK hP 1 0 rfl rfl hin d_CodeNames_joinLeast_75 ?_
      subst eQ
      exact W.iret (v := (na_weights (v2_3).toNatClampNeg)) hx hb hr (fun t ht hW => ⟨⟨_, (upd na_joinedTo (v2_3).toNatClampNeg p0), rfl, Option.some.inj h, by rw [ht]; exact hP, va_K.moved hW.alike hK, hD⟩, hS.F ht⟩) hS.2.2 d_CodeNames_joinLeast_76
    · have h := if_t h c_1
      refine lv_iconst (v := 0) hx hb d_CodeNames_joinLeast_61 (by decide) ?_
      subst eQ
      exact W.iret (v := (0 : Int32)) hx hb hr (fun t ht hW => ⟨⟨_, na_joinedTo, rfl, Option.some.inj h, by rw [ht]; exact hP, va_K.moved hW.alike hK, hD⟩, hS.F ht⟩) hS.2.2 d_CodeNames_joinLeast_62
  have w_self4 : ∀ n9 : Nat, ∀ (v3_1 : Int32) (v2_2 : Int32) (H : Heap) (locs : List Loc) (ls : Array Slot), lp (f_CodeNames_joinLeast_L4 p0 na_weights na_joinedTo k56) n9 (v3_1, v2_2) = some o → va_P (dC, dI) CL [(h_na, .inr (5, [u_na_symbols, u_na_lengths, u_na_codes, .ref h_na_weights, .ref h_na_joinedTo])), (h_na_weights, .inl (c_na_weights, 32, .inl na_weights)), (h_na_joinedTo, .inl (c_na_joinedTo, 32, .inl na_joinedTo))] H → va_D A [(h_na, .inr (5, [u_na_symbols, u_na_lengths, u_na_codes, .ref h_na_weights, .ref h_na_joinedTo])), (h_na_weights, .inl (c_na_weights, 32, .inl na_weights)), (h_na_joinedTo, .inl (c_na_joinedTo, 32, .inl na_joinedTo))] → va_S A s.heap H locs → lv_has ls 4 [(3, .int v3_1), (2, .int v2_2), (0, .ref h_na), (1, .int p0)] → W p l e ({ frames := 0, cells := 0, slots := 0, locals := 0 } : Room) s m ([.ref h_na, .int p0] : List Value).toArray below meth c H locs 0 0 Q9 (F0 m 4 ls []) := by
    intro n9
    induction n9 with
    | zero =>
      intro v3_1 v2_2 H locs ls h hP hD hS hl
      exact absurd h (by simp [lp])
    | succ n9 ih_self4 =>
      intro v3_1 v2_2 H locs ls h hP hD hS hl
      obtain ⟨self4, e_self4, h⟩ := abs_k (P := fun z9 => f_CodeNames_joinLeast_L4 p0 na_weights na_joinedTo k56 z9 (v3_1, v2_2) = some o) (lp_e h)
      rw [← e_self4] at ih_self4
      unfold f_CodeNames_joinLeast_L4 at h
      try dsimp only at h
      refine lv_iload_n hx hb d_CodeNames_joinLeast_4 rfl (lv_at hl 0 rfl) ?_
      refine lv_iload_n hx hb d_CodeNames_joinLeast_5 rfl (lv_at hl 3 rfl) ?_
      refine lv_icmp_ge (tgt := 56) hx hb d_CodeNames_joinLeast_6 (by decide) (fun c_2 => ?_) (fun c_2 => ?_)
      · have h := if_t h c_2
        exact w_k56 _ _ _ _ h hP hD hS (lv_sub hl [1, 2, 3] rfl)
      · have h := if_f h c_2
        refine lv_aload_n hx hb d_CodeNames_joinLeast_9 rfl (lv_at hl 2 rfl) ?_
        refine va_get (D := (dC, dI)) (ci := 5) (v := .ref h_na_weights) (C := R_CodeNames) (T := T_CodeNames) (N := 5) hx hb hB iw_CodeNames hown hK hP 0 rfl rfl 3 (by decide) (hB _ bw_116) (fun _ h9 => h9) rfl d_CodeNames_joinLeast_10 ?_
        refine lv_iload_n hx hb d_CodeNames_joinLeast_13 rfl (lv_at hl 0 rfl) ?_
        obtain ⟨hin, h⟩ := gq_e h
        refine va_iald hx hb hK hP 1 0 rfl rfl hin d_CodeNames_joinLeast_14 ?_
        obtain ⟨j50, e_j50, h⟩ := jn_e h
        have w_j50 : ∀ (v2_4 : Int32) (H : Heap) (locs : List Loc) (ls : Array Slot), j50 v2_4 = some o → va_P (dC, dI) CL [(h_na, .inr (5, [u_na_symbols, u_na_lengths, u_na_codes, .ref h_na_weights, .ref h_na_joinedTo])), (h_na_weights, .inl (c_na_weights, 32, .inl na_weights)), (h_na_joinedTo, .inl (c_na_joinedTo, 32, .inl na_joinedTo))] H → va_D A [(h_na, .inr (5, [u_na_symbols, u_na_lengths, u_na_codes, .ref h_na_weights, .ref h_na_joinedTo])), (h_na_weights, .inl (c_na_weights, 32, .inl na_weights)), (h_na_joinedTo, .inl (c_na_joinedTo, 32, .inl na_joinedTo))] → va_S A s.heap H locs → lv_has ls 4 [(3, .int v3_1), (2, .int v2_4), (0, .ref h_na), (1, .int p0)] → W p l e ({ frames := 0, cells := 0, slots := 0, locals := 0 } : Room) s m ([.ref h_na, .int p0] : List Value).toArray below meth c H locs 0 0 Q9 (F0 m 50 ls []) := by
          intro v2_4 H locs ls h hP hD hS hl
          rw [e_j50] at h
          obtain ⟨v3_5, e_v3_5⟩ : ∃ y9 : Int32, y9 = (v3_1 + (1 : Int32)) := ⟨_, rfl⟩
          have h := nl_u e_v3_5 h
          refine lv_iinc (v := v3_5) (lv' := [(3, .int v3_5), (2, .int v2_4), (0, .ref h_na), (1, .int p0)]) hx hb d_CodeNames_joinLeast_50 hl (k := 0) rfl (by rw [e_v3_5]; rfl) (by decide) rfl (fun ls hl => ?_)
          refine lv_goto (tgt := 4) hx hb d_CodeNames_joinLeast_53 (by decide) ?_
          exact ih_self4 _ _ _ _ _ h hP hD hS hl
        refine lv_if_le (tgt := 50) hx hb d_CodeNames_joinLeast_15 (by decide) (fun c_3 => ?_) (fun c_3 => ?_)
        · have h := if_t h c_3
          exact w_j50 _ _ _ _ h hP hD hS hl
        · have h := if_f h c_3
          refine lv_aload_n hx hb d_CodeNames_joinLeast_18 rfl (lv_at hl 2 rfl) ?_
          refine va_get (D := (dC, dI)) (ci := 5) (v := .ref h_na_joinedTo) (C := R_CodeNames) (T := T_CodeNames) (N := 5) hx hb hB iw_CodeNames hown hK hP 0 rfl rfl 4 (by decide) (hB _ bw_117) (fun _ h9 => h9) rfl d_CodeNames_joinLeast_19 ?_
          refine lv_iload_n hx hb d_CodeNames_joinLeast_22 rfl (lv_at hl 0 rfl) ?_
          obtain ⟨hin, h⟩ := gq_e h
          refine va_iald hx hb hK hP 2 1 rfl rfl hin d_CodeNames_joinLeast_23 ?_
          refine lv_iconst (v := -1) hx hb d_CodeNames_joinLeast_24 (by decide) ?_
          refine lv_icmp_ne (tgt := 50) hx hb d_CodeNames_joinLeast_25 (by decide) (fun c_4 => ?_) (fun c_4 => ?_)
          · have h := if_f h c_4
            exact w_j50 _ _ _ _ h hP hD hS hl
          · have h := if_t h c_4
            refine lv_iload_n hx hb d_CodeNames_joinLeast_28 rfl (lv_at hl 1 rfl) ?_
            refine lv_iconst (v := -1) hx hb d_CodeNames_joinLeast_29 (by decide) ?_
            obtain ⟨j48, e_j48, h⟩ := jn_e h
            have w_j48 : ∀ (H : Heap) (locs : List Loc) (ls : Array Slot), j48 () = some o → va_P (dC, dI) CL [(h_na, .inr (5, [u_na_symbols, u_na_lengths, u_na_codes, .ref h_na_weights, .ref h_na_joinedTo])), (h_na_weights, .inl (c_na_weights, 32, .inl na_weights)), (h_na_joinedTo, .inl (c_na_joinedTo, 32, .inl na_joinedTo))] H → va_D A [(h_na, .inr (5, [u_na_symbols, u_na_lengths, u_na_codes, .ref h_na_weights, .ref h_na_joinedTo])), (h_na_weights, .inl (c_na_weights, 32, .inl na_weights)), (h_na_joinedTo, .inl (c_na_joinedTo, 32, .inl na_joinedTo))] → va_S A s.heap H locs → lv_has ls 4 [(3, .int v3_1), (0, .ref h_na), (1, .int p0)] → W p l e ({ frames := 0, cells := 0, slots := 0, locals := 0 } : Room) s m ([.ref h_na, .int p0] : List Value).toArray below meth c H locs 0 0 Q9 (F0 m 48 ls []) := by
              intro H locs ls h hP hD hS hl
              rw [e_j48] at h
              refine lv_iload_n hx hb d_CodeNames_joinLeast_48 rfl (lv_at hl 0 rfl) ?_
              refine lv_istore_n (lv' := [(2, .int v3_1), (3, .int v3_1), (0, .ref h_na), (1, .int p0)]) hx hb d_CodeNames_joinLeast_49 rfl hl (by decide) rfl (fun ls hl => ?_)
              exact w_j50 _ _ _ _ h hP hD hS (lv_sub hl [1, 0, 2, 3] rfl)
            refine lv_icmp_eq (tgt := 48) hx hb d_CodeNames_joinLeast_30 (by decide) (fun c_5 => ?_) (fun c_5 => ?_)
            · have h := if_t h c_5
              exact w_j48 _ _ _ h hP hD hS (lv_sub hl [0, 2, 3] rfl)
            · have h := if_f h c_5
              refine lv_aload_n hx hb d_CodeNames_joinLeast_33 rfl (lv_at hl 2 rfl) ?_
              refine va_get (D := (dC, dI)) (ci := 5) (v := .ref h_na_weights) (C := R_CodeNames) (T := T_CodeNames) (N := 5) hx hb hB iw_CodeNames hown hK hP 0 rfl rfl 3 (by decide) (hB _ bw_116) (fun _ h9 => h9) rfl d_CodeNames_joinLeast_34 ?_
              refine lv_iload_n hx hb d_CodeNames_joinLeast_37 rfl (lv_at hl 0 rfl) ?_
              obtain ⟨hin, h⟩ := gq_e h
              refine va_iald hx hb hK hP 1 0 rfl rfl hin d_CodeNames_joinLeast_38 ?_
              refine lv_aload_n hx hb d_CodeNames_joinLeast_39 rfl (lv_at hl 2 rfl) ?_
              refine va_get (D := (dC, dI)) (ci := 5) (v := .ref h_na_weights) (C := R_CodeNames) (T := T_CodeNames) (N := 5) hx hb hB iw_CodeNames hown hK hP 0 rfl rfl 3 (by decide) (hB _ bw_116) (fun _ h9 => h9) rfl d_CodeNames_joinLeast_40 ?_
              refine lv_iload_n hx hb d_CodeNames_joinLeast_43 rfl (lv_at hl 1 rfl) ?_
              obtain ⟨hin, h⟩ := gq_e h
              refine va_iald hx hb hK hP 1 0 rfl rfl hin d_CodeNames_joinLeast_44 ?_
              refine lv_icmp_ge (tgt := 50) hx hb d_CodeNames_joinLeast_45 (by decide) (fun c_6 => ?_) (fun c_6 => ?_)
              · have h := if_t h c_6
                exact w_j50 _ _ _ _ h hP hD hS hl
              · have h := if_f h c_6
                exact w_j48 _ _ _ h hP hD hS (lv_sub hl [0, 2, 3] rfl)
  exact w_self4 FU _ _ _ _ _ h hP hD hS hl
set_option maxHeartbeats 4000000 in
set_option maxRecDepth 100000 in
theorem c_CodeNames_joinsOf (l : Launch) (dC : Nat → ClassId) (dI : Nat → Nat → Nat) (h_na : Nat) (h_na_joinedTo : Nat) (c_na_joinedTo : ClassId) (u_na_symbols : Value) (u_na_lengths : Value) (u_na_codes : Value) (u_na_weights : Value) (na_joinedTo : (Nat → Int32)) (p0 : Int32) (o : Int32) (hf : f_CodeNames_joinsOf na_joinedTo p0 = some o) :
    Met l y_CodeNames_joinsOf ws_CodeNames_joinsOf { frames := 0, cells := 0, slots := 0, locals := 0 } (va_Pc [.ref h_na, .int p0] (PcP (dC, dI) [(h_na, .inr (5, [u_na_symbols, u_na_lengths, u_na_codes, u_na_weights, .ref h_na_joinedTo])), (h_na_joinedTo, .inl (c_na_joinedTo, 32, .inl na_joinedTo))] [(c_na_joinedTo, .int)]))
      (vp_Si (fun r => r = o)) 0 0 (fun _ => False) := by
  refine Met.ofW (cc := b_CodeNames_joinsOf) (maxL := 4) (ret := (some .int)) (by decide) rfl ?_
  intro p e s m args below meth c s₁ B hml hv
  obtain ⟨rfl, hP, hK, hnw⟩ := hv
  have hx := B.exec
  have hb := B.bytes
  have hr := B.returns
  have hts := atoms_spec (ws := ws_CodeNames_joinsOf) B.pre
  have hB : ∀ w ∈ BIG, w.before _ s = true := fun w h => hts w (List.mem_cons_of_mem _ h)
  have hown : s.vm.findClass R_CodeNames = some m.cls := findClass_of_methodNamed B.named
  have hlocks := B.notSynchronized
  refine W_Q (fun Q9 eQ => ?_)
  have hl := lv_entry ([.ref h_na, .int p0]) (n := 4) (Nat.le_of_ble_eq_true rfl)
  rw [lg_entry_eq]
  generalize (lg_sl ([.ref h_na, .int p0]) ++ List.replicate (4 - (lg_sl ([.ref h_na, .int p0])).length) Slot.unset).toArray = ls at hl ⊢
  have hl : lv_has ls 4 [(0, .ref h_na), (1, .int p0)] := hl
  have h := hf
  unfold f_CodeNames_joinsOf at h
  refine lv_iconst (v := 0) hx hb d_CodeNames_joinsOf_0 (by decide) ?_
  refine lv_istore_n (lv' := [(2, .int (0 : Int32)), (0, .ref h_na), (1, .int p0)]) hx hb d_CodeNames_joinsOf_1 rfl hl (by decide) rfl (fun ls hl => ?_)
  refine lv_aload_n hx hb d_CodeNames_joinsOf_2 rfl (lv_at hl 1 rfl) ?_
  refine va_get (D := (dC, dI)) (ci := 5) (v := .ref h_na_joinedTo) (C := R_CodeNames) (T := T_CodeNames) (N := 5) hx hb hB iw_CodeNames hown hK hP 0 rfl rfl 4 (by decide) (hB _ bw_117) (fun _ h9 => h9) rfl d_CodeNames_joinsOf_3 ?_
  refine lv_iload_n hx hb d_CodeNames_joinsOf_6 rfl (lv_at hl 2 rfl) ?_
  obtain ⟨hin, h⟩ := gq_e h
  refine va_iald hx hb hK hP 1 0 rfl rfl hin d_CodeNames_joinsOf_7 ?_
  refine lv_topi (fun v3_1 e_v3_1 => ?_)
  have h := nl_u e_v3_1 h
  refine lv_istore_n (lv' := [(3, .int v3_1), (2, .int (0 : Int32)), (0, .ref h_na), (1, .int p0)]) hx hb d_CodeNames_joinsOf_8 rfl hl (by decide) rfl (fun ls hl => ?_)
  have w_self9 : ∀ n9 : Nat, ∀ (v3_2 : Int32) (v2_3 : Int32) (ls : Array Slot), lp (f_CodeNames_joinsOf_L9 na_joinedTo) n9 (v3_2, v2_3) = some o → lv_has ls 4 [(3, .int v3_2), (2, .int v2_3), (0, .ref h_na)] → W p l e ({ frames := 0, cells := 0, slots := 0, locals := 0 } : Room) s m ([.ref h_na, .int p0] : List Value).toArray below meth c s.heap [] 0 0 Q9 (F0 m 9 ls []) := by
    intro n9
    induction n9 with
    | zero =>
      intro v3_2 v2_3 ls h hl
      exact absurd h (by simp [lp])
    | succ n9 ih_self9 =>
      intro v3_2 v2_3 ls h hl
      obtain ⟨self9, e_self9, h⟩ := abs_k (P := fun z9 => f_CodeNames_joinsOf_L9 na_joinedTo z9 (v3_2, v2_3) = some o) (lp_e h)
      rw [← e_self9] at ih_self9
      unfold f_CodeNames_joinsOf_L9 at h
      try dsimp only at h
      refine lv_iload_n hx hb d_CodeNames_joinsOf_9 rfl (lv_at hl 1 rfl) ?_
      refine lv_bipush (v := 15) hx hb d_CodeNames_joinsOf_10 (by decide) ?_
      refine lv_icmp_ge (tgt := 33) hx hb d_CodeNames_joinsOf_12 (by decide) (fun c_1 => ?_) (fun c_1 => ?_)
      · have h := if_t h c_1
        refine lv_iload_n hx hb d_CodeNames_joinsOf_33 rfl (lv_at hl 1 rfl) ?_
        subst eQ
        exact W.iret (v := v2_3) hx hb hr (fun t ht hW => ⟨_, rfl, Option.some.inj h, ht⟩) (fun _ h9 => absurd h9 List.not_mem_nil) d_CodeNames_joinsOf_34
      · have h := if_f h c_1
        refine lv_iload_n hx hb d_CodeNames_joinsOf_15 rfl (lv_at hl 0 rfl) ?_
        refine lv_iconst (v := -1) hx hb d_CodeNames_joinsOf_16 (by decide) ?_
        refine lv_icmp_eq (tgt := 33) hx hb d_CodeNames_joinsOf_17 (by decide) (fun c_2 => ?_) (fun c_2 => ?_)
        · have h := if_t h c_2
          refine lv_iload_n hx hb d_CodeNames_joinsOf_33 rfl (lv_at hl 1 rfl) ?_
          subst eQ
          exact W.iret (v := v2_3) hx hb hr (fun t ht hW => ⟨_, rfl, Option.some.inj h, ht⟩) (fun _ h9 => absurd h9 List.not_mem_nil) d_CodeNames_joinsOf_34
        · have h := if_f h c_2
          obtain ⟨v2_4, e_v2_4⟩ : ∃ y9 : Int32, y9 = (v2_3 + (1 : Int32)) := ⟨_, rfl⟩
          have h := nl_u e_v2_4 h
          refine lv_iinc (v := v2_4) (lv' := [(2, .int v2_4), (3, .int v3_2), (0, .ref h_na)]) hx hb d_CodeNames_joinsOf_20 hl (k := 1) rfl (by rw [e_v2_4]; rfl) (by decide) rfl (fun ls hl => ?_)
          refine lv_aload_n hx hb d_CodeNames_joinsOf_23 rfl (lv_at hl 2 rfl) ?_
          refine va_get (D := (dC, dI)) (ci := 5) (v := .ref h_na_joinedTo) (C := R_CodeNames) (T := T_CodeNames) (N := 5) hx hb hB iw_CodeNames hown hK hP 0 rfl rfl 4 (by decide) (hB _ bw_117) (fun _ h9 => h9) rfl d_CodeNames_joinsOf_24 ?_
          refine lv_iload_n hx hb d_CodeNames_joinsOf_27 rfl (lv_at hl 1 rfl) ?_
          obtain ⟨hin, h⟩ := gq_e h
          refine va_iald hx hb hK hP 1 0 rfl rfl hin d_CodeNames_joinsOf_28 ?_
          refine lv_topi (fun v3_5 e_v3_5 => ?_)
          have h := nl_u e_v3_5 h
          refine lv_istore_n (lv' := [(3, .int v3_5), (2, .int v2_4), (0, .ref h_na)]) hx hb d_CodeNames_joinsOf_29 rfl hl (by decide) rfl (fun ls hl => ?_)
          refine lv_goto (tgt := 9) hx hb d_CodeNames_joinsOf_30 (by decide) ?_
          exact ih_self9 _ _ _ h hl
  exact w_self9 FU _ _ _ h (lv_sub hl [0, 1, 2] rfl)
set_option maxHeartbeats 4000000 in
set_option maxRecDepth 100000 in
theorem c_CodeNames_areAllowed (l : Launch) (dC : Nat → ClassId) (dI : Nat → Nat → Nat) (h_na : Nat) (h_di : Nat) (h_na_lengths : Nat) (c_na_lengths : ClassId) (u_na_codes : Value) (u_na_weights : Value) (u_na_joinedTo : Value) (u_di_widths : Value) (u_di_heights : Value) (u_di_samples : Value) (di_count : Int32) (na_lengths : (Nat → Int32)) (p0 : Int32) (o : Int32) (hf : f_CodeNames_areAllowed di_count na_lengths p0 = some o) :
    Met l y_CodeNames_areAllowed ws_CodeNames_areAllowed { frames := 0, cells := 0, slots := 0, locals := 0 } (va_Pc [.ref h_na, .int p0] (PcP (dC, dI) [(h_na, .inr (5, [.ref h_di, .ref h_na_lengths, u_na_codes, u_na_weights, u_na_joinedTo])), (h_di, .inr (6, [u_di_widths, u_di_heights, u_di_samples, .int di_count])), (h_na_lengths, .inl (c_na_lengths, 16, .inl na_lengths))] [(c_na_lengths, .int)]))
      (vp_Si (fun r => r = o)) 0 0 (fun _ => False) := by
  refine Met.ofW (cc := b_CodeNames_areAllowed) (maxL := 6) (ret := (some .boolean)) (by decide) rfl ?_
  intro p e s m args below meth c s₁ B hml hv
  obtain ⟨rfl, hP, hK, hnw⟩ := hv
  have hx := B.exec
  have hb := B.bytes
  have hr := B.returns
  have hts := atoms_spec (ws := ws_CodeNames_areAllowed) B.pre
  have hB : ∀ w ∈ BIG, w.before _ s = true := fun w h => hts w (List.mem_cons_of_mem _ h)
  have hown : s.vm.findClass R_CodeNames = some m.cls := findClass_of_methodNamed B.named
  have hlocks := B.notSynchronized
  refine W_Q (fun Q9 eQ => ?_)
  have hl := lv_entry ([.ref h_na, .int p0]) (n := 6) (Nat.le_of_ble_eq_true rfl)
  rw [lg_entry_eq]
  generalize (lg_sl ([.ref h_na, .int p0]) ++ List.replicate (6 - (lg_sl ([.ref h_na, .int p0])).length) Slot.unset).toArray = ls at hl ⊢
  have hl : lv_has ls 6 [(0, .ref h_na), (1, .int p0)] := hl
  have h := hf
  unfold f_CodeNames_areAllowed at h
  refine lv_ldc (v := 32768) hx hb hown (hts (.constant R_CodeNames 85 (32768)) (by decide +kernel)) d_CodeNames_areAllowed_0 ?_
  refine lv_istore_n (lv' := [(2, .int (32768 : Int32)), (0, .ref h_na), (1, .int p0)]) hx hb d_CodeNames_areAllowed_2 rfl hl (by decide) rfl (fun ls hl => ?_)
  refine lv_iconst (v := 0) hx hb d_CodeNames_areAllowed_3 (by decide) ?_
  refine lv_istore_n (lv' := [(3, .int (0 : Int32)), (2, .int (32768 : Int32)), (0, .ref h_na), (1, .int p0)]) hx hb d_CodeNames_areAllowed_4 rfl hl (by decide) rfl (fun ls hl => ?_)
  refine lv_iconst (v := 0) hx hb d_CodeNames_areAllowed_5 (by decide) ?_
  refine lv_istore (lv' := [(4, .int (0 : Int32)), (3, .int (0 : Int32)), (2, .int (32768 : Int32)), (0, .ref h_na), (1, .int p0)]) hx hb d_CodeNames_areAllowed_6 hl (by decide) rfl (fun ls hl => ?_)
  refine lv_iconst (v := 0) hx hb d_CodeNames_areAllowed_8 (by decide) ?_
  refine lv_istore (lv' := [(5, .int (0 : Int32)), (4, .int (0 : Int32)), (3, .int (0 : Int32)), (2, .int (32768 : Int32)), (0, .ref h_na), (1, .int p0)]) hx hb d_CodeNames_areAllowed_9 hl (by decide) rfl (fun ls hl => ?_)
  obtain ⟨k54, e_k54, h⟩ := abs_k (P := fun k9 => lp (f_CodeNames_areAllowed_L11 di_count na_lengths k9) FU ((0 : Int32), (0 : Int32), (0 : Int32)) = some o) h
  have w_k54 : ∀ (v4_4 : Int32) (v3_5 : Int32) (ls : Array Slot), k54 v4_4 v3_5 = some o → lv_has ls 6 [(4, .int v4_4), (3, .int v3_5), (2, .int (32768 : Int32)), (1, .int p0)] → W p l e ({ frames := 0, cells := 0, slots := 0, locals := 0 } : Room) s m ([.ref h_na, .int p0] : List Value).toArray below meth c s.heap [] 0 0 Q9 (F0 m 54 ls []) := by
    intro v4_4 v3_5 ls h hl
    rw [e_k54] at h
    refine lv_iload hx hb d_CodeNames_areAllowed_54 (lv_at hl 0 rfl) ?_
    refine lv_iconst (v := 1) hx hb d_CodeNames_areAllowed_56 (by decide) ?_
    obtain ⟨j72, e_j72, h⟩ := jn_e h
    have w_j72 : ∀ (s_11 : Int32) (ls : Array Slot), j72 s_11 = some o → lv_has ls 6 [(4, .int v4_4), (3, .int v3_5), (2, .int (32768 : Int32)), (1, .int p0)] → W p l e ({ frames := 0, cells := 0, slots := 0, locals := 0 } : Room) s m ([.ref h_na, .int p0] : List Value).toArray below meth c s.heap [] 0 0 Q9 (F0 m 72 ls [.int s_11]) := by
      intro s_11 ls h hl
      rw [e_j72] at h
      refine lv_istore (lv' := [(5, .int s_11), (4, .int v4_4), (3, .int v3_5), (2, .int (32768 : Int32)), (1, .int p0)]) hx hb d_CodeNames_areAllowed_72 hl (by decide) rfl (fun ls hl => ?_)
      refine lv_iload_n hx hb d_CodeNames_areAllowed_74 rfl (lv_at hl 2 rfl) ?_
      refine lv_iload_n hx hb d_CodeNames_areAllowed_75 rfl (lv_at hl 3 rfl) ?_
      obtain ⟨j93, e_j93, h⟩ := jn_e h
      have w_j93 : ∀ (ls : Array Slot), j93 () = some o → lv_has ls 6 [] → W p l e ({ frames := 0, cells := 0, slots := 0, locals := 0 } : Room) s m ([.ref h_na, .int p0] : List Value).toArray below meth c s.heap [] 0 0 Q9 (F0 m 93 ls []) := by
        intro ls h hl
        rw [e_j93] at h
        refine lv_iconst (v := 1) hx hb d_CodeNames_areAllowed_93 (by decide) ?_
        refine lv_goto (tgt := 98) hx hb d_CodeNames_areAllowed_94 (by decide) ?_
        subst eQ
        exact W.zret (v := (1 : Int32)) hx hb hr rfl (fun t ht hW => ⟨_, rfl, Option.some.inj h, ht⟩) (fun _ h9 => absurd h9 List.not_mem_nil) d_CodeNames_areAllowed_98
      refine lv_icmp_eq (tgt := 93) hx hb d_CodeNames_areAllowed_76 (by decide) (fun c_1 => ?_) (fun c_1 => ?_)
      · have h := if_t h c_1
        exact w_j93 _ h (lv_sub hl [] rfl)
      · have h := if_f h c_1
        refine lv_iload hx hb d_CodeNames_areAllowed_79 (lv_at hl 0 rfl) ?_
        refine lv_if_ne (tgt := 93) hx hb d_CodeNames_areAllowed_81 (by decide) (fun c_2 => ?_) (fun c_2 => ?_)
        · have h := if_f h c_2
          exact w_j93 _ h (lv_sub hl [] rfl)
        · have h := if_t h c_2
          refine lv_iload hx hb d_CodeNames_areAllowed_84 (lv_at hl 1 rfl) ?_
          refine lv_if_ne (tgt := 97) hx hb d_CodeNames_areAllowed_86 (by decide) (fun c_3 => ?_) (fun c_3 => ?_)
          · have h := if_f h c_3
            refine lv_iconst (v := 0) hx hb d_CodeNames_areAllowed_97 (by decide) ?_
            subst eQ
            exact W.zret (v := (0 : Int32)) hx hb hr rfl (fun t ht hW => ⟨_, rfl, Option.some.inj h, ht⟩) (fun _ h9 => absurd h9 List.not_mem_nil) d_CodeNames_areAllowed_98
          · have h := if_t h c_3
            refine lv_iload_n hx hb d_CodeNames_areAllowed_89 rfl (lv_at hl 4 rfl) ?_
            refine lv_if_ne (tgt := 97) hx hb d_CodeNames_areAllowed_90 (by decide) (fun c_4 => ?_) (fun c_4 => ?_)
            · have h := if_f h c_4
              refine lv_iconst (v := 0) hx hb d_CodeNames_areAllowed_97 (by decide) ?_
              subst eQ
              exact W.zret (v := (0 : Int32)) hx hb hr rfl (fun t ht hW => ⟨_, rfl, Option.some.inj h, ht⟩) (fun _ h9 => absurd h9 List.not_mem_nil) d_CodeNames_areAllowed_98
            · have h := if_t h c_4
              exact w_j93 _ h (lv_sub hl [] rfl)
    obtain ⟨j71, e_j71, h⟩ := jn_e h
    have w_j71 : ∀ (ls : Array Slot), j71 () = some o → lv_has ls 6 [(4, .int v4_4), (3, .int v3_5), (2, .int (32768 : Int32)), (1, .int p0)] → W p l e ({ frames := 0, cells := 0, slots := 0, locals := 0 } : Room) s m ([.ref h_na, .int p0] : List Value).toArray below meth c s.heap [] 0 0 Q9 (F0 m 71 ls []) := by
      intro ls h hl
      rw [e_j71] at h
      refine lv_iconst (v := 0) hx hb d_CodeNames_areAllowed_71 (by decide) ?_
      exact w_j72 _ _ h hl
    refine lv_icmp_ne (tgt := 71) hx hb d_CodeNames_areAllowed_57 (by decide) (fun c_5 => ?_) (fun c_5 => ?_)
    · have h := if_f h c_5
      exact w_j71 _ h hl
    · have h := if_t h c_5
      refine lv_iload_n hx hb d_CodeNames_areAllowed_60 rfl (lv_at hl 1 rfl) ?_
      refine lv_iload_n hx hb d_CodeNames_areAllowed_61 rfl (lv_at hl 2 rfl) ?_
      refine lv_iconst (v := 2) hx hb d_CodeNames_areAllowed_62 (by decide) ?_
      refine lv_idiv hx hb d_CodeNames_areAllowed_63 (by decide) ?_
      refine lv_icmp_ne (tgt := 71) hx hb d_CodeNames_areAllowed_64 (by decide) (fun c_6 => ?_) (fun c_6 => ?_)
      · have h := if_f h c_6
        exact w_j71 _ h hl
      · have h := if_t h c_6
        refine lv_iconst (v := 1) hx hb d_CodeNames_areAllowed_67 (by decide) ?_
        refine lv_goto (tgt := 72) hx hb d_CodeNames_areAllowed_68 (by decide) ?_
        exact w_j72 _ _ h hl
  have w_self11 : ∀ n9 : Nat, ∀ (v5_1 : Int32) (v4_2 : Int32) (v3_3 : Int32) (ls : Array Slot), lp (f_CodeNames_areAllowed_L11 di_count na_lengths k54) n9 (v5_1, v4_2, v3_3) = some o → lv_has ls 6 [(5, .int v5_1), (4, .int v4_2), (3, .int v3_3), (2, .int (32768 : Int32)), (0, .ref h_na), (1, .int p0)] → W p l e ({ frames := 0, cells := 0, slots := 0, locals := 0 } : Room) s m ([.ref h_na, .int p0] : List Value).toArray below meth c s.heap [] 0 0 Q9 (F0 m 11 ls []) := by
    intro n9
    induction n9 with
    | zero =>
      intro v5_1 v4_2 v3_3 ls h hl
      exact absurd h (by simp [lp])
    | succ n9 ih_self11 =>
      intro v5_1 v4_2 v3_3 ls h hl
      obtain ⟨self11, e_self11, h⟩ := abs_k (P := fun z9 => f_CodeNames_areAllowed_L11 di_count na_lengths k54 z9 (v5_1, v4_2, v3_3) = some o) (lp_e h)
      rw [← e_self11] at ih_self11
      unfold f_CodeNames_areAllowed_L11 at h
      try dsimp only at h
      refine lv_iload hx hb d_CodeNames_areAllowed_11 (lv_at hl 0 rfl) ?_
      refine lv_aload_n hx hb d_CodeNames_areAllowed_13 rfl (lv_at hl 4 rfl) ?_
      refine va_get (D := (dC, dI)) (ci := 5) (v := .ref h_di) (C := R_CodeNames) (T := T_CodeNames) (N := 5) hx hb hB iw_CodeNames hown hK hP 0 rfl rfl 0 (by decide) (hB _ bw_113) (fun _ h9 => h9) rfl d_CodeNames_areAllowed_14 ?_
      refine va_getN (D := (dC, dI)) (ci := 6) (v := .int di_count) (C := R_Dictionary) (T := T_Dictionary) (N := 4) hx hb hB iw_Dictionary hown hK hP 1 rfl rfl 3 (by decide) (va_Nw.use rfl (hnw.1 _ bn_54)) (fun _ h9 => h9) rfl d_CodeNames_areAllowed_17 ?_
      refine lv_icmp_ge (tgt := 54) hx hb d_CodeNames_areAllowed_20 (by decide) (fun c_7 => ?_) (fun c_7 => ?_)
      · have h := if_t h c_7
        exact w_k54 _ _ _ h (lv_sub hl [1, 2, 3, 5] rfl)
      · have h := if_f h c_7
        refine lv_aload_n hx hb d_CodeNames_areAllowed_23 rfl (lv_at hl 4 rfl) ?_
        refine va_get (D := (dC, dI)) (ci := 5) (v := .ref h_na_lengths) (C := R_CodeNames) (T := T_CodeNames) (N := 5) hx hb hB iw_CodeNames hown hK hP 0 rfl rfl 1 (by decide) (hB _ bw_114) (fun _ h9 => h9) rfl d_CodeNames_areAllowed_24 ?_
        refine lv_iload hx hb d_CodeNames_areAllowed_27 (lv_at hl 0 rfl) ?_
        obtain ⟨hin, h⟩ := gq_e h
        refine va_iald hx hb hK hP 2 0 rfl rfl hin d_CodeNames_areAllowed_29 ?_
        obtain ⟨j48, e_j48, h⟩ := jn_e h
        have w_j48 : ∀ (v4_6 : Int32) (v3_7 : Int32) (ls : Array Slot), j48 v4_6 v3_7 = some o → lv_has ls 6 [(5, .int v5_1), (4, .int v4_6), (3, .int v3_7), (2, .int (32768 : Int32)), (0, .ref h_na), (1, .int p0)] → W p l e ({ frames := 0, cells := 0, slots := 0, locals := 0 } : Room) s m ([.ref h_na, .int p0] : List Value).toArray below meth c s.heap [] 0 0 Q9 (F0 m 48 ls []) := by
          intro v4_6 v3_7 ls h hl
          rw [e_j48] at h
          obtain ⟨v5_8, e_v5_8⟩ : ∃ y9 : Int32, y9 = (v5_1 + (1 : Int32)) := ⟨_, rfl⟩
          have h := nl_u e_v5_8 h
          refine lv_iinc (v := v5_8) (lv' := [(5, .int v5_8), (4, .int v4_6), (3, .int v3_7), (2, .int (32768 : Int32)), (0, .ref h_na), (1, .int p0)]) hx hb d_CodeNames_areAllowed_48 hl (k := 0) rfl (by rw [e_v5_8]; rfl) (by decide) rfl (fun ls hl => ?_)
          refine lv_goto (tgt := 11) hx hb d_CodeNames_areAllowed_51 (by decide) ?_
          exact ih_self11 _ _ _ _ h hl
        refine lv_if_le (tgt := 48) hx hb d_CodeNames_areAllowed_30 (by decide) (fun c_8 => ?_) (fun c_8 => ?_)
        · have h := if_t h c_8
          exact w_j48 _ _ _ h hl
        · have h := if_f h c_8
          refine lv_iload_n hx hb d_CodeNames_areAllowed_33 rfl (lv_at hl 2 rfl) ?_
          refine lv_iload_n hx hb d_CodeNames_areAllowed_34 rfl (lv_at hl 3 rfl) ?_
          refine lv_aload_n hx hb d_CodeNames_areAllowed_35 rfl (lv_at hl 4 rfl) ?_
          refine va_get (D := (dC, dI)) (ci := 5) (v := .ref h_na_lengths) (C := R_CodeNames) (T := T_CodeNames) (N := 5) hx hb hB iw_CodeNames hown hK hP 0 rfl rfl 1 (by decide) (hB _ bw_114) (fun _ h9 => h9) rfl d_CodeNames_areAllowed_36 ?_
          refine lv_iload hx hb d_CodeNames_areAllowed_39 (lv_at hl 0 rfl) ?_
          obtain ⟨hin, h⟩ := gq_e h
          refine va_iald hx hb hK hP 2 0 rfl rfl hin d_CodeNames_areAllowed_41 ?_
          refine lv_ishr hx hb d_CodeNames_areAllowed_42 ?_
          refine lv_iadd hx hb d_CodeNames_areAllowed_43 ?_
          refine lv_topi (fun v3_9 e_v3_9 => ?_)
          have h := nl_u e_v3_9 h
          refine lv_istore_n (lv' := [(3, .int v3_9), (5, .int v5_1), (4, .int v4_2), (2, .int (32768 : Int32)), (0, .ref h_na), (1, .int p0)]) hx hb d_CodeNames_areAllowed_44 rfl hl (by decide) rfl (fun ls hl => ?_)
          obtain ⟨v4_10, e_v4_10⟩ : ∃ y9 : Int32, y9 = (v4_2 + (1 : Int32)) := ⟨_, rfl⟩
          have h := nl_u e_v4_10 h
          refine lv_iinc (v := v4_10) (lv' := [(4, .int v4_10), (3, .int v3_9), (5, .int v5_1), (2, .int (32768 : Int32)), (0, .ref h_na), (1, .int p0)]) hx hb d_CodeNames_areAllowed_45 hl (k := 2) rfl (by rw [e_v4_10]; rfl) (by decide) rfl (fun ls hl => ?_)
          exact w_j48 _ _ _ h (lv_sub hl [2, 0, 1, 3, 4, 5] rfl)
  exact w_self11 FU _ _ _ _ h hl
set_option maxHeartbeats 4000000 in
set_option maxRecDepth 100000 in
theorem c_CodeNames_assignCodes (l : Launch) (dC : Nat → ClassId) (dI : Nat → Nat → Nat) (h_na : Nat) (h_di : Nat) (h_na_lengths : Nat) (h_na_codes : Nat) (c_na_lengths : ClassId) (c_na_codes : ClassId) (u_na_weights : Value) (u_na_joinedTo : Value) (u_di_widths : Value) (u_di_heights : Value) (u_di_samples : Value) (di_count : Int32) (na_lengths : (Nat → Int32)) (na_codes : (Nat → Int32)) (sz : Nat) (o : (Nat → Int32)) (hf : f_CodeNames_assignCodes di_count na_lengths na_codes = some o) :
    Met l y_CodeNames_assignCodes ws_CodeNames_assignCodes { frames := 0, cells := 0, slots := 0, locals := 0 } (va_Pc [.ref h_na] (PcM (dC, dI) [(h_na, .inr (5, [.ref h_di, .ref h_na_lengths, .ref h_na_codes, u_na_weights, u_na_joinedTo])), (h_di, .inr (6, [u_di_widths, u_di_heights, u_di_samples, .int di_count])), (h_na_lengths, .inl (c_na_lengths, 16, .inl na_lengths)), (h_na_codes, .inl (c_na_codes, 16, .inl na_codes))] [(c_na_lengths, .int), (c_na_codes, .int)] sz))
      (va_Qv (fun u : (Nat → Int32) => u = o) (fun u t => va_P (dC, dI) CL [(h_na, .inr (5, [.ref h_di, .ref h_na_lengths, .ref h_na_codes, u_na_weights, u_na_joinedTo])), (h_di, .inr (6, [u_di_widths, u_di_heights, u_di_samples, .int di_count])), (h_na_lengths, .inl (c_na_lengths, 16, .inl na_lengths)), (h_na_codes, .inl (c_na_codes, 16, .inl u))] t.heap ∧ va_K (dC, dI) CL [(c_na_lengths, .int), (c_na_codes, .int)] t ∧ va_D (va_A [(h_na, .inr (5, [.ref h_di, .ref h_na_lengths, .ref h_na_codes, u_na_weights, u_na_joinedTo])), (h_di, .inr (6, [u_di_widths, u_di_heights, u_di_samples, .int di_count])), (h_na_lengths, .inl (c_na_lengths, 16, .inl na_lengths)), (h_na_codes, .inl (c_na_codes, 16, .inl na_codes))] sz) [(h_na, .inr (5, [.ref h_di, .ref h_na_lengths, .ref h_na_codes, u_na_weights, u_na_joinedTo])), (h_di, .inr (6, [u_di_widths, u_di_heights, u_di_samples, .int di_count])), (h_na_lengths, .inl (c_na_lengths, 16, .inl na_lengths)), (h_na_codes, .inl (c_na_codes, 16, .inl u))]) (va_A [(h_na, .inr (5, [.ref h_di, .ref h_na_lengths, .ref h_na_codes, u_na_weights, u_na_joinedTo])), (h_di, .inr (6, [u_di_widths, u_di_heights, u_di_samples, .int di_count])), (h_na_lengths, .inl (c_na_lengths, 16, .inl na_lengths)), (h_na_codes, .inl (c_na_codes, 16, .inl na_codes))] sz)) 0 0 (va_A [(h_na, .inr (5, [.ref h_di, .ref h_na_lengths, .ref h_na_codes, u_na_weights, u_na_joinedTo])), (h_di, .inr (6, [u_di_widths, u_di_heights, u_di_samples, .int di_count])), (h_na_lengths, .inl (c_na_lengths, 16, .inl na_lengths)), (h_na_codes, .inl (c_na_codes, 16, .inl na_codes))] sz) := by
  refine Met.ofW (cc := b_CodeNames_assignCodes) (maxL := 4) (ret := none) (by decide) rfl ?_
  intro p e s m args below meth c s₁ B hml hv
  obtain ⟨rfl, hsz, hP, hK, hD0, hnw⟩ := hv
  have hx := B.exec
  have hb := B.bytes
  have hr := B.returns
  have hts := atoms_spec (ws := ws_CodeNames_assignCodes) B.pre
  have hB : ∀ w ∈ BIG, w.before _ s = true := fun w h => hts w (List.mem_cons_of_mem _ h)
  have hown : s.vm.findClass R_CodeNames = some m.cls := findClass_of_methodNamed B.named
  have hlocks := B.notSynchronized
  subst hsz
  have hD := hD0.self (sz := s.heap.size)
  refine W_Q (fun Q9 eQ => ?_)
  generalize hAe : va_A [(h_na, .inr (5, [.ref h_di, .ref h_na_lengths, .ref h_na_codes, u_na_weights, u_na_joinedTo])), (h_di, .inr (6, [u_di_widths, u_di_heights, u_di_samples, .int di_count])), (h_na_lengths, .inl (c_na_lengths, 16, .inl na_lengths)), (h_na_codes, .inl (c_na_codes, 16, .inl na_codes))] s.heap.size = A at hD eQ
  have hA : ∀ q : Nat, s.heap.size ≤ q → A q := fun q h => by rw [← hAe]; exact Or.inr h
  have hS : va_S A s.heap s.heap [] := va_S.rf
  have hl := lv_entry ([.ref h_na]) (n := 4) (Nat.le_of_ble_eq_true rfl)
  rw [lg_entry_eq]
  generalize (lg_sl ([.ref h_na]) ++ List.replicate (4 - (lg_sl ([.ref h_na])).length) Slot.unset).toArray = ls at hl ⊢
  have hl : lv_has ls 4 [(0, .ref h_na)] := hl
  have h := hf
  unfold f_CodeNames_assignCodes at h
  refine lv_iconst (v := 0) hx hb d_CodeNames_assignCodes_0 (by decide) ?_
  refine lv_istore_n (lv' := [(1, .int (0 : Int32)), (0, .ref h_na)]) hx hb d_CodeNames_assignCodes_1 rfl hl (by decide) rfl (fun ls hl => ?_)
  refine lv_iconst (v := 1) hx hb d_CodeNames_assignCodes_2 (by decide) ?_
  refine lv_istore_n (lv' := [(2, .int (1 : Int32)), (1, .int (0 : Int32)), (0, .ref h_na)]) hx hb d_CodeNames_assignCodes_3 rfl hl (by decide) rfl (fun ls hl => ?_)
  have w_self4 : ∀ n9 : Nat, ∀ (v2_1 : Int32) (v1_2 : Int32) (na_codes_3 : (Nat → Int32)) (H : Heap) (locs : List Loc) (ls : Array Slot), lp (f_CodeNames_assignCodes_L4 di_count na_lengths) n9 (v2_1, v1_2, na_codes_3) = some o → va_P (dC, dI) CL [(h_na, .inr (5, [.ref h_di, .ref h_na_lengths, .ref h_na_codes, u_na_weights, u_na_joinedTo])), (h_di, .inr (6, [u_di_widths, u_di_heights, u_di_samples, .int di_count])), (h_na_lengths, .inl (c_na_lengths, 16, .inl na_lengths)), (h_na_codes, .inl (c_na_codes, 16, .inl na_codes_3))] H → va_D A [(h_na, .inr (5, [.ref h_di, .ref h_na_lengths, .ref h_na_codes, u_na_weights, u_na_joinedTo])), (h_di, .inr (6, [u_di_widths, u_di_heights, u_di_samples, .int di_count])), (h_na_lengths, .inl (c_na_lengths, 16, .inl na_lengths)), (h_na_codes, .inl (c_na_codes, 16, .inl na_codes_3))] → va_S A s.heap H locs → lv_has ls 4 [(2, .int v2_1), (1, .int v1_2), (0, .ref h_na)] → W p l e ({ frames := 0, cells := 0, slots := 0, locals := 0 } : Room) s m ([.ref h_na] : List Value).toArray below meth c H locs 0 0 Q9 (F0 m 4 ls []) := by
    intro n9
    induction n9 with
    | zero =>
      intro v2_1 v1_2 na_codes_3 H locs ls h hP hD hS hl
      exact absurd h (by simp [lp])
    | succ n9 ih_self4 =>
      intro v2_1 v1_2 na_codes_3 H locs ls h hP hD hS hl
      obtain ⟨self4, e_self4, h⟩ := abs_k (P := fun z9 => f_CodeNames_assignCodes_L4 di_count na_lengths z9 (v2_1, v1_2, na_codes_3) = some o) (lp_e h)
      rw [← e_self4] at ih_self4
      unfold f_CodeNames_assignCodes_L4 at h
      try dsimp only at h
      refine lv_iload_n hx hb d_CodeNames_assignCodes_4 rfl (lv_at hl 0 rfl) ?_
      refine lv_bipush (v := 15) hx hb d_CodeNames_assignCodes_5 (by decide) ?_
      refine lv_icmp_gt (tgt := 59) hx hb d_CodeNames_assignCodes_7 (by decide) (fun c_1 => ?_) (fun c_1 => ?_)
      · have h := if_t h c_1
        subst eQ
        exact W.vret hx hb hr (fun t ht hW => ⟨⟨na_codes_3, rfl, Option.some.inj h, by rw [ht]; exact hP, va_K.moved hW.alike hK, hD⟩, hS.F ht⟩) hS.2.2 d_CodeNames_assignCodes_59
      · have h := if_f h c_1
        refine lv_iload_n hx hb d_CodeNames_assignCodes_10 rfl (lv_at hl 1 rfl) ?_
        refine lv_iconst (v := 1) hx hb d_CodeNames_assignCodes_11 (by decide) ?_
        refine lv_ishl hx hb d_CodeNames_assignCodes_12 ?_
        refine lv_topi (fun v1_4 e_v1_4 => ?_)
        have h := nl_u e_v1_4 h
        refine lv_istore_n (lv' := [(1, .int v1_4), (2, .int v2_1), (0, .ref h_na)]) hx hb d_CodeNames_assignCodes_13 rfl hl (by decide) rfl (fun ls hl => ?_)
        refine lv_iconst (v := 0) hx hb d_CodeNames_assignCodes_14 (by decide) ?_
        refine lv_istore_n (lv' := [(3, .int (0 : Int32)), (1, .int v1_4), (2, .int v2_1), (0, .ref h_na)]) hx hb d_CodeNames_assignCodes_15 rfl hl (by decide) rfl (fun ls hl => ?_)
        obtain ⟨k53, e_k53, h⟩ := abs_k (P := fun k9 => lp (f_CodeNames_assignCodes_L16 di_count na_lengths v2_1 k9) FU ((0 : Int32), v1_4, na_codes_3) = some o) h
        have w_k53 : ∀ (v1_8 : Int32) (na_codes_9 : (Nat → Int32)) (H : Heap) (locs : List Loc) (ls : Array Slot), k53 v1_8 na_codes_9 = some o → va_P (dC, dI) CL [(h_na, .inr (5, [.ref h_di, .ref h_na_lengths, .ref h_na_codes, u_na_weights, u_na_joinedTo])), (h_di, .inr (6, [u_di_widths, u_di_heights, u_di_samples, .int di_count])), (h_na_lengths, .inl (c_na_lengths, 16, .inl na_lengths)), (h_na_codes, .inl (c_na_codes, 16, .inl na_codes_9))] H → va_D A [(h_na, .inr (5, [.ref h_di, .ref h_na_lengths, .ref h_na_codes, u_na_weights, u_na_joinedTo])), (h_di, .inr (6, [u_di_widths, u_di_heights, u_di_samples, .int di_count])), (h_na_lengths, .inl (c_na_lengths, 16, .inl na_lengths)), (h_na_codes, .inl (c_na_codes, 16, .inl na_codes_9))] → va_S A s.heap H locs → lv_has ls 4 [(1, .int v1_8), (2, .int v2_1), (0, .ref h_na)] → W p l e ({ frames := 0, cells := 0, slots := 0, locals := 0 } : Room) s m ([.ref h_na] : List Value).toArray below meth c H locs 0 0 Q9 (F0 m 53 ls []) := by
          intro v1_8 na_codes_9 H locs ls h hP hD hS hl
          rw [e_k53] at h
          obtain ⟨v2_14, e_v2_14⟩ : ∃ y9 : Int32, y9 = (v2_1 + (1 : Int32)) := ⟨_, rfl⟩
          have h := nl_u e_v2_14 h
          refine lv_iinc (v := v2_14) (lv' := [(2, .int v2_14), (1, .int v1_8), (0, .ref h_na)]) hx hb d_CodeNames_assignCodes_53 hl (k := 1) rfl (by rw [e_v2_14]; rfl) (by decide) rfl (fun ls hl => ?_)
          refine lv_goto (tgt := 4) hx hb d_CodeNames_assignCodes_56 (by decide) ?_
          exact ih_self4 _ _ _ _ _ _ h hP hD hS hl
        have w_self16 : ∀ n9 : Nat, ∀ (v3_5 : Int32) (v1_6 : Int32) (na_codes_7 : (Nat → Int32)) (H : Heap) (locs : List Loc) (ls : Array Slot), lp (f_CodeNames_assignCodes_L16 di_count na_lengths v2_1 k53) n9 (v3_5, v1_6, na_codes_7) = some o → va_P (dC, dI) CL [(h_na, .inr (5, [.ref h_di, .ref h_na_lengths, .ref h_na_codes, u_na_weights, u_na_joinedTo])), (h_di, .inr (6, [u_di_widths, u_di_heights, u_di_samples, .int di_count])), (h_na_lengths, .inl (c_na_lengths, 16, .inl na_lengths)), (h_na_codes, .inl (c_na_codes, 16, .inl na_codes_7))] H → va_D A [(h_na, .inr (5, [.ref h_di, .ref h_na_lengths, .ref h_na_codes, u_na_weights, u_na_joinedTo])), (h_di, .inr (6, [u_di_widths, u_di_heights, u_di_samples, .int di_count])), (h_na_lengths, .inl (c_na_lengths, 16, .inl na_lengths)), (h_na_codes, .inl (c_na_codes, 16, .inl na_codes_7))] → va_S A s.heap H locs → lv_has ls 4 [(3, .int v3_5), (1, .int v1_6), (2, .int v2_1), (0, .ref h_na)] → W p l e ({ frames := 0, cells := 0, slots := 0, locals := 0 } : Room) s m ([.ref h_na] : List Value).toArray below meth c H locs 0 0 Q9 (F0 m 16 ls []) := by
          intro n9
          induction n9 with
          | zero =>
            intro v3_5 v1_6 na_codes_7 H locs ls h hP hD hS hl
            exact absurd h (by simp [lp])
          | succ n9 ih_self16 =>
            intro v3_5 v1_6 na_codes_7 H locs ls h hP hD hS hl
            obtain ⟨self16, e_self16, h⟩ := abs_k (P := fun z9 => f_CodeNames_assignCodes_L16 di_count na_lengths v2_1 k53 z9 (v3_5, v1_6, na_codes_7) = some o) (lp_e h)
            rw [← e_self16] at ih_self16
            unfold f_CodeNames_assignCodes_L16 at h
            try dsimp only at h
            refine lv_iload_n hx hb d_CodeNames_assignCodes_16 rfl (lv_at hl 0 rfl) ?_
            refine lv_aload_n hx hb d_CodeNames_assignCodes_17 rfl (lv_at hl 3 rfl) ?_
            refine va_get (D := (dC, dI)) (ci := 5) (v := .ref h_di) (C := R_CodeNames) (T := T_CodeNames) (N := 5) hx hb hB iw_CodeNames hown hK hP 0 rfl rfl 0 (by decide) (hB _ bw_113) (fun _ h9 => h9) rfl d_CodeNames_assignCodes_18 ?_
            refine va_getN (D := (dC, dI)) (ci := 6) (v := .int di_count) (C := R_Dictionary) (T := T_Dictionary) (N := 4) hx hb hB iw_Dictionary hown hK hP 1 rfl rfl 3 (by decide) (va_Nw.use rfl (hnw.1 _ bn_54)) (fun _ h9 => h9) rfl d_CodeNames_assignCodes_21 ?_
            refine lv_icmp_ge (tgt := 53) hx hb d_CodeNames_assignCodes_24 (by decide) (fun c_2 => ?_) (fun c_2 => ?_)
            · have h := if_t h c_2
              exact w_k53 _ _ _ _ _ h hP hD hS (lv_sub hl [1, 2, 3] rfl)
            · have h := if_f h c_2
              refine lv_aload_n hx hb d_CodeNames_assignCodes_27 rfl (lv_at hl 3 rfl) ?_
              refine va_get (D := (dC, dI)) (ci := 5) (v := .ref h_na_lengths) (C := R_CodeNames) (T := T_CodeNames) (N := 5) hx hb hB iw_CodeNames hown hK hP 0 rfl rfl 1 (by decide) (hB _ bw_114) (fun _ h9 => h9) rfl d_CodeNames_assignCodes_28 ?_
              refine lv_iload_n hx hb d_CodeNames_assignCodes_31 rfl (lv_at hl 0 rfl) ?_
              obtain ⟨hin, h⟩ := gq_e h
              refine va_iald hx hb hK hP 2 0 rfl rfl hin d_CodeNames_assignCodes_32 ?_
              refine lv_iload_n hx hb d_CodeNames_assignCodes_33 rfl (lv_at hl 2 rfl) ?_
              obtain ⟨j47, e_j47, h⟩ := jn_e h
              have w_j47 : ∀ (v1_10 : Int32) (na_codes_11 : (Nat → Int32)) (H : Heap) (locs : List Loc) (ls : Array Slot), j47 v1_10 na_codes_11 = some o → va_P (dC, dI) CL [(h_na, .inr (5, [.ref h_di, .ref h_na_lengths, .ref h_na_codes, u_na_weights, u_na_joinedTo])), (h_di, .inr (6, [u_di_widths, u_di_heights, u_di_samples, .int di_count])), (h_na_lengths, .inl (c_na_lengths, 16, .inl na_lengths)), (h_na_codes, .inl (c_na_codes, 16, .inl na_codes_11))] H → va_D A [(h_na, .inr (5, [.ref h_di, .ref h_na_lengths, .ref h_na_codes, u_na_weights, u_na_joinedTo])), (h_di, .inr (6, [u_di_widths, u_di_heights, u_di_samples, .int di_count])), (h_na_lengths, .inl (c_na_lengths, 16, .inl na_lengths)), (h_na_codes, .inl (c_na_codes, 16, .inl na_codes_11))] → va_S A s.heap H locs → lv_has ls 4 [(3, .int v3_5), (1, .int v1_10), (2, .int v2_1), (0, .ref h_na)] → W p l e ({ frames := 0, cells := 0, slots := 0, locals := 0 } : Room) s m ([.ref h_na] : List Value).toArray below meth c H locs 0 0 Q9 (F0 m 47 ls []) := by
                intro v1_10 na_codes_11 H locs ls h hP hD hS hl
                rw [e_j47] at h
                obtain ⟨v3_12, e_v3_12⟩ : ∃ y9 : Int32, y9 = (v3_5 + (1 : Int32)) := ⟨_, rfl⟩
                have h := nl_u e_v3_12 h
                refine lv_iinc (v := v3_12) (lv' := [(3, .int v3_12), (1, .int v1_10), (2, .int v2_1), (0, .ref h_na)]) hx hb d_CodeNames_assignCodes_47 hl (k := 0) rfl (by rw [e_v3_12]; rfl) (by decide) rfl (fun ls hl => ?_)
                refine lv_goto (tgt := 16) hx hb d_CodeNames_assignCodes_50 (by decide) ?_
                exact ih_self16 _ _ _ _ _ _ h hP hD hS hl
              refine lv_icmp_ne (tgt := 47) hx hb d_CodeNames_assignCodes_34 (by decide) (fun c_3 => ?_) (fun c_3 => ?_)
              · have h := if_f h c_3
                exact w_j47 _ _ _ _ _ h hP hD hS hl
              · have h := if_t h c_3
                refine lv_aload_n hx hb d_CodeNames_assignCodes_37 rfl (lv_at hl 3 rfl) ?_
                refine va_get (D := (dC, dI)) (ci := 5) (v := .ref h_na_codes) (C := R_CodeNames) (T := T_CodeNames) (N := 5) hx hb hB iw_CodeNames hown hK hP 0 rfl rfl 2 (by decide) (hB _ bw_115) (fun _ h9 => h9) rfl d_CodeNames_assignCodes_38 ?_
                refine lv_iload_n hx hb d_CodeNames_assignCodes_41 rfl (lv_at hl 0 rfl) ?_
                refine lv_iload_n hx hb d_CodeNames_assignCodes_42 rfl (lv_at hl 1 rfl) ?_
                obtain ⟨hin, h⟩ := gq_e h
                refine va_iast hx hb hK hP hD hS 3 1 rfl rfl hin d_CodeNames_assignCodes_43 (fun H locs hP hD hS => ?_)
                have hP : va_P (dC, dI) CL [(h_na, .inr (5, [.ref h_di, .ref h_na_lengths, .ref h_na_codes, u_na_weights, u_na_joinedTo])), (h_di, .inr (6, [u_di_widths, u_di_heights, u_di_samples, .int di_count])), (h_na_lengths, .inl (c_na_lengths, 16, .inl na_lengths)), (h_na_codes, .inl (c_na_codes, 16, .inl (upd na_codes_7 (v3_5).toNatClampNeg v1_6)))] H := hP
                have hD : va_D A [(h_na, .inr (5, [.ref h_di, .ref h_na_lengths, .ref h_na_codes, u_na_weights, u_na_joinedTo])), (h_di, .inr (6, [u_di_widths, u_di_heights, u_di_samples, .int di_count])), (h_na_lengths, .inl (c_na_lengths, 16, .inl na_lengths)), (h_na_codes, .inl (c_na_codes, 16, .inl (upd na_codes_7 (v3_5).toNatClampNeg v1_6)))] := hD
                obtain ⟨v1_13, e_v1_13⟩ : ∃ y9 : Int32, y9 = (v1_6 + (1 : Int32)) := ⟨_, rfl⟩
                have h := nl_u e_v1_13 h
                refine lv_iinc (v := v1_13) (lv' := [(1, .int v1_13), (3, .int v3_5), (2, .int v2_1), (0, .ref h_na)]) hx hb d_CodeNames_assignCodes_44 hl (k := 1) rfl (by rw [e_v1_13]; rfl) (by decide) rfl (fun ls hl => ?_)
                exact w_j47 _ _ _ _ _ h hP hD hS (lv_sub hl [1, 0, 2, 3] rfl)
        exact w_self16 FU _ _ _ _ _ _ h hP hD hS hl
  exact w_self4 FU _ _ _ _ _ _ h hP hD hS hl
set_option maxHeartbeats 4000000 in
set_option maxRecDepth 100000 in
theorem c_CodeNames_suit (l : Launch) (dC : Nat → ClassId) (dI : Nat → Nat → Nat) (h_na : Nat) (h_la : Nat) (h_na_weights : Nat) (h_na_joinedTo : Nat) (h_la_symbolOf : Nat) (h_di : Nat) (h_na_lengths : Nat) (h_na_codes : Nat) (c_na_weights : ClassId) (c_na_joinedTo : ClassId) (c_la_symbolOf : ClassId) (c_na_lengths : ClassId) (c_na_codes : ClassId) (u_la_symbols : Value) (u_la_ways : Value) (u_la_xs : Value) (u_la_ys : Value) (u_la_differs : Value) (u_la_sequence : Value) (u_di_widths : Value) (u_di_heights : Value) (u_di_samples : Value) (la_count : Int32) (na_weights : (Nat → Int32)) (na_joinedTo : (Nat → Int32)) (la_symbolOf : (Nat → Int32)) (di_count : Int32) (na_lengths : (Nat → Int32)) (na_codes : (Nat → Int32)) (sz : Nat) (o : (Nat → Int32) × (Nat → Int32) × (Nat → Int32) × (Nat → Int32)) (hf : f_CodeNames_suit la_count na_weights na_joinedTo la_symbolOf di_count na_lengths na_codes = some o) :
    Met l y_CodeNames_suit ws_CodeNames_suit { frames := 1, cells := 0, slots := 0, locals := 23 } (va_Pc [.ref h_na, .ref h_la] (PcM (dC, dI) [(h_na, .inr (5, [.ref h_di, .ref h_na_lengths, .ref h_na_codes, .ref h_na_weights, .ref h_na_joinedTo])), (h_la, .inr (8, [u_la_symbols, u_la_ways, .ref h_la_symbolOf, u_la_xs, u_la_ys, u_la_differs, u_la_sequence, .int la_count])), (h_na_weights, .inl (c_na_weights, 32, .inl na_weights)), (h_na_joinedTo, .inl (c_na_joinedTo, 32, .inl na_joinedTo)), (h_la_symbolOf, .inl (c_la_symbolOf, 40, .inl la_symbolOf)), (h_di, .inr (6, [u_di_widths, u_di_heights, u_di_samples, .int di_count])), (h_na_lengths, .inl (c_na_lengths, 16, .inl na_lengths)), (h_na_codes, .inl (c_na_codes, 16, .inl na_codes))] [(c_na_weights, .int), (c_na_joinedTo, .int), (c_la_symbolOf, .int), (c_na_lengths, .int), (c_na_codes, .int)] sz))
      (va_Qv (fun u : (Nat → Int32) × (Nat → Int32) × (Nat → Int32) × (Nat → Int32) => u = o) (fun u t => va_P (dC, dI) CL [(h_na, .inr (5, [.ref h_di, .ref h_na_lengths, .ref h_na_codes, .ref h_na_weights, .ref h_na_joinedTo])), (h_la, .inr (8, [u_la_symbols, u_la_ways, .ref h_la_symbolOf, u_la_xs, u_la_ys, u_la_differs, u_la_sequence, .int la_count])), (h_na_weights, .inl (c_na_weights, 32, .inl (u.1))), (h_na_joinedTo, .inl (c_na_joinedTo, 32, .inl (u.2.1))), (h_la_symbolOf, .inl (c_la_symbolOf, 40, .inl la_symbolOf)), (h_di, .inr (6, [u_di_widths, u_di_heights, u_di_samples, .int di_count])), (h_na_lengths, .inl (c_na_lengths, 16, .inl (u.2.2.1))), (h_na_codes, .inl (c_na_codes, 16, .inl (u.2.2.2)))] t.heap ∧ va_K (dC, dI) CL [(c_na_weights, .int), (c_na_joinedTo, .int), (c_la_symbolOf, .int), (c_na_lengths, .int), (c_na_codes, .int)] t ∧ va_D (va_A [(h_na, .inr (5, [.ref h_di, .ref h_na_lengths, .ref h_na_codes, .ref h_na_weights, .ref h_na_joinedTo])), (h_la, .inr (8, [u_la_symbols, u_la_ways, .ref h_la_symbolOf, u_la_xs, u_la_ys, u_la_differs, u_la_sequence, .int la_count])), (h_na_weights, .inl (c_na_weights, 32, .inl na_weights)), (h_na_joinedTo, .inl (c_na_joinedTo, 32, .inl na_joinedTo)), (h_la_symbolOf, .inl (c_la_symbolOf, 40, .inl la_symbolOf)), (h_di, .inr (6, [u_di_widths, u_di_heights, u_di_samples, .int di_count])), (h_na_lengths, .inl (c_na_lengths, 16, .inl na_lengths)), (h_na_codes, .inl (c_na_codes, 16, .inl na_codes))] sz) [(h_na, .inr (5, [.ref h_di, .ref h_na_lengths, .ref h_na_codes, .ref h_na_weights, .ref h_na_joinedTo])), (h_la, .inr (8, [u_la_symbols, u_la_ways, .ref h_la_symbolOf, u_la_xs, u_la_ys, u_la_differs, u_la_sequence, .int la_count])), (h_na_weights, .inl (c_na_weights, 32, .inl (u.1))), (h_na_joinedTo, .inl (c_na_joinedTo, 32, .inl (u.2.1))), (h_la_symbolOf, .inl (c_la_symbolOf, 40, .inl la_symbolOf)), (h_di, .inr (6, [u_di_widths, u_di_heights, u_di_samples, .int di_count])), (h_na_lengths, .inl (c_na_lengths, 16, .inl (u.2.2.1))), (h_na_codes, .inl (c_na_codes, 16, .inl (u.2.2.2)))]) (va_A [(h_na, .inr (5, [.ref h_di, .ref h_na_lengths, .ref h_na_codes, .ref h_na_weights, .ref h_na_joinedTo])), (h_la, .inr (8, [u_la_symbols, u_la_ways, .ref h_la_symbolOf, u_la_xs, u_la_ys, u_la_differs, u_la_sequence, .int la_count])), (h_na_weights, .inl (c_na_weights, 32, .inl na_weights)), (h_na_joinedTo, .inl (c_na_joinedTo, 32, .inl na_joinedTo)), (h_la_symbolOf, .inl (c_la_symbolOf, 40, .inl la_symbolOf)), (h_di, .inr (6, [u_di_widths, u_di_heights, u_di_samples, .int di_count])), (h_na_lengths, .inl (c_na_lengths, 16, .inl na_lengths)), (h_na_codes, .inl (c_na_codes, 16, .inl na_codes))] sz)) 0 0 (va_A [(h_na, .inr (5, [.ref h_di, .ref h_na_lengths, .ref h_na_codes, .ref h_na_weights, .ref h_na_joinedTo])), (h_la, .inr (8, [u_la_symbols, u_la_ways, .ref h_la_symbolOf, u_la_xs, u_la_ys, u_la_differs, u_la_sequence, .int la_count])), (h_na_weights, .inl (c_na_weights, 32, .inl na_weights)), (h_na_joinedTo, .inl (c_na_joinedTo, 32, .inl na_joinedTo)), (h_la_symbolOf, .inl (c_la_symbolOf, 40, .inl la_symbolOf)), (h_di, .inr (6, [u_di_widths, u_di_heights, u_di_samples, .int di_count])), (h_na_lengths, .inl (c_na_lengths, 16, .inl na_lengths)), (h_na_codes, .inl (c_na_codes, 16, .inl na_codes))] sz) := by
  refine Met.ofW (cc := b_CodeNames_suit) (maxL := 7) (ret := none) (by decide) rfl ?_
  intro p e s m args below meth c s₁ B hml hv
  obtain ⟨rfl, hsz, hP, hK, hD0, hnw⟩ := hv
  have hx := B.exec
  have hb := B.bytes
  have hr := B.returns
  have hts := atoms_spec (ws := ws_CodeNames_suit) B.pre
  have hB : ∀ w ∈ BIG, w.before _ s = true := fun w h => hts w (List.mem_cons_of_mem _ h)
  have hown : s.vm.findClass R_CodeNames = some m.cls := findClass_of_methodNamed B.named
  have hlocks := B.notSynchronized
  subst hsz
  have hD := hD0.self (sz := s.heap.size)
  refine W_Q (fun Q9 eQ => ?_)
  generalize hAe : va_A [(h_na, .inr (5, [.ref h_di, .ref h_na_lengths, .ref h_na_codes, .ref h_na_weights, .ref h_na_joinedTo])), (h_la, .inr (8, [u_la_symbols, u_la_ways, .ref h_la_symbolOf, u_la_xs, u_la_ys, u_la_differs, u_la_sequence, .int la_count])), (h_na_weights, .inl (c_na_weights, 32, .inl na_weights)), (h_na_joinedTo, .inl (c_na_joinedTo, 32, .inl na_joinedTo)), (h_la_symbolOf, .inl (c_la_symbolOf, 40, .inl la_symbolOf)), (h_di, .inr (6, [u_di_widths, u_di_heights, u_di_samples, .int di_count])), (h_na_lengths, .inl (c_na_lengths, 16, .inl na_lengths)), (h_na_codes, .inl (c_na_codes, 16, .inl na_codes))] s.heap.size = A at hD eQ
  have hA : ∀ q : Nat, s.heap.size ≤ q → A q := fun q h => by rw [← hAe]; exact Or.inr h
  have hS : va_S A s.heap s.heap [] := va_S.rf
  have hl := lv_entry ([.ref h_na, .ref h_la]) (n := 7) (Nat.le_of_ble_eq_true rfl)
  rw [lg_entry_eq]
  generalize (lg_sl ([.ref h_na, .ref h_la]) ++ List.replicate (7 - (lg_sl ([.ref h_na, .ref h_la])).length) Slot.unset).toArray = ls at hl ⊢
  have hl : lv_has ls 7 [(0, .ref h_na), (1, .ref h_la)] := hl
  have h := hf
  unfold f_CodeNames_suit at h
  refine lv_aload_n hx hb d_CodeNames_suit_0 rfl (lv_at hl 0 rfl) ?_
  refine lv_aload_n hx hb d_CodeNames_suit_1 rfl (lv_at hl 1 rfl) ?_
  obtain ⟨o9, hc9, h⟩ := bd_e h
  have hPc := hP.sub (ws' := [(h_na, .inr (5, [.ref h_di, .ref h_na_lengths, .ref h_na_codes, .ref h_na_weights, .ref h_na_joinedTo])), (h_la, .inr (8, [u_la_symbols, u_la_ways, .ref h_la_symbolOf, u_la_xs, u_la_ys, u_la_differs, u_la_sequence, .int la_count])), (h_na_weights, .inl (c_na_weights, 32, .inl na_weights)), (h_na_joinedTo, .inl (c_na_joinedTo, 32, .inl na_joinedTo)), (h_la_symbolOf, .inl (c_la_symbolOf, 40, .inl la_symbolOf))]) [0, 1, 2, 3, 4] rfl
  have hKc := hK.sub (tys' := [(c_na_weights, .int), (c_na_joinedTo, .int), (c_la_symbolOf, .int)]) [0, 1, 2] rfl
  have hDc := hD.sub (ws' := [(h_na, .inr (5, [.ref h_di, .ref h_na_lengths, .ref h_na_codes, .ref h_na_weights, .ref h_na_joinedTo])), (h_la, .inr (8, [u_la_symbols, u_la_ways, .ref h_la_symbolOf, u_la_xs, u_la_ys, u_la_differs, u_la_sequence, .int la_count])), (h_na_weights, .inl (c_na_weights, 32, .inl na_weights)), (h_na_joinedTo, .inl (c_na_joinedTo, 32, .inl na_joinedTo)), (h_la_symbolOf, .inl (c_la_symbolOf, 40, .inl la_symbolOf))]) [0, 1, 2, 3, 4] (by decide) rfl
  have hFc := va_free (wc := [(h_na, .inr (5, [.ref h_di, .ref h_na_lengths, .ref h_na_codes, .ref h_na_weights, .ref h_na_joinedTo])), (h_la, .inr (8, [u_la_symbols, u_la_ways, .ref h_la_symbolOf, u_la_xs, u_la_ys, u_la_differs, u_la_sequence, .int la_count])), (h_na_weights, .inl (c_na_weights, 32, .inl na_weights)), (h_na_joinedTo, .inl (c_na_joinedTo, 32, .inl na_joinedTo)), (h_la_symbolOf, .inl (c_la_symbolOf, 40, .inl la_symbolOf))]) hD hS hA [0, 1, 2, 3, 4] rfl
  refine va_callv (va_runV (As := [.ref h_la]) (rest := []) ⟨hx, hb, hml, hown, hB⟩ (c_CodeNames_weigh l dC dI h_na h_la h_na_weights h_na_joinedTo h_la_symbolOf c_na_weights c_na_joinedTo c_la_symbolOf (.ref h_di) (.ref h_na_lengths) (.ref h_na_codes) u_la_symbols u_la_ways u_la_xs u_la_ys u_la_differs u_la_sequence la_count na_weights na_joinedTo la_symbolOf _ o9 hc9) (cwV 1 hB (goodA (m4 bw_371 bw_373 bs_13 bw_6) (goodB bw_374)) rfl rfl rfl (by decide +kernel) ⟨Nat.le_of_ble_eq_true rfl, Nat.le_of_ble_eq_true rfl⟩) ⟨fb_m, va_recv hK hP (ci := 5) (q0 := 0) rfl rfl, (pre_m hPc hKc hDc hnw [.ref h_na, .ref h_la])⟩ rfl rfl hl.1 rfl (lv_room (Nat.le_of_ble_eq_true rfl)) d_CodeNames_suit_2 ⟨Nat.zero_le _, Nat.zero_le _⟩) hS (fun q _ h => hFc q h) hFc (fun u9 t H1 locs ht hvm hw hB hz1 hk1 hS => ?_)
  obtain ⟨na_weights_1, na_joinedTo_2⟩ := u9
  subst hw
  obtain ⟨hP1, hK1, hD1⟩ := hB
  rw [ht] at hP1
  obtain ⟨hP, hD⟩ := va_join (wr := [(h_di, .inr (6, [u_di_widths, u_di_heights, u_di_samples, .int di_count])), (h_na_lengths, .inl (c_na_lengths, 16, .inl na_lengths)), (h_na_codes, .inl (c_na_codes, 16, .inl na_codes))]) (w1 := [(h_na, .inr (5, [.ref h_di, .ref h_na_lengths, .ref h_na_codes, .ref h_na_weights, .ref h_na_joinedTo])), (h_la, .inr (8, [u_la_symbols, u_la_ways, .ref h_la_symbolOf, u_la_xs, u_la_ys, u_la_differs, u_la_sequence, .int la_count])), (h_na_weights, .inl (c_na_weights, 32, .inl na_weights_1)), (h_na_joinedTo, .inl (c_na_joinedTo, 32, .inl na_joinedTo_2)), (h_la_symbolOf, .inl (c_la_symbolOf, 40, .inl la_symbolOf))]) hP hD [0, 1, 2, 3, 4] [5, 6, 7] rfl rfl (by decide) (by decide) hk1 hFc hP1 hD1
  have hP := hP.sub (ws' := [(h_na, .inr (5, [.ref h_di, .ref h_na_lengths, .ref h_na_codes, .ref h_na_weights, .ref h_na_joinedTo])), (h_la, .inr (8, [u_la_symbols, u_la_ways, .ref h_la_symbolOf, u_la_xs, u_la_ys, u_la_differs, u_la_sequence, .int la_count])), (h_na_weights, .inl (c_na_weights, 32, .inl na_weights_1)), (h_na_joinedTo, .inl (c_na_joinedTo, 32, .inl na_joinedTo_2)), (h_la_symbolOf, .inl (c_la_symbolOf, 40, .inl la_symbolOf)), (h_di, .inr (6, [u_di_widths, u_di_heights, u_di_samples, .int di_count])), (h_na_lengths, .inl (c_na_lengths, 16, .inl na_lengths)), (h_na_codes, .inl (c_na_codes, 16, .inl na_codes))]) [3, 4, 5, 6, 7, 0, 1, 2] rfl
  have hD := hD.sub (ws' := [(h_na, .inr (5, [.ref h_di, .ref h_na_lengths, .ref h_na_codes, .ref h_na_weights, .ref h_na_joinedTo])), (h_la, .inr (8, [u_la_symbols, u_la_ways, .ref h_la_symbolOf, u_la_xs, u_la_ys, u_la_differs, u_la_sequence, .int la_count])), (h_na_weights, .inl (c_na_weights, 32, .inl na_weights_1)), (h_na_joinedTo, .inl (c_na_joinedTo, 32, .inl na_joinedTo_2)), (h_la_symbolOf, .inl (c_la_symbolOf, 40, .inl la_symbolOf)), (h_di, .inr (6, [u_di_widths, u_di_heights, u_di_samples, .int di_count])), (h_na_lengths, .inl (c_na_lengths, 16, .inl na_lengths)), (h_na_codes, .inl (c_na_codes, 16, .inl na_codes))]) [3, 4, 5, 6, 7, 0, 1, 2] (by decide) rfl
  clear hPc hKc hDc hFc hc9 hP1 hK1 hD1 hk1 hz1 hvm ht
  generalize H1 = H at hP hS ⊢
  try dsimp only at h
  refine lv_iconst (v := 0) hx hb d_CodeNames_suit_5 (by decide) ?_
  refine lv_istore_n (lv' := [(2, .int (0 : Int32)), (0, .ref h_na), (1, .ref h_la)]) hx hb d_CodeNames_suit_6 rfl hl (by decide) rfl (fun ls hl => ?_)
  refine lv_iconst (v := 0) hx hb d_CodeNames_suit_7 (by decide) ?_
  refine lv_istore_n (lv' := [(3, .int (0 : Int32)), (2, .int (0 : Int32)), (0, .ref h_na), (1, .ref h_la)]) hx hb d_CodeNames_suit_8 rfl hl (by decide) rfl (fun ls hl => ?_)
  obtain ⟨k43, e_k43, h⟩ := abs_k (P := fun k9 => lp (f_CodeNames_suit_L9 di_count na_weights_1 k9) FU ((0 : Int32), (0 : Int32)) = some o) h
  have w_k43 : ∀ (v2_5 : Int32) (H : Heap) (locs : List Loc) (ls : Array Slot), k43 v2_5 = some o → va_P (dC, dI) CL [(h_na, .inr (5, [.ref h_di, .ref h_na_lengths, .ref h_na_codes, .ref h_na_weights, .ref h_na_joinedTo])), (h_la, .inr (8, [u_la_symbols, u_la_ways, .ref h_la_symbolOf, u_la_xs, u_la_ys, u_la_differs, u_la_sequence, .int la_count])), (h_na_weights, .inl (c_na_weights, 32, .inl na_weights_1)), (h_na_joinedTo, .inl (c_na_joinedTo, 32, .inl na_joinedTo_2)), (h_la_symbolOf, .inl (c_la_symbolOf, 40, .inl la_symbolOf)), (h_di, .inr (6, [u_di_widths, u_di_heights, u_di_samples, .int di_count])), (h_na_lengths, .inl (c_na_lengths, 16, .inl na_lengths)), (h_na_codes, .inl (c_na_codes, 16, .inl na_codes))] H → va_D A [(h_na, .inr (5, [.ref h_di, .ref h_na_lengths, .ref h_na_codes, .ref h_na_weights, .ref h_na_joinedTo])), (h_la, .inr (8, [u_la_symbols, u_la_ways, .ref h_la_symbolOf, u_la_xs, u_la_ys, u_la_differs, u_la_sequence, .int la_count])), (h_na_weights, .inl (c_na_weights, 32, .inl na_weights_1)), (h_na_joinedTo, .inl (c_na_joinedTo, 32, .inl na_joinedTo_2)), (h_la_symbolOf, .inl (c_la_symbolOf, 40, .inl la_symbolOf)), (h_di, .inr (6, [u_di_widths, u_di_heights, u_di_samples, .int di_count])), (h_na_lengths, .inl (c_na_lengths, 16, .inl na_lengths)), (h_na_codes, .inl (c_na_codes, 16, .inl na_codes))] → va_S A s.heap H locs → lv_has ls 7 [(2, .int v2_5), (0, .ref h_na)] → W p l e ({ frames := 1, cells := 0, slots := 0, locals := 23 } : Room) s m ([.ref h_na, .ref h_la] : List Value).toArray below meth c H locs 0 0 Q9 (F0 m 43 ls []) := by
    intro v2_5 H locs ls h hP hD hS hl
    rw [e_k43] at h
    refine lv_iconst (v := 0) hx hb d_CodeNames_suit_43 (by decide) ?_
    refine lv_istore_n (lv' := [(3, .int (0 : Int32)), (2, .int v2_5), (0, .ref h_na)]) hx hb d_CodeNames_suit_44 rfl hl (by decide) rfl (fun ls hl => ?_)
    obtain ⟨k92, e_k92, h⟩ := abs_k (P := fun k9 => lp (f_CodeNames_suit_L45 v2_5 k9) FU ((0 : Int32), na_weights_1, na_joinedTo_2) = some o) h
    have w_k92 : ∀ (na_weights_13 : (Nat → Int32)) (na_joinedTo_14 : (Nat → Int32)) (H : Heap) (locs : List Loc) (ls : Array Slot), k92 na_weights_13 na_joinedTo_14 = some o → va_P (dC, dI) CL [(h_na, .inr (5, [.ref h_di, .ref h_na_lengths, .ref h_na_codes, .ref h_na_weights, .ref h_na_joinedTo])), (h_la, .inr (8, [u_la_symbols, u_la_ways, .ref h_la_symbolOf, u_la_xs, u_la_ys, u_la_differs, u_la_sequence, .int la_count])), (h_na_weights, .inl (c_na_weights, 32, .inl na_weights_13)), (h_na_joinedTo, .inl (c_na_joinedTo, 32, .inl na_joinedTo_14)), (h_la_symbolOf, .inl (c_la_symbolOf, 40, .inl la_symbolOf)), (h_di, .inr (6, [u_di_widths, u_di_heights, u_di_samples, .int di_count])), (h_na_lengths, .inl (c_na_lengths, 16, .inl na_lengths)), (h_na_codes, .inl (c_na_codes, 16, .inl na_codes))] H → va_D A [(h_na, .inr (5, [.ref h_di, .ref h_na_lengths, .ref h_na_codes, .ref h_na_weights, .ref h_na_joinedTo])), (h_la, .inr (8, [u_la_symbols, u_la_ways, .ref h_la_symbolOf, u_la_xs, u_la_ys, u_la_differs, u_la_sequence, .int la_count])), (h_na_weights, .inl (c_na_weights, 32, .inl na_weights_13)), (h_na_joinedTo, .inl (c_na_joinedTo, 32, .inl na_joinedTo_14)), (h_la_symbolOf, .inl (c_la_symbolOf, 40, .inl la_symbolOf)), (h_di, .inr (6, [u_di_widths, u_di_heights, u_di_samples, .int di_count])), (h_na_lengths, .inl (c_na_lengths, 16, .inl na_lengths)), (h_na_codes, .inl (c_na_codes, 16, .inl na_codes))] → va_S A s.heap H locs → lv_has ls 7 [(2, .int v2_5), (0, .ref h_na)] → W p l e ({ frames := 1, cells := 0, slots := 0, locals := 23 } : Room) s m ([.ref h_na, .ref h_la] : List Value).toArray below meth c H locs 0 0 Q9 (F0 m 92 ls []) := by
      intro na_weights_13 na_joinedTo_14 H locs ls h hP hD hS hl
      rw [e_k92] at h
      refine lv_iconst (v := 0) hx hb d_CodeNames_suit_92 (by decide) ?_
      refine lv_istore_n (lv' := [(3, .int (0 : Int32)), (2, .int v2_5), (0, .ref h_na)]) hx hb d_CodeNames_suit_93 rfl hl (by decide) rfl (fun ls hl => ?_)
      obtain ⟨k139, e_k139, h⟩ := abs_k (P := fun k9 => lp (f_CodeNames_suit_L94 v2_5 na_weights_13 na_joinedTo_14 k9) FU ((0 : Int32), na_lengths) = some o) h
      have w_k139 : ∀ (na_lengths_24 : (Nat → Int32)) (H : Heap) (locs : List Loc) (ls : Array Slot), k139 na_lengths_24 = some o → va_P (dC, dI) CL [(h_na, .inr (5, [.ref h_di, .ref h_na_lengths, .ref h_na_codes, .ref h_na_weights, .ref h_na_joinedTo])), (h_la, .inr (8, [u_la_symbols, u_la_ways, .ref h_la_symbolOf, u_la_xs, u_la_ys, u_la_differs, u_la_sequence, .int la_count])), (h_na_weights, .inl (c_na_weights, 32, .inl na_weights_13)), (h_na_joinedTo, .inl (c_na_joinedTo, 32, .inl na_joinedTo_14)), (h_la_symbolOf, .inl (c_la_symbolOf, 40, .inl la_symbolOf)), (h_di, .inr (6, [u_di_widths, u_di_heights, u_di_samples, .int di_count])), (h_na_lengths, .inl (c_na_lengths, 16, .inl na_lengths_24)), (h_na_codes, .inl (c_na_codes, 16, .inl na_codes))] H → va_D A [(h_na, .inr (5, [.ref h_di, .ref h_na_lengths, .ref h_na_codes, .ref h_na_weights, .ref h_na_joinedTo])), (h_la, .inr (8, [u_la_symbols, u_la_ways, .ref h_la_symbolOf, u_la_xs, u_la_ys, u_la_differs, u_la_sequence, .int la_count])), (h_na_weights, .inl (c_na_weights, 32, .inl na_weights_13)), (h_na_joinedTo, .inl (c_na_joinedTo, 32, .inl na_joinedTo_14)), (h_la_symbolOf, .inl (c_la_symbolOf, 40, .inl la_symbolOf)), (h_di, .inr (6, [u_di_widths, u_di_heights, u_di_samples, .int di_count])), (h_na_lengths, .inl (c_na_lengths, 16, .inl na_lengths_24)), (h_na_codes, .inl (c_na_codes, 16, .inl na_codes))] → va_S A s.heap H locs → lv_has ls 7 [(0, .ref h_na)] → W p l e ({ frames := 1, cells := 0, slots := 0, locals := 23 } : Room) s m ([.ref h_na, .ref h_la] : List Value).toArray below meth c H locs 0 0 Q9 (F0 m 139 ls []) := by
        intro na_lengths_24 H locs ls h hP hD hS hl
        rw [e_k139] at h
        refine lv_aload_n hx hb d_CodeNames_suit_139 rfl (lv_at hl 0 rfl) ?_
        obtain ⟨o9, hc9, h⟩ := bd_e h
        have hPc := hP.sub (ws' := [(h_na, .inr (5, [.ref h_di, .ref h_na_lengths, .ref h_na_codes, .ref h_na_weights, .ref h_na_joinedTo])), (h_di, .inr (6, [u_di_widths, u_di_heights, u_di_samples, .int di_count])), (h_na_lengths, .inl (c_na_lengths, 16, .inl na_lengths_24)), (h_na_codes, .inl (c_na_codes, 16, .inl na_codes))]) [0, 5, 6, 7] rfl
        have hKc := hK.sub (tys' := [(c_na_lengths, .int), (c_na_codes, .int)]) [3, 4] rfl
        have hDc := hD.sub (ws' := [(h_na, .inr (5, [.ref h_di, .ref h_na_lengths, .ref h_na_codes, .ref h_na_weights, .ref h_na_joinedTo])), (h_di, .inr (6, [u_di_widths, u_di_heights, u_di_samples, .int di_count])), (h_na_lengths, .inl (c_na_lengths, 16, .inl na_lengths_24)), (h_na_codes, .inl (c_na_codes, 16, .inl na_codes))]) [0, 5, 6, 7] (by decide) rfl
        have hFc := va_free (wc := [(h_na, .inr (5, [.ref h_di, .ref h_na_lengths, .ref h_na_codes, .ref h_na_weights, .ref h_na_joinedTo])), (h_di, .inr (6, [u_di_widths, u_di_heights, u_di_samples, .int di_count])), (h_na_lengths, .inl (c_na_lengths, 16, .inl na_lengths_24)), (h_na_codes, .inl (c_na_codes, 16, .inl na_codes))]) hD hS hA [0, 5, 6, 7] rfl
        refine va_callv (va_runV (As := []) (rest := []) ⟨hx, hb, hml, hown, hB⟩ (c_CodeNames_assignCodes l dC dI h_na h_di h_na_lengths h_na_codes c_na_lengths c_na_codes (.ref h_na_weights) (.ref h_na_joinedTo) u_di_widths u_di_heights u_di_samples di_count na_lengths_24 na_codes _ o9 hc9) (cwV 0 hB (goodA (m4 bw_383 bw_385 bs_16 bw_6) (goodB bw_386)) rfl rfl rfl (by decide +kernel) ⟨Nat.le_of_ble_eq_true rfl, Nat.le_of_ble_eq_true rfl⟩) ⟨fb_m, va_recv hK hP (ci := 5) (q0 := 0) rfl rfl, (pre_m hPc hKc hDc hnw [.ref h_na])⟩ rfl rfl hl.1 rfl (lv_room (Nat.le_of_ble_eq_true rfl)) d_CodeNames_suit_140 ⟨Nat.zero_le _, Nat.zero_le _⟩) hS (fun q _ h => hFc q h) hFc (fun u9 t H1 locs ht hvm hw hB hz1 hk1 hS => ?_)
        obtain ⟨na_codes_29, rfl⟩ : ∃ z9, z9 = u9 := ⟨_, rfl⟩
        subst hw
        obtain ⟨hP1, hK1, hD1⟩ := hB
        rw [ht] at hP1
        obtain ⟨hP, hD⟩ := va_join (wr := [(h_la, .inr (8, [u_la_symbols, u_la_ways, .ref h_la_symbolOf, u_la_xs, u_la_ys, u_la_differs, u_la_sequence, .int la_count])), (h_na_weights, .inl (c_na_weights, 32, .inl na_weights_13)), (h_na_joinedTo, .inl (c_na_joinedTo, 32, .inl na_joinedTo_14)), (h_la_symbolOf, .inl (c_la_symbolOf, 40, .inl la_symbolOf))]) (w1 := [(h_na, .inr (5, [.ref h_di, .ref h_na_lengths, .ref h_na_codes, .ref h_na_weights, .ref h_na_joinedTo])), (h_di, .inr (6, [u_di_widths, u_di_heights, u_di_samples, .int di_count])), (h_na_lengths, .inl (c_na_lengths, 16, .inl na_lengths_24)), (h_na_codes, .inl (c_na_codes, 16, .inl na_codes_29))]) hP hD [0, 5, 6, 7] [1, 2, 3, 4] rfl rfl (by decide) (by decide) hk1 hFc hP1 hD1
        have hP := hP.sub (ws' := [(h_na, .inr (5, [.ref h_di, .ref h_na_lengths, .ref h_na_codes, .ref h_na_weights, .ref h_na_joinedTo])), (h_la, .inr (8, [u_la_symbols, u_la_ways, .ref h_la_symbolOf, u_la_xs, u_la_ys, u_la_differs, u_la_sequence, .int la_count])), (h_na_weights, .inl (c_na_weights, 32, .inl na_weights_13)), (h_na_joinedTo, .inl (c_na_joinedTo, 32, .inl na_joinedTo_14)), (h_la_symbolOf, .inl (c_la_symbolOf, 40, .inl la_symbolOf)), (h_di, .inr (6, [u_di_widths, u_di_heights, u_di_samples, .int di_count])), (h_na_lengths, .inl (c_na_lengths, 16, .inl na_lengths_24)), (h_na_codes, .inl (c_na_codes, 16, .inl na_codes_29))]) [4, 0, 1, 2, 3, 5, 6, 7] rfl
        have hD := hD.sub (ws' := [(h_na, .inr (5, [.ref h_di, .ref h_na_lengths, .ref h_na_codes, .ref h_na_weights, .ref h_na_joinedTo])), (h_la, .inr (8, [u_la_symbols, u_la_ways, .ref h_la_symbolOf, u_la_xs, u_la_ys, u_la_differs, u_la_sequence, .int la_count])), (h_na_weights, .inl (c_na_weights, 32, .inl na_weights_13)), (h_na_joinedTo, .inl (c_na_joinedTo, 32, .inl na_joinedTo_14)), (h_la_symbolOf, .inl (c_la_symbolOf, 40, .inl la_symbolOf)), (h_di, .inr (6, [u_di_widths, u_di_heights, u_di_samples, .int di_count])), (h_na_lengths, .inl (c_na_lengths, 16, .inl na_lengths_24)), (h_na_codes, .inl (c_na_codes, 16, .inl na_codes_29))]) [4, 0, 1, 2, 3, 5, 6, 7] (by decide) rfl
        clear hPc hKc hDc hFc hc9 hP1 hK1 hD1 hk1 hz1 hvm ht
        generalize H1 = H at hP hS ⊢
        try dsimp only at h
        subst eQ
        exact W.vret hx hb hr (fun t ht hW => ⟨⟨(na_weights_13, na_joinedTo_14, na_lengths_24, na_codes_29), rfl, Option.some.inj h, by rw [ht]; exact hP, va_K.moved hW.alike hK, hD⟩, hS.F ht⟩) hS.2.2 d_CodeNames_suit_143
      have w_self94 : ∀ n9 : Nat, ∀ (v3_22 : Int32) (na_lengths_23 : (Nat → Int32)) (H : Heap) (locs : List Loc) (ls : Array Slot), lp (f_CodeNames_suit_L94 v2_5 na_weights_13 na_joinedTo_14 k139) n9 (v3_22, na_lengths_23) = some o → va_P (dC, dI) CL [(h_na, .inr (5, [.ref h_di, .ref h_na_lengths, .ref h_na_codes, .ref h_na_weights, .ref h_na_joinedTo])), (h_la, .inr (8, [u_la_symbols, u_la_ways, .ref h_la_symbolOf, u_la_xs, u_la_ys, u_la_differs, u_la_sequence, .int la_count])), (h_na_weights, .inl (c_na_weights, 32, .inl na_weights_13)), (h_na_joinedTo, .inl (c_na_joinedTo, 32, .inl na_joinedTo_14)), (h_la_symbolOf, .inl (c_la_symbolOf, 40, .inl la_symbolOf)), (h_di, .inr (6, [u_di_widths, u_di_heights, u_di_samples, .int di_count])), (h_na_lengths, .inl (c_na_lengths, 16, .inl na_lengths_23)), (h_na_codes, .inl (c_na_codes, 16, .inl na_codes))] H → va_D A [(h_na, .inr (5, [.ref h_di, .ref h_na_lengths, .ref h_na_codes, .ref h_na_weights, .ref h_na_joinedTo])), (h_la, .inr (8, [u_la_symbols, u_la_ways, .ref h_la_symbolOf, u_la_xs, u_la_ys, u_la_differs, u_la_sequence, .int la_count])), (h_na_weights, .inl (c_na_weights, 32, .inl na_weights_13)), (h_na_joinedTo, .inl (c_na_joinedTo, 32, .inl na_joinedTo_14)), (h_la_symbolOf, .inl (c_la_symbolOf, 40, .inl la_symbolOf)), (h_di, .inr (6, [u_di_widths, u_di_heights, u_di_samples, .int di_count])), (h_na_lengths, .inl (c_na_lengths, 16, .inl na_lengths_23)), (h_na_codes, .inl (c_na_codes, 16, .inl na_codes))] → va_S A s.heap H locs → lv_has ls 7 [(3, .int v3_22), (2, .int v2_5), (0, .ref h_na)] → W p l e ({ frames := 1, cells := 0, slots := 0, locals := 23 } : Room) s m ([.ref h_na, .ref h_la] : List Value).toArray below meth c H locs 0 0 Q9 (F0 m 94 ls []) := by
        intro n9
        induction n9 with
        | zero =>
          intro v3_22 na_lengths_23 H locs ls h hP hD hS hl
          exact absurd h (by simp [lp])
        | succ n9 ih_self94 =>
          intro v3_22 na_lengths_23 H locs ls h hP hD hS hl
          obtain ⟨self94, e_self94, h⟩ := abs_k (P := fun z9 => f_CodeNames_suit_L94 v2_5 na_weights_13 na_joinedTo_14 k139 z9 (v3_22, na_lengths_23) = some o) (lp_e h)
          rw [← e_self94] at ih_self94
          unfold f_CodeNames_suit_L94 at h
          try dsimp only at h
          refine lv_iload_n hx hb d_CodeNames_suit_94 rfl (lv_at hl 0 rfl) ?_
          refine lv_bipush (v := 16) hx hb d_CodeNames_suit_95 (by decide) ?_
          refine lv_icmp_ge (tgt := 139) hx hb d_CodeNames_suit_97 (by decide) (fun c_1 => ?_) (fun c_1 => ?_)
          · have h := if_t h c_1
            exact w_k139 _ _ _ _ h hP hD hS (lv_sub hl [2] rfl)
          · have h := if_f h c_1
            refine lv_aload_n hx hb d_CodeNames_suit_100 rfl (lv_at hl 2 rfl) ?_
            refine va_get (D := (dC, dI)) (ci := 5) (v := .ref h_na_lengths) (C := R_CodeNames) (T := T_CodeNames) (N := 5) hx hb hB iw_CodeNames hown hK hP 0 rfl rfl 1 (by decide) (hB _ bw_114) (fun _ h9 => h9) rfl d_CodeNames_suit_101 ?_
            refine lv_iload_n hx hb d_CodeNames_suit_104 rfl (lv_at hl 0 rfl) ?_
            refine lv_iload_n hx hb d_CodeNames_suit_105 rfl (lv_at hl 1 rfl) ?_
            refine lv_iconst (v := 1) hx hb d_CodeNames_suit_106 (by decide) ?_
            obtain ⟨j132, e_j132, h⟩ := jn_e h
            have w_j132 : ∀ (s_25 : Int32) (s_26 : Int32) (H : Heap) (locs : List Loc) (ls : Array Slot), j132 s_25 s_26 = some o → va_P (dC, dI) CL [(h_na, .inr (5, [.ref h_di, .ref h_na_lengths, .ref h_na_codes, .ref h_na_weights, .ref h_na_joinedTo])), (h_la, .inr (8, [u_la_symbols, u_la_ways, .ref h_la_symbolOf, u_la_xs, u_la_ys, u_la_differs, u_la_sequence, .int la_count])), (h_na_weights, .inl (c_na_weights, 32, .inl na_weights_13)), (h_na_joinedTo, .inl (c_na_joinedTo, 32, .inl na_joinedTo_14)), (h_la_symbolOf, .inl (c_la_symbolOf, 40, .inl la_symbolOf)), (h_di, .inr (6, [u_di_widths, u_di_heights, u_di_samples, .int di_count])), (h_na_lengths, .inl (c_na_lengths, 16, .inl na_lengths_23)), (h_na_codes, .inl (c_na_codes, 16, .inl na_codes))] H → va_D A [(h_na, .inr (5, [.ref h_di, .ref h_na_lengths, .ref h_na_codes, .ref h_na_weights, .ref h_na_joinedTo])), (h_la, .inr (8, [u_la_symbols, u_la_ways, .ref h_la_symbolOf, u_la_xs, u_la_ys, u_la_differs, u_la_sequence, .int la_count])), (h_na_weights, .inl (c_na_weights, 32, .inl na_weights_13)), (h_na_joinedTo, .inl (c_na_joinedTo, 32, .inl na_joinedTo_14)), (h_la_symbolOf, .inl (c_la_symbolOf, 40, .inl la_symbolOf)), (h_di, .inr (6, [u_di_widths, u_di_heights, u_di_samples, .int di_count])), (h_na_lengths, .inl (c_na_lengths, 16, .inl na_lengths_23)), (h_na_codes, .inl (c_na_codes, 16, .inl na_codes))] → va_S A s.heap H locs → lv_has ls 7 [(3, .int v3_22), (2, .int v2_5), (0, .ref h_na)] → W p l e ({ frames := 1, cells := 0, slots := 0, locals := 23 } : Room) s m ([.ref h_na, .ref h_la] : List Value).toArray below meth c H locs 0 0 Q9 (F0 m 132 ls [.int s_26, .int s_25, .ref h_na_lengths]) := by
              intro s_25 s_26 H locs ls h hP hD hS hl
              rw [e_j132] at h
              obtain ⟨hin, h⟩ := gq_e h
              refine va_iast hx hb hK hP hD hS 6 3 rfl rfl hin d_CodeNames_suit_132 (fun H locs hP hD hS => ?_)
              have hP : va_P (dC, dI) CL [(h_na, .inr (5, [.ref h_di, .ref h_na_lengths, .ref h_na_codes, .ref h_na_weights, .ref h_na_joinedTo])), (h_la, .inr (8, [u_la_symbols, u_la_ways, .ref h_la_symbolOf, u_la_xs, u_la_ys, u_la_differs, u_la_sequence, .int la_count])), (h_na_weights, .inl (c_na_weights, 32, .inl na_weights_13)), (h_na_joinedTo, .inl (c_na_joinedTo, 32, .inl na_joinedTo_14)), (h_la_symbolOf, .inl (c_la_symbolOf, 40, .inl la_symbolOf)), (h_di, .inr (6, [u_di_widths, u_di_heights, u_di_samples, .int di_count])), (h_na_lengths, .inl (c_na_lengths, 16, .inl (upd na_lengths_23 (s_25).toNatClampNeg s_26))), (h_na_codes, .inl (c_na_codes, 16, .inl na_codes))] H := hP
              have hD : va_D A [(h_na, .inr (5, [.ref h_di, .ref h_na_lengths, .ref h_na_codes, .ref h_na_weights, .ref h_na_joinedTo])), (h_la, .inr (8, [u_la_symbols, u_la_ways, .ref h_la_symbolOf, u_la_xs, u_la_ys, u_la_differs, u_la_sequence, .int la_count])), (h_na_weights, .inl (c_na_weights, 32, .inl na_weights_13)), (h_na_joinedTo, .inl (c_na_joinedTo, 32, .inl na_joinedTo_14)), (h_la_symbolOf, .inl (c_la_symbolOf, 40, .inl la_symbolOf)), (h_di, .inr (6, [u_di_widths, u_di_heights, u_di_samples, .int di_count])), (h_na_lengths, .inl (c_na_lengths, 16, .inl (upd na_lengths_23 (s_25).toNatClampNeg s_26))), (h_na_codes, .inl (c_na_codes, 16, .inl na_codes))] := hD
              obtain ⟨v3_27, e_v3_27⟩ : ∃ y9 : Int32, y9 = (v3_22 + (1 : Int32)) := ⟨_, rfl⟩
              have h := nl_u e_v3_27 h
              refine lv_iinc (v := v3_27) (lv' := [(3, .int v3_27), (2, .int v2_5), (0, .ref h_na)]) hx hb d_CodeNames_suit_133 hl (k := 0) rfl (by rw [e_v3_27]; rfl) (by decide) rfl (fun ls hl => ?_)
              refine lv_goto (tgt := 94) hx hb d_CodeNames_suit_136 (by decide) ?_
              exact ih_self94 _ _ _ _ _ h hP hD hS hl
            refine lv_icmp_ne (tgt := 127) hx hb d_CodeNames_suit_107 (by decide) (fun c_2 => ?_) (fun c_2 => ?_)
            · have h := if_f h c_2
              refine lv_aload_n hx hb d_CodeNames_suit_127 rfl (lv_at hl 2 rfl) ?_
              refine lv_iload_n hx hb d_CodeNames_suit_128 rfl (lv_at hl 0 rfl) ?_
              obtain ⟨o9, hc9, h⟩ := bd_e h
              have hPc := hP.sub (ws' := [(h_na, .inr (5, [.ref h_di, .ref h_na_lengths, .ref h_na_codes, .ref h_na_weights, .ref h_na_joinedTo])), (h_na_joinedTo, .inl (c_na_joinedTo, 32, .inl na_joinedTo_14))]) [0, 3] rfl
              have hKc := hK.sub (tys' := [(c_na_joinedTo, .int)]) [1] rfl
              refine vp_callSi (va_Run.run (va_runV (As := [.int v3_22]) (rest := [.int v3_22, .ref h_na_lengths]) ⟨hx, hb, hml, hown, hB⟩ (c_CodeNames_joinsOf l dC dI h_na h_na_joinedTo c_na_joinedTo (.ref h_di) (.ref h_na_lengths) (.ref h_na_codes) (.ref h_na_weights) na_joinedTo_14 v3_22 o9 hc9) (cwV 1 hB (goodA (m4 bw_379 bw_381 bs_15 bw_6) (goodB bw_382)) rfl rfl rfl (by decide +kernel) ⟨Nat.le_of_ble_eq_true rfl, Nat.le_of_ble_eq_true rfl⟩) ⟨fb_p, va_recv hK hP (ci := 5) (q0 := 0) rfl rfl, (pre_p hPc hKc hnw [.ref h_na, .int v3_22])⟩ rfl rfl hl.1 rfl (lv_room (Nat.le_of_ble_eq_true rfl)) d_CodeNames_suit_129 ⟨Nat.zero_le _, Nat.zero_le _⟩)) (fun r_28 e_r_28 => ?_)
              subst e_r_28
              clear hPc hKc hc9
              exact w_j132 _ _ _ _ _ h hP hD hS hl
            · have h := if_t h c_2
              refine lv_aload_n hx hb d_CodeNames_suit_110 rfl (lv_at hl 2 rfl) ?_
              refine va_get (D := (dC, dI)) (ci := 5) (v := .ref h_na_weights) (C := R_CodeNames) (T := T_CodeNames) (N := 5) hx hb hB iw_CodeNames hown hK hP 0 rfl rfl 3 (by decide) (hB _ bw_116) (fun _ h9 => h9) rfl d_CodeNames_suit_111 ?_
              refine lv_iload_n hx hb d_CodeNames_suit_114 rfl (lv_at hl 0 rfl) ?_
              obtain ⟨hin, h⟩ := gq_e h
              refine va_iald hx hb hK hP 2 0 rfl rfl hin d_CodeNames_suit_115 ?_
              refine lv_if_le (tgt := 123) hx hb d_CodeNames_suit_116 (by decide) (fun c_3 => ?_) (fun c_3 => ?_)
              · have h := if_t h c_3
                refine lv_iconst (v := 0) hx hb d_CodeNames_suit_123 (by decide) ?_
                refine lv_goto (tgt := 132) hx hb d_CodeNames_suit_124 (by decide) ?_
                exact w_j132 _ _ _ _ _ h hP hD hS hl
              · have h := if_f h c_3
                refine lv_iconst (v := 1) hx hb d_CodeNames_suit_119 (by decide) ?_
                refine lv_goto (tgt := 132) hx hb d_CodeNames_suit_120 (by decide) ?_
                exact w_j132 _ _ _ _ _ h hP hD hS hl
      exact w_self94 FU _ _ _ _ _ h hP hD hS hl
    have w_self45 : ∀ n9 : Nat, ∀ (v3_10 : Int32) (na_weights_11 : (Nat → Int32)) (na_joinedTo_12 : (Nat → Int32)) (H : Heap) (locs : List Loc) (ls : Array Slot), lp (f_CodeNames_suit_L45 v2_5 k92) n9 (v3_10, na_weights_11, na_joinedTo_12) = some o → va_P (dC, dI) CL [(h_na, .inr (5, [.ref h_di, .ref h_na_lengths, .ref h_na_codes, .ref h_na_weights, .ref h_na_joinedTo])), (h_la, .inr (8, [u_la_symbols, u_la_ways, .ref h_la_symbolOf, u_la_xs, u_la_ys, u_la_differs, u_la_sequence, .int la_count])), (h_na_weights, .inl (c_na_weights, 32, .inl na_weights_11)), (h_na_joinedTo, .inl (c_na_joinedTo, 32, .inl na_joinedTo_12)), (h_la_symbolOf, .inl (c_la_symbolOf, 40, .inl la_symbolOf)), (h_di, .inr (6, [u_di_widths, u_di_heights, u_di_samples, .int di_count])), (h_na_lengths, .inl (c_na_lengths, 16, .inl na_lengths)), (h_na_codes, .inl (c_na_codes, 16, .inl na_codes))] H → va_D A [(h_na, .inr (5, [.ref h_di, .ref h_na_lengths, .ref h_na_codes, .ref h_na_weights, .ref h_na_joinedTo])), (h_la, .inr (8, [u_la_symbols, u_la_ways, .ref h_la_symbolOf, u_la_xs, u_la_ys, u_la_differs, u_la_sequence, .int la_count])), (h_na_weights, .inl (c_na_weights, 32, .inl na_weights_11)), (h_na_joinedTo, .inl (c_na_joinedTo, 32, .inl na_joinedTo_12)), (h_la_symbolOf, .inl (c_la_symbolOf, 40, .inl la_symbolOf)), (h_di, .inr (6, [u_di_widths, u_di_heights, u_di_samples, .int di_count])), (h_na_lengths, .inl (c_na_lengths, 16, .inl na_lengths)), (h_na_codes, .inl (c_na_codes, 16, .inl na_codes))] → va_S A s.heap H locs → lv_has ls 7 [(3, .int v3_10), (2, .int v2_5), (0, .ref h_na)] → W p l e ({ frames := 1, cells := 0, slots := 0, locals := 23 } : Room) s m ([.ref h_na, .ref h_la] : List Value).toArray below meth c H locs 0 0 Q9 (F0 m 45 ls []) := by
      intro n9
      induction n9 with
      | zero =>
        intro v3_10 na_weights_11 na_joinedTo_12 H locs ls h hP hD hS hl
        exact absurd h (by simp [lp])
      | succ n9 ih_self45 =>
        intro v3_10 na_weights_11 na_joinedTo_12 H locs ls h hP hD hS hl
        obtain ⟨self45, e_self45, h⟩ := abs_k (P := fun z9 => f_CodeNames_suit_L45 v2_5 k92 z9 (v3_10, na_weights_11, na_joinedTo_12) = some o) (lp_e h)
        rw [← e_self45] at ih_self45
        unfold f_CodeNames_suit_L45 at h
        try dsimp only at h
        refine lv_iload_n hx hb d_CodeNames_suit_45 rfl (lv_at hl 0 rfl) ?_
        refine lv_iload_n hx hb d_CodeNames_suit_46 rfl (lv_at hl 1 rfl) ?_
        refine lv_iconst (v := 1) hx hb d_CodeNames_suit_47 (by decide) ?_
        refine lv_isub hx hb d_CodeNames_suit_48 ?_
        refine lv_icmp_ge (tgt := 92) hx hb d_CodeNames_suit_49 (by decide) (fun c_4 => ?_) (fun c_4 => ?_)
        · have h := if_t h c_4
          exact w_k92 _ _ _ _ _ h hP hD hS (lv_sub hl [1, 2] rfl)
        · have h := if_f h c_4
          refine lv_bipush (v := 16) hx hb d_CodeNames_suit_52 (by decide) ?_
          refine lv_iload_n hx hb d_CodeNames_suit_54 rfl (lv_at hl 0 rfl) ?_
          refine lv_iadd hx hb d_CodeNames_suit_55 ?_
          refine lv_topi (fun v4_15 e_v4_15 => ?_)
          have h := nl_u e_v4_15 h
          refine lv_istore (lv' := [(4, .int v4_15), (3, .int v3_10), (2, .int v2_5), (0, .ref h_na)]) hx hb d_CodeNames_suit_56 hl (by decide) rfl (fun ls hl => ?_)
          refine lv_aload_n hx hb d_CodeNames_suit_58 rfl (lv_at hl 3 rfl) ?_
          refine lv_iload hx hb d_CodeNames_suit_59 (lv_at hl 0 rfl) ?_
          obtain ⟨o9, hc9, h⟩ := bd_e h
          have hPc := hP.sub (ws' := [(h_na, .inr (5, [.ref h_di, .ref h_na_lengths, .ref h_na_codes, .ref h_na_weights, .ref h_na_joinedTo])), (h_na_weights, .inl (c_na_weights, 32, .inl na_weights_11)), (h_na_joinedTo, .inl (c_na_joinedTo, 32, .inl na_joinedTo_12))]) [0, 2, 3] rfl
          have hKc := hK.sub (tys' := [(c_na_weights, .int), (c_na_joinedTo, .int)]) [0, 1] rfl
          have hDc := hD.sub (ws' := [(h_na, .inr (5, [.ref h_di, .ref h_na_lengths, .ref h_na_codes, .ref h_na_weights, .ref h_na_joinedTo])), (h_na_weights, .inl (c_na_weights, 32, .inl na_weights_11)), (h_na_joinedTo, .inl (c_na_joinedTo, 32, .inl na_joinedTo_12))]) [0, 2, 3] (by decide) rfl
          have hFc := va_free (wc := [(h_na, .inr (5, [.ref h_di, .ref h_na_lengths, .ref h_na_codes, .ref h_na_weights, .ref h_na_joinedTo])), (h_na_weights, .inl (c_na_weights, 32, .inl na_weights_11)), (h_na_joinedTo, .inl (c_na_joinedTo, 32, .inl na_joinedTo_12))]) hD hS hA [0, 2, 3] rfl
          refine va_calli (va_runV (As := [.int v4_15]) (rest := []) ⟨hx, hb, hml, hown, hB⟩ (c_CodeNames_joinLeast l dC dI h_na h_na_weights h_na_joinedTo c_na_weights c_na_joinedTo (.ref h_di) (.ref h_na_lengths) (.ref h_na_codes) na_weights_11 na_joinedTo_12 v4_15 _ o9 hc9) (cwV 1 hB (goodA (m4 bw_375 bw_377 bs_14 bw_6) (goodB bw_378)) rfl rfl rfl (by decide +kernel) ⟨Nat.le_of_ble_eq_true rfl, Nat.le_of_ble_eq_true rfl⟩) ⟨fb_m, va_recv hK hP (ci := 5) (q0 := 0) rfl rfl, (pre_m hPc hKc hDc hnw [.ref h_na, .int v4_15])⟩ rfl rfl hl.1 rfl (lv_room (Nat.le_of_ble_eq_true rfl)) d_CodeNames_suit_61 ⟨Nat.zero_le _, Nat.zero_le _⟩) hS (fun q _ h => hFc q h) hFc (fun r_16 u9 t H1 locs ht hvm hw hB hz1 hk1 hS => ?_)
          obtain ⟨na_joinedTo_17, rfl⟩ : ∃ z9, z9 = u9 := ⟨_, rfl⟩
          subst hw
          obtain ⟨hP1, hK1, hD1⟩ := hB
          rw [ht] at hP1
          obtain ⟨hP, hD⟩ := va_join (wr := [(h_la, .inr (8, [u_la_symbols, u_la_ways, .ref h_la_symbolOf, u_la_xs, u_la_ys, u_la_differs, u_la_sequence, .int la_count])), (h_la_symbolOf, .inl (c_la_symbolOf, 40, .inl la_symbolOf)), (h_di, .inr (6, [u_di_widths, u_di_heights, u_di_samples, .int di_count])), (h_na_lengths, .inl (c_na_lengths, 16, .inl na_lengths)), (h_na_codes, .inl (c_na_codes, 16, .inl na_codes))]) (w1 := [(h_na, .inr (5, [.ref h_di, .ref h_na_lengths, .ref h_na_codes, .ref h_na_weights, .ref h_na_joinedTo])), (h_na_weights, .inl (c_na_weights, 32, .inl na_weights_11)), (h_na_joinedTo, .inl (c_na_joinedTo, 32, .inl na_joinedTo_17))]) hP hD [0, 2, 3] [1, 4, 5, 6, 7] rfl rfl (by decide) (by decide) hk1 hFc hP1 hD1
          have hP := hP.sub (ws' := [(h_na, .inr (5, [.ref h_di, .ref h_na_lengths, .ref h_na_codes, .ref h_na_weights, .ref h_na_joinedTo])), (h_la, .inr (8, [u_la_symbols, u_la_ways, .ref h_la_symbolOf, u_la_xs, u_la_ys, u_la_differs, u_la_sequence, .int la_count])), (h_na_weights, .inl (c_na_weights, 32, .inl na_weights_11)), (h_na_joinedTo, .inl (c_na_joinedTo, 32, .inl na_joinedTo_17)), (h_la_symbolOf, .inl (c_la_symbolOf, 40, .inl la_symbolOf)), (h_di, .inr (6, [u_di_widths, u_di_heights, u_di_samples, .int di_count])), (h_na_lengths, .inl (c_na_lengths, 16, .inl na_lengths)), (h_na_codes, .inl (c_na_codes, 16, .inl na_codes))]) [5, 0, 6, 7, 1, 2, 3, 4] rfl
          have hD := hD.sub (ws' := [(h_na, .inr (5, [.ref h_di, .ref h_na_lengths, .ref h_na_codes, .ref h_na_weights, .ref h_na_joinedTo])), (h_la, .inr (8, [u_la_symbols, u_la_ways, .ref h_la_symbolOf, u_la_xs, u_la_ys, u_la_differs, u_la_sequence, .int la_count])), (h_na_weights, .inl (c_na_weights, 32, .inl na_weights_11)), (h_na_joinedTo, .inl (c_na_joinedTo, 32, .inl na_joinedTo_17)), (h_la_symbolOf, .inl (c_la_symbolOf, 40, .inl la_symbolOf)), (h_di, .inr (6, [u_di_widths, u_di_heights, u_di_samples, .int di_count])), (h_na_lengths, .inl (c_na_lengths, 16, .inl na_lengths)), (h_na_codes, .inl (c_na_codes, 16, .inl na_codes))]) [5, 0, 6, 7, 1, 2, 3, 4] (by decide) rfl
          clear hPc hKc hDc hFc hc9 hP1 hK1 hD1 hk1 hz1 hvm ht
          generalize H1 = H at hP hS ⊢
          try dsimp only at h
          refine lv_istore (lv' := [(5, .int r_16), (4, .int v4_15), (3, .int v3_10), (2, .int v2_5), (0, .ref h_na)]) hx hb d_CodeNames_suit_64 hl (by decide) rfl (fun ls hl => ?_)
          refine lv_aload_n hx hb d_CodeNames_suit_66 rfl (lv_at hl 4 rfl) ?_
          refine lv_iload hx hb d_CodeNames_suit_67 (lv_at hl 1 rfl) ?_
          obtain ⟨o9, hc9, h⟩ := bd_e h
          have hPc := hP.sub (ws' := [(h_na, .inr (5, [.ref h_di, .ref h_na_lengths, .ref h_na_codes, .ref h_na_weights, .ref h_na_joinedTo])), (h_na_weights, .inl (c_na_weights, 32, .inl na_weights_11)), (h_na_joinedTo, .inl (c_na_joinedTo, 32, .inl na_joinedTo_17))]) [0, 2, 3] rfl
          have hKc := hK.sub (tys' := [(c_na_weights, .int), (c_na_joinedTo, .int)]) [0, 1] rfl
          have hDc := hD.sub (ws' := [(h_na, .inr (5, [.ref h_di, .ref h_na_lengths, .ref h_na_codes, .ref h_na_weights, .ref h_na_joinedTo])), (h_na_weights, .inl (c_na_weights, 32, .inl na_weights_11)), (h_na_joinedTo, .inl (c_na_joinedTo, 32, .inl na_joinedTo_17))]) [0, 2, 3] (by decide) rfl
          have hFc := va_free (wc := [(h_na, .inr (5, [.ref h_di, .ref h_na_lengths, .ref h_na_codes, .ref h_na_weights, .ref h_na_joinedTo])), (h_na_weights, .inl (c_na_weights, 32, .inl na_weights_11)), (h_na_joinedTo, .inl (c_na_joinedTo, 32, .inl na_joinedTo_17))]) hD hS hA [0, 2, 3] rfl
          refine va_calli (va_runV (As := [.int v4_15]) (rest := []) ⟨hx, hb, hml, hown, hB⟩ (c_CodeNames_joinLeast l dC dI h_na h_na_weights h_na_joinedTo c_na_weights c_na_joinedTo (.ref h_di) (.ref h_na_lengths) (.ref h_na_codes) na_weights_11 na_joinedTo_17 v4_15 _ o9 hc9) (cwV 1 hB (goodA (m4 bw_375 bw_377 bs_14 bw_6) (goodB bw_378)) rfl rfl rfl (by decide +kernel) ⟨Nat.le_of_ble_eq_true rfl, Nat.le_of_ble_eq_true rfl⟩) ⟨fb_m, va_recv hK hP (ci := 5) (q0 := 0) rfl rfl, (pre_m hPc hKc hDc hnw [.ref h_na, .int v4_15])⟩ rfl rfl hl.1 rfl (lv_room (Nat.le_of_ble_eq_true rfl)) d_CodeNames_suit_69 ⟨Nat.zero_le _, Nat.zero_le _⟩) hS (fun q _ h => hFc q h) hFc (fun r_18 u9 t H1 locs ht hvm hw hB hz1 hk1 hS => ?_)
          obtain ⟨na_joinedTo_19, rfl⟩ : ∃ z9, z9 = u9 := ⟨_, rfl⟩
          subst hw
          obtain ⟨hP1, hK1, hD1⟩ := hB
          rw [ht] at hP1
          obtain ⟨hP, hD⟩ := va_join (wr := [(h_la, .inr (8, [u_la_symbols, u_la_ways, .ref h_la_symbolOf, u_la_xs, u_la_ys, u_la_differs, u_la_sequence, .int la_count])), (h_la_symbolOf, .inl (c_la_symbolOf, 40, .inl la_symbolOf)), (h_di, .inr (6, [u_di_widths, u_di_heights, u_di_samples, .int di_count])), (h_na_lengths, .inl (c_na_lengths, 16, .inl na_lengths)), (h_na_codes, .inl (c_na_codes, 16, .inl na_codes))]) (w1 := [(h_na, .inr (5, [.ref h_di, .ref h_na_lengths, .ref h_na_codes, .ref h_na_weights, .ref h_na_joinedTo])), (h_na_weights, .inl (c_na_weights, 32, .inl na_weights_11)), (h_na_joinedTo, .inl (c_na_joinedTo, 32, .inl na_joinedTo_19))]) hP hD [0, 2, 3] [1, 4, 5, 6, 7] rfl rfl (by decide) (by decide) hk1 hFc hP1 hD1
          have hP := hP.sub (ws' := [(h_na, .inr (5, [.ref h_di, .ref h_na_lengths, .ref h_na_codes, .ref h_na_weights, .ref h_na_joinedTo])), (h_la, .inr (8, [u_la_symbols, u_la_ways, .ref h_la_symbolOf, u_la_xs, u_la_ys, u_la_differs, u_la_sequence, .int la_count])), (h_na_weights, .inl (c_na_weights, 32, .inl na_weights_11)), (h_na_joinedTo, .inl (c_na_joinedTo, 32, .inl na_joinedTo_19)), (h_la_symbolOf, .inl (c_la_symbolOf, 40, .inl la_symbolOf)), (h_di, .inr (6, [u_di_widths, u_di_heights, u_di_samples, .int di_count])), (h_na_lengths, .inl (c_na_lengths, 16, .inl na_lengths)), (h_na_codes, .inl (c_na_codes, 16, .inl na_codes))]) [5, 0, 6, 7, 1, 2, 3, 4] rfl
          have hD := hD.sub (ws' := [(h_na, .inr (5, [.ref h_di, .ref h_na_lengths, .ref h_na_codes, .ref h_na_weights, .ref h_na_joinedTo])), (h_la, .inr (8, [u_la_symbols, u_la_ways, .ref h_la_symbolOf, u_la_xs, u_la_ys, u_la_differs, u_la_sequence, .int la_count])), (h_na_weights, .inl (c_na_weights, 32, .inl na_weights_11)), (h_na_joinedTo, .inl (c_na_joinedTo, 32, .inl na_joinedTo_19)), (h_la_symbolOf, .inl (c_la_symbolOf, 40, .inl la_symbolOf)), (h_di, .inr (6, [u_di_widths, u_di_heights, u_di_samples, .int di_count])), (h_na_lengths, .inl (c_na_lengths, 16, .inl na_lengths)), (h_na_codes, .inl (c_na_codes, 16, .inl na_codes))]) [5, 0, 6, 7, 1, 2, 3, 4] (by decide) rfl
          clear hPc hKc hDc hFc hc9 hP1 hK1 hD1 hk1 hz1 hvm ht
          generalize H1 = H at hP hS ⊢
          try dsimp only at h
          refine lv_istore (lv' := [(6, .int r_18), (5, .int r_16), (4, .int v4_15), (3, .int v3_10), (2, .int v2_5), (0, .ref h_na)]) hx hb d_CodeNames_suit_72 hl (by decide) rfl (fun ls hl => ?_)
          refine lv_aload_n hx hb d_CodeNames_suit_74 rfl (lv_at hl 5 rfl) ?_
          refine va_get (D := (dC, dI)) (ci := 5) (v := .ref h_na_weights) (C := R_CodeNames) (T := T_CodeNames) (N := 5) hx hb hB iw_CodeNames hown hK hP 0 rfl rfl 3 (by decide) (hB _ bw_116) (fun _ h9 => h9) rfl d_CodeNames_suit_75 ?_
          refine lv_iload hx hb d_CodeNames_suit_78 (lv_at hl 2 rfl) ?_
          refine lv_iload hx hb d_CodeNames_suit_80 (lv_at hl 1 rfl) ?_
          refine lv_iload hx hb d_CodeNames_suit_82 (lv_at hl 0 rfl) ?_
          refine lv_iadd hx hb d_CodeNames_suit_84 ?_
          refine lv_topi (fun w_20 e_w_20 => ?_)
          have h := nl_u e_w_20 h
          obtain ⟨hin, h⟩ := gq_e h
          refine va_iast hx hb hK hP hD hS 2 0 rfl rfl hin d_CodeNames_suit_85 (fun H locs hP hD hS => ?_)
          have hP : va_P (dC, dI) CL [(h_na, .inr (5, [.ref h_di, .ref h_na_lengths, .ref h_na_codes, .ref h_na_weights, .ref h_na_joinedTo])), (h_la, .inr (8, [u_la_symbols, u_la_ways, .ref h_la_symbolOf, u_la_xs, u_la_ys, u_la_differs, u_la_sequence, .int la_count])), (h_na_weights, .inl (c_na_weights, 32, .inl (upd na_weights_11 (v4_15).toNatClampNeg w_20))), (h_na_joinedTo, .inl (c_na_joinedTo, 32, .inl na_joinedTo_19)), (h_la_symbolOf, .inl (c_la_symbolOf, 40, .inl la_symbolOf)), (h_di, .inr (6, [u_di_widths, u_di_heights, u_di_samples, .int di_count])), (h_na_lengths, .inl (c_na_lengths, 16, .inl na_lengths)), (h_na_codes, .inl (c_na_codes, 16, .inl na_codes))] H := hP
          have hD : va_D A [(h_na, .inr (5, [.ref h_di, .ref h_na_lengths, .ref h_na_codes, .ref h_na_weights, .ref h_na_joinedTo])), (h_la, .inr (8, [u_la_symbols, u_la_ways, .ref h_la_symbolOf, u_la_xs, u_la_ys, u_la_differs, u_la_sequence, .int la_count])), (h_na_weights, .inl (c_na_weights, 32, .inl (upd na_weights_11 (v4_15).toNatClampNeg w_20))), (h_na_joinedTo, .inl (c_na_joinedTo, 32, .inl na_joinedTo_19)), (h_la_symbolOf, .inl (c_la_symbolOf, 40, .inl la_symbolOf)), (h_di, .inr (6, [u_di_widths, u_di_heights, u_di_samples, .int di_count])), (h_na_lengths, .inl (c_na_lengths, 16, .inl na_lengths)), (h_na_codes, .inl (c_na_codes, 16, .inl na_codes))] := hD
          obtain ⟨v3_21, e_v3_21⟩ : ∃ y9 : Int32, y9 = (v3_10 + (1 : Int32)) := ⟨_, rfl⟩
          have h := nl_u e_v3_21 h
          refine lv_iinc (v := v3_21) (lv' := [(3, .int v3_21), (6, .int r_18), (5, .int r_16), (4, .int v4_15), (2, .int v2_5), (0, .ref h_na)]) hx hb d_CodeNames_suit_86 hl (k := 3) rfl (by rw [e_v3_21]; rfl) (by decide) rfl (fun ls hl => ?_)
          refine lv_goto (tgt := 45) hx hb d_CodeNames_suit_89 (by decide) ?_
          exact ih_self45 _ _ _ _ _ _ h hP hD hS (lv_sub hl [0, 4, 5] rfl)
    exact w_self45 FU _ _ _ _ _ _ h hP hD hS hl
  have w_self9 : ∀ n9 : Nat, ∀ (v3_3 : Int32) (v2_4 : Int32) (H : Heap) (locs : List Loc) (ls : Array Slot), lp (f_CodeNames_suit_L9 di_count na_weights_1 k43) n9 (v3_3, v2_4) = some o → va_P (dC, dI) CL [(h_na, .inr (5, [.ref h_di, .ref h_na_lengths, .ref h_na_codes, .ref h_na_weights, .ref h_na_joinedTo])), (h_la, .inr (8, [u_la_symbols, u_la_ways, .ref h_la_symbolOf, u_la_xs, u_la_ys, u_la_differs, u_la_sequence, .int la_count])), (h_na_weights, .inl (c_na_weights, 32, .inl na_weights_1)), (h_na_joinedTo, .inl (c_na_joinedTo, 32, .inl na_joinedTo_2)), (h_la_symbolOf, .inl (c_la_symbolOf, 40, .inl la_symbolOf)), (h_di, .inr (6, [u_di_widths, u_di_heights, u_di_samples, .int di_count])), (h_na_lengths, .inl (c_na_lengths, 16, .inl na_lengths)), (h_na_codes, .inl (c_na_codes, 16, .inl na_codes))] H → va_D A [(h_na, .inr (5, [.ref h_di, .ref h_na_lengths, .ref h_na_codes, .ref h_na_weights, .ref h_na_joinedTo])), (h_la, .inr (8, [u_la_symbols, u_la_ways, .ref h_la_symbolOf, u_la_xs, u_la_ys, u_la_differs, u_la_sequence, .int la_count])), (h_na_weights, .inl (c_na_weights, 32, .inl na_weights_1)), (h_na_joinedTo, .inl (c_na_joinedTo, 32, .inl na_joinedTo_2)), (h_la_symbolOf, .inl (c_la_symbolOf, 40, .inl la_symbolOf)), (h_di, .inr (6, [u_di_widths, u_di_heights, u_di_samples, .int di_count])), (h_na_lengths, .inl (c_na_lengths, 16, .inl na_lengths)), (h_na_codes, .inl (c_na_codes, 16, .inl na_codes))] → va_S A s.heap H locs → lv_has ls 7 [(3, .int v3_3), (2, .int v2_4), (0, .ref h_na)] → W p l e ({ frames := 1, cells := 0, slots := 0, locals := 23 } : Room) s m ([.ref h_na, .ref h_la] : List Value).toArray below meth c H locs 0 0 Q9 (F0 m 9 ls []) := by
    intro n9
    induction n9 with
    | zero =>
      intro v3_3 v2_4 H locs ls h hP hD hS hl
      exact absurd h (by simp [lp])
    | succ n9 ih_self9 =>
      intro v3_3 v2_4 H locs ls h hP hD hS hl
      obtain ⟨self9, e_self9, h⟩ := abs_k (P := fun z9 => f_CodeNames_suit_L9 di_count na_weights_1 k43 z9 (v3_3, v2_4) = some o) (lp_e h)
      rw [← e_self9] at ih_self9
      unfold f_CodeNames_suit_L9 at h
      try dsimp only at h
      refine lv_iload_n hx hb d_CodeNames_suit_9 rfl (lv_at hl 0 rfl) ?_
      refine lv_aload_n hx hb d_CodeNames_suit_10 rfl (lv_at hl 2 rfl) ?_
      refine va_get (D := (dC, dI)) (ci := 5) (v := .ref h_di) (C := R_CodeNames) (T := T_CodeNames) (N := 5) hx hb hB iw_CodeNames hown hK hP 0 rfl rfl 0 (by decide) (hB _ bw_113) (fun _ h9 => h9) rfl d_CodeNames_suit_11 ?_
      refine va_getN (D := (dC, dI)) (ci := 6) (v := .int di_count) (C := R_Dictionary) (T := T_Dictionary) (N := 4) hx hb hB iw_Dictionary hown hK hP 5 rfl rfl 3 (by decide) (va_Nw.use rfl (hnw.1 _ bn_54)) (fun _ h9 => h9) rfl d_CodeNames_suit_14 ?_
      refine lv_icmp_ge (tgt := 43) hx hb d_CodeNames_suit_17 (by decide) (fun c_5 => ?_) (fun c_5 => ?_)
      · have h := if_t h c_5
        exact w_k43 _ _ _ _ h hP hD hS (lv_sub hl [1, 2] rfl)
      · have h := if_f h c_5
        refine lv_iload_n hx hb d_CodeNames_suit_20 rfl (lv_at hl 1 rfl) ?_
        refine lv_aload_n hx hb d_CodeNames_suit_21 rfl (lv_at hl 2 rfl) ?_
        refine va_get (D := (dC, dI)) (ci := 5) (v := .ref h_na_weights) (C := R_CodeNames) (T := T_CodeNames) (N := 5) hx hb hB iw_CodeNames hown hK hP 0 rfl rfl 3 (by decide) (hB _ bw_116) (fun _ h9 => h9) rfl d_CodeNames_suit_22 ?_
        refine lv_iload_n hx hb d_CodeNames_suit_25 rfl (lv_at hl 0 rfl) ?_
        obtain ⟨hin, h⟩ := gq_e h
        refine va_iald hx hb hK hP 2 0 rfl rfl hin d_CodeNames_suit_26 ?_
        obtain ⟨j35, e_j35, h⟩ := jn_e h
        have w_j35 : ∀ (s_6 : Int32) (s_7 : Int32) (H : Heap) (locs : List Loc) (ls : Array Slot), j35 s_6 s_7 = some o → va_P (dC, dI) CL [(h_na, .inr (5, [.ref h_di, .ref h_na_lengths, .ref h_na_codes, .ref h_na_weights, .ref h_na_joinedTo])), (h_la, .inr (8, [u_la_symbols, u_la_ways, .ref h_la_symbolOf, u_la_xs, u_la_ys, u_la_differs, u_la_sequence, .int la_count])), (h_na_weights, .inl (c_na_weights, 32, .inl na_weights_1)), (h_na_joinedTo, .inl (c_na_joinedTo, 32, .inl na_joinedTo_2)), (h_la_symbolOf, .inl (c_la_symbolOf, 40, .inl la_symbolOf)), (h_di, .inr (6, [u_di_widths, u_di_heights, u_di_samples, .int di_count])), (h_na_lengths, .inl (c_na_lengths, 16, .inl na_lengths)), (h_na_codes, .inl (c_na_codes, 16, .inl na_codes))] H → va_D A [(h_na, .inr (5, [.ref h_di, .ref h_na_lengths, .ref h_na_codes, .ref h_na_weights, .ref h_na_joinedTo])), (h_la, .inr (8, [u_la_symbols, u_la_ways, .ref h_la_symbolOf, u_la_xs, u_la_ys, u_la_differs, u_la_sequence, .int la_count])), (h_na_weights, .inl (c_na_weights, 32, .inl na_weights_1)), (h_na_joinedTo, .inl (c_na_joinedTo, 32, .inl na_joinedTo_2)), (h_la_symbolOf, .inl (c_la_symbolOf, 40, .inl la_symbolOf)), (h_di, .inr (6, [u_di_widths, u_di_heights, u_di_samples, .int di_count])), (h_na_lengths, .inl (c_na_lengths, 16, .inl na_lengths)), (h_na_codes, .inl (c_na_codes, 16, .inl na_codes))] → va_S A s.heap H locs → lv_has ls 7 [(3, .int v3_3), (0, .ref h_na)] → W p l e ({ frames := 1, cells := 0, slots := 0, locals := 23 } : Room) s m ([.ref h_na, .ref h_la] : List Value).toArray below meth c H locs 0 0 Q9 (F0 m 35 ls [.int s_7, .int s_6]) := by
          intro s_6 s_7 H locs ls h hP hD hS hl
          rw [e_j35] at h
          refine lv_iadd hx hb d_CodeNames_suit_35 ?_
          refine lv_topi (fun v2_8 e_v2_8 => ?_)
          have h := nl_u e_v2_8 h
          refine lv_istore_n (lv' := [(2, .int v2_8), (3, .int v3_3), (0, .ref h_na)]) hx hb d_CodeNames_suit_36 rfl hl (by decide) rfl (fun ls hl => ?_)
          obtain ⟨v3_9, e_v3_9⟩ : ∃ y9 : Int32, y9 = (v3_3 + (1 : Int32)) := ⟨_, rfl⟩
          have h := nl_u e_v3_9 h
          refine lv_iinc (v := v3_9) (lv' := [(3, .int v3_9), (2, .int v2_8), (0, .ref h_na)]) hx hb d_CodeNames_suit_37 hl (k := 1) rfl (by rw [e_v3_9]; rfl) (by decide) rfl (fun ls hl => ?_)
          refine lv_goto (tgt := 9) hx hb d_CodeNames_suit_40 (by decide) ?_
          exact ih_self9 _ _ _ _ _ h hP hD hS hl
        refine lv_if_le (tgt := 34) hx hb d_CodeNames_suit_27 (by decide) (fun c_6 => ?_) (fun c_6 => ?_)
        · have h := if_t h c_6
          refine lv_iconst (v := 0) hx hb d_CodeNames_suit_34 (by decide) ?_
          exact w_j35 _ _ _ _ _ h hP hD hS (lv_sub hl [0, 2] rfl)
        · have h := if_f h c_6
          refine lv_iconst (v := 1) hx hb d_CodeNames_suit_30 (by decide) ?_
          refine lv_goto (tgt := 35) hx hb d_CodeNames_suit_31 (by decide) ?_
          exact w_j35 _ _ _ _ _ h hP hD hS (lv_sub hl [0, 2] rfl)
  exact w_self9 FU _ _ _ _ _ h hP hD hS (lv_sub hl [0, 1, 2] rfl)
set_option maxHeartbeats 4000000 in
set_option maxRecDepth 100000 in
theorem c_CodeNames_tellTable (l : Launch) (dC : Nat → ClassId) (dI : Nat → Nat → Nat) (h_na : Nat) (h_wr : Nat) (h_di : Nat) (h_na_lengths : Nat) (h_tb : Nat) (h_tb_bytes : Nat) (c_na_lengths : ClassId) (c_tb_bytes : ClassId) (u_na_codes : Value) (u_na_weights : Value) (u_na_joinedTo : Value) (u_di_widths : Value) (u_di_heights : Value) (u_di_samples : Value) (wr_keeping : Int32) (wr_count : Int32) (di_count : Int32) (na_lengths : (Nat → Int32)) (tb_count : Int32) (tb_bytes : (Nat → Int32)) (sz : Nat) (o : Int32 × Int32 × (Nat → Int32)) (hf : f_CodeNames_tellTable wr_keeping wr_count di_count na_lengths tb_count tb_bytes = some o) :
    Met l y_CodeNames_tellTable ws_CodeNames_tellTable { frames := 2, cells := 0, slots := 0, locals := 44 } (va_Pc [.ref h_na, .ref h_wr] (PcM (dC, dI) [(h_na, .inr (5, [.ref h_di, .ref h_na_lengths, u_na_codes, u_na_weights, u_na_joinedTo])), (h_wr, .inr (3, [.ref h_tb, .int wr_keeping, .int wr_count])), (h_di, .inr (6, [u_di_widths, u_di_heights, u_di_samples, .int di_count])), (h_na_lengths, .inl (c_na_lengths, 16, .inl na_lengths)), (h_tb, .inr (4, [.ref h_tb_bytes, .int tb_count])), (h_tb_bytes, .inl (c_tb_bytes, 2000, .inl tb_bytes))] [(c_na_lengths, .int), (c_tb_bytes, .int)] sz))
      (va_Qv (fun u : Int32 × Int32 × (Nat → Int32) => u = o) (fun u t => va_P (dC, dI) CL [(h_na, .inr (5, [.ref h_di, .ref h_na_lengths, u_na_codes, u_na_weights, u_na_joinedTo])), (h_wr, .inr (3, [.ref h_tb, .int wr_keeping, .int (u.1)])), (h_di, .inr (6, [u_di_widths, u_di_heights, u_di_samples, .int di_count])), (h_na_lengths, .inl (c_na_lengths, 16, .inl na_lengths)), (h_tb, .inr (4, [.ref h_tb_bytes, .int (u.2.1)])), (h_tb_bytes, .inl (c_tb_bytes, 2000, .inl (u.2.2)))] t.heap ∧ va_K (dC, dI) CL [(c_na_lengths, .int), (c_tb_bytes, .int)] t ∧ va_D (va_A [(h_na, .inr (5, [.ref h_di, .ref h_na_lengths, u_na_codes, u_na_weights, u_na_joinedTo])), (h_wr, .inr (3, [.ref h_tb, .int wr_keeping, .int wr_count])), (h_di, .inr (6, [u_di_widths, u_di_heights, u_di_samples, .int di_count])), (h_na_lengths, .inl (c_na_lengths, 16, .inl na_lengths)), (h_tb, .inr (4, [.ref h_tb_bytes, .int tb_count])), (h_tb_bytes, .inl (c_tb_bytes, 2000, .inl tb_bytes))] sz) [(h_na, .inr (5, [.ref h_di, .ref h_na_lengths, u_na_codes, u_na_weights, u_na_joinedTo])), (h_wr, .inr (3, [.ref h_tb, .int wr_keeping, .int (u.1)])), (h_di, .inr (6, [u_di_widths, u_di_heights, u_di_samples, .int di_count])), (h_na_lengths, .inl (c_na_lengths, 16, .inl na_lengths)), (h_tb, .inr (4, [.ref h_tb_bytes, .int (u.2.1)])), (h_tb_bytes, .inl (c_tb_bytes, 2000, .inl (u.2.2)))]) (va_A [(h_na, .inr (5, [.ref h_di, .ref h_na_lengths, u_na_codes, u_na_weights, u_na_joinedTo])), (h_wr, .inr (3, [.ref h_tb, .int wr_keeping, .int wr_count])), (h_di, .inr (6, [u_di_widths, u_di_heights, u_di_samples, .int di_count])), (h_na_lengths, .inl (c_na_lengths, 16, .inl na_lengths)), (h_tb, .inr (4, [.ref h_tb_bytes, .int tb_count])), (h_tb_bytes, .inl (c_tb_bytes, 2000, .inl tb_bytes))] sz)) 0 0 (va_A [(h_na, .inr (5, [.ref h_di, .ref h_na_lengths, u_na_codes, u_na_weights, u_na_joinedTo])), (h_wr, .inr (3, [.ref h_tb, .int wr_keeping, .int wr_count])), (h_di, .inr (6, [u_di_widths, u_di_heights, u_di_samples, .int di_count])), (h_na_lengths, .inl (c_na_lengths, 16, .inl na_lengths)), (h_tb, .inr (4, [.ref h_tb_bytes, .int tb_count])), (h_tb_bytes, .inl (c_tb_bytes, 2000, .inl tb_bytes))] sz) := by
  refine Met.ofW (cc := b_CodeNames_tellTable) (maxL := 3) (ret := none) (by decide) rfl ?_
  intro p e s m args below meth c s₁ B hml hv
  obtain ⟨rfl, hsz, hP, hK, hD0, hnw⟩ := hv
  have hx := B.exec
  have hb := B.bytes
  have hr := B.returns
  have hts := atoms_spec (ws := ws_CodeNames_tellTable) B.pre
  have hB : ∀ w ∈ BIG, w.before _ s = true := fun w h => hts w (List.mem_cons_of_mem _ h)
  have hown : s.vm.findClass R_CodeNames = some m.cls := findClass_of_methodNamed B.named
  have hlocks := B.notSynchronized
  subst hsz
  have hD := hD0.self (sz := s.heap.size)
  refine W_Q (fun Q9 eQ => ?_)
  generalize hAe : va_A [(h_na, .inr (5, [.ref h_di, .ref h_na_lengths, u_na_codes, u_na_weights, u_na_joinedTo])), (h_wr, .inr (3, [.ref h_tb, .int wr_keeping, .int wr_count])), (h_di, .inr (6, [u_di_widths, u_di_heights, u_di_samples, .int di_count])), (h_na_lengths, .inl (c_na_lengths, 16, .inl na_lengths)), (h_tb, .inr (4, [.ref h_tb_bytes, .int tb_count])), (h_tb_bytes, .inl (c_tb_bytes, 2000, .inl tb_bytes))] s.heap.size = A at hD eQ
  have hA : ∀ q : Nat, s.heap.size ≤ q → A q := fun q h => by rw [← hAe]; exact Or.inr h
  have hS : va_S A s.heap s.heap [] := va_S.rf
  have hl := lv_entry ([.ref h_na, .ref h_wr]) (n := 3) (Nat.le_of_ble_eq_true rfl)
  rw [lg_entry_eq]
  generalize (lg_sl ([.ref h_na, .ref h_wr]) ++ List.replicate (3 - (lg_sl ([.ref h_na, .ref h_wr])).length) Slot.unset).toArray = ls at hl ⊢
  have hl : lv_has ls 3 [(0, .ref h_na), (1, .ref h_wr)] := hl
  have h := hf
  unfold f_CodeNames_tellTable at h
  refine lv_iconst (v := 0) hx hb d_CodeNames_tellTable_0 (by decide) ?_
  refine lv_istore_n (lv' := [(2, .int (0 : Int32)), (0, .ref h_na), (1, .ref h_wr)]) hx hb d_CodeNames_tellTable_1 rfl hl (by decide) rfl (fun ls hl => ?_)
  have w_self2 : ∀ n9 : Nat, ∀ (v2_1 : Int32) (wr_count_2 : Int32) (tb_count_3 : Int32) (tb_bytes_4 : (Nat → Int32)) (H : Heap) (locs : List Loc) (ls : Array Slot), lp (f_CodeNames_tellTable_L2 di_count wr_keeping na_lengths) n9 (v2_1, wr_count_2, tb_count_3, tb_bytes_4) = some o → va_P (dC, dI) CL [(h_na, .inr (5, [.ref h_di, .ref h_na_lengths, u_na_codes, u_na_weights, u_na_joinedTo])), (h_wr, .inr (3, [.ref h_tb, .int wr_keeping, .int wr_count_2])), (h_di, .inr (6, [u_di_widths, u_di_heights, u_di_samples, .int di_count])), (h_na_lengths, .inl (c_na_lengths, 16, .inl na_lengths)), (h_tb, .inr (4, [.ref h_tb_bytes, .int tb_count_3])), (h_tb_bytes, .inl (c_tb_bytes, 2000, .inl tb_bytes_4))] H → va_D A [(h_na, .inr (5, [.ref h_di, .ref h_na_lengths, u_na_codes, u_na_weights, u_na_joinedTo])), (h_wr, .inr (3, [.ref h_tb, .int wr_keeping, .int wr_count_2])), (h_di, .inr (6, [u_di_widths, u_di_heights, u_di_samples, .int di_count])), (h_na_lengths, .inl (c_na_lengths, 16, .inl na_lengths)), (h_tb, .inr (4, [.ref h_tb_bytes, .int tb_count_3])), (h_tb_bytes, .inl (c_tb_bytes, 2000, .inl tb_bytes_4))] → va_S A s.heap H locs → lv_has ls 3 [(2, .int v2_1), (0, .ref h_na), (1, .ref h_wr)] → W p l e ({ frames := 2, cells := 0, slots := 0, locals := 44 } : Room) s m ([.ref h_na, .ref h_wr] : List Value).toArray below meth c H locs 0 0 Q9 (F0 m 2 ls []) := by
    intro n9
    induction n9 with
    | zero =>
      intro v2_1 wr_count_2 tb_count_3 tb_bytes_4 H locs ls h hP hD hS hl
      exact absurd h (by simp [lp])
    | succ n9 ih_self2 =>
      intro v2_1 wr_count_2 tb_count_3 tb_bytes_4 H locs ls h hP hD hS hl
      obtain ⟨self2, e_self2, h⟩ := abs_k (P := fun z9 => f_CodeNames_tellTable_L2 di_count wr_keeping na_lengths z9 (v2_1, wr_count_2, tb_count_3, tb_bytes_4) = some o) (lp_e h)
      rw [← e_self2] at ih_self2
      unfold f_CodeNames_tellTable_L2 at h
      try dsimp only at h
      refine lv_iload_n hx hb d_CodeNames_tellTable_2 rfl (lv_at hl 0 rfl) ?_
      refine lv_aload_n hx hb d_CodeNames_tellTable_3 rfl (lv_at hl 1 rfl) ?_
      refine va_get (D := (dC, dI)) (ci := 5) (v := .ref h_di) (C := R_CodeNames) (T := T_CodeNames) (N := 5) hx hb hB iw_CodeNames hown hK hP 0 rfl rfl 0 (by decide) (hB _ bw_113) (fun _ h9 => h9) rfl d_CodeNames_tellTable_4 ?_
      refine va_getN (D := (dC, dI)) (ci := 6) (v := .int di_count) (C := R_Dictionary) (T := T_Dictionary) (N := 4) hx hb hB iw_Dictionary hown hK hP 2 rfl rfl 3 (by decide) (va_Nw.use rfl (hnw.1 _ bn_54)) (fun _ h9 => h9) rfl d_CodeNames_tellTable_7 ?_
      refine lv_icmp_ge (tgt := 30) hx hb d_CodeNames_tellTable_10 (by decide) (fun c_1 => ?_) (fun c_1 => ?_)
      · have h := if_t h c_1
        subst eQ
        exact W.vret hx hb hr (fun t ht hW => ⟨⟨(wr_count_2, tb_count_3, tb_bytes_4), rfl, Option.some.inj h, by rw [ht]; exact hP, va_K.moved hW.alike hK, hD⟩, hS.F ht⟩) hS.2.2 d_CodeNames_tellTable_30
      · have h := if_f h c_1
        refine lv_aload_n hx hb d_CodeNames_tellTable_13 rfl (lv_at hl 2 rfl) ?_
        refine lv_aload_n hx hb d_CodeNames_tellTable_14 rfl (lv_at hl 1 rfl) ?_
        refine va_get (D := (dC, dI)) (ci := 5) (v := .ref h_na_lengths) (C := R_CodeNames) (T := T_CodeNames) (N := 5) hx hb hB iw_CodeNames hown hK hP 0 rfl rfl 1 (by decide) (hB _ bw_114) (fun _ h9 => h9) rfl d_CodeNames_tellTable_15 ?_
        refine lv_iload_n hx hb d_CodeNames_tellTable_18 rfl (lv_at hl 0 rfl) ?_
        obtain ⟨hin, h⟩ := gq_e h
        refine va_iald hx hb hK hP 3 0 rfl rfl hin d_CodeNames_tellTable_19 ?_
        refine lv_iconst (v := 4) hx hb d_CodeNames_tellTable_20 (by decide) ?_
        obtain ⟨o9, hc9, h⟩ := bd_e h
        have hPc := hP.sub (ws' := [(h_wr, .inr (3, [.ref h_tb, .int wr_keeping, .int wr_count_2])), (h_tb, .inr (4, [.ref h_tb_bytes, .int tb_count_3])), (h_tb_bytes, .inl (c_tb_bytes, 2000, .inl tb_bytes_4))]) [1, 4, 5] rfl
        have hKc := hK.sub (tys' := [(c_tb_bytes, .int)]) [1] rfl
        have hDc := hD.sub (ws' := [(h_wr, .inr (3, [.ref h_tb, .int wr_keeping, .int wr_count_2])), (h_tb, .inr (4, [.ref h_tb_bytes, .int tb_count_3])), (h_tb_bytes, .inl (c_tb_bytes, 2000, .inl tb_bytes_4))]) [1, 4, 5] (by decide) rfl
        have hFc := va_free (wc := [(h_wr, .inr (3, [.ref h_tb, .int wr_keeping, .int wr_count_2])), (h_tb, .inr (4, [.ref h_tb_bytes, .int tb_count_3])), (h_tb_bytes, .inl (c_tb_bytes, 2000, .inl tb_bytes_4))]) hD hS hA [1, 4, 5] rfl
        refine va_callv (va_runVN (As := [.int (na_lengths (v2_1).toNatClampNeg), .int (4 : Int32)]) (rest := []) ⟨hx, hb, hml, hown, hB⟩ (c_BitWriter_tellBits l dC dI h_wr h_tb h_tb_bytes c_tb_bytes wr_keeping wr_count_2 tb_count_3 tb_bytes_4 (na_lengths (v2_1).toNatClampNeg) (4 : Int32) _ o9 hc9) ⟨va_cnB 2 hB (goodB bw_408) rfl rfl rfl (hnw.1 _ bn_427) (hB _ bw_9) (by decide +kernel) ⟨Nat.le_of_ble_eq_true rfl, Nat.le_of_ble_eq_true rfl⟩, hB _ bw_407, hB _ bs_20⟩ ⟨fb_m, va_recv hK hP (ci := 3) (q0 := 1) rfl rfl, (pre_m hPc hKc hDc hnw [.ref h_wr, .int (na_lengths (v2_1).toNatClampNeg), .int (4 : Int32)])⟩ rfl rfl hl.1 rfl (lv_room (Nat.le_of_ble_eq_true rfl)) d_CodeNames_tellTable_21 ⟨Nat.zero_le _, Nat.zero_le _⟩) hS (fun q _ h => hFc q h) hFc (fun u9 t H1 locs ht hvm hw hB hz1 hk1 hS => ?_)
        obtain ⟨wr_count_5, tb_count_6, tb_bytes_7⟩ := u9
        subst hw
        obtain ⟨hP1, hK1, hD1⟩ := hB
        rw [ht] at hP1
        obtain ⟨hP, hD⟩ := va_join (wr := [(h_na, .inr (5, [.ref h_di, .ref h_na_lengths, u_na_codes, u_na_weights, u_na_joinedTo])), (h_di, .inr (6, [u_di_widths, u_di_heights, u_di_samples, .int di_count])), (h_na_lengths, .inl (c_na_lengths, 16, .inl na_lengths))]) (w1 := [(h_wr, .inr (3, [.ref h_tb, .int wr_keeping, .int wr_count_5])), (h_tb, .inr (4, [.ref h_tb_bytes, .int tb_count_6])), (h_tb_bytes, .inl (c_tb_bytes, 2000, .inl tb_bytes_7))]) hP hD [1, 4, 5] [0, 2, 3] rfl rfl (by decide) (by decide) hk1 hFc hP1 hD1
        have hP := hP.sub (ws' := [(h_na, .inr (5, [.ref h_di, .ref h_na_lengths, u_na_codes, u_na_weights, u_na_joinedTo])), (h_wr, .inr (3, [.ref h_tb, .int wr_keeping, .int wr_count_5])), (h_di, .inr (6, [u_di_widths, u_di_heights, u_di_samples, .int di_count])), (h_na_lengths, .inl (c_na_lengths, 16, .inl na_lengths)), (h_tb, .inr (4, [.ref h_tb_bytes, .int tb_count_6])), (h_tb_bytes, .inl (c_tb_bytes, 2000, .inl tb_bytes_7))]) [0, 3, 1, 2, 4, 5] rfl
        have hD := hD.sub (ws' := [(h_na, .inr (5, [.ref h_di, .ref h_na_lengths, u_na_codes, u_na_weights, u_na_joinedTo])), (h_wr, .inr (3, [.ref h_tb, .int wr_keeping, .int wr_count_5])), (h_di, .inr (6, [u_di_widths, u_di_heights, u_di_samples, .int di_count])), (h_na_lengths, .inl (c_na_lengths, 16, .inl na_lengths)), (h_tb, .inr (4, [.ref h_tb_bytes, .int tb_count_6])), (h_tb_bytes, .inl (c_tb_bytes, 2000, .inl tb_bytes_7))]) [0, 3, 1, 2, 4, 5] (by decide) rfl
        clear hPc hKc hDc hFc hc9 hP1 hK1 hD1 hk1 hz1 hvm ht
        generalize H1 = H at hP hS ⊢
        try dsimp only at h
        obtain ⟨v2_8, e_v2_8⟩ : ∃ y9 : Int32, y9 = (v2_1 + (1 : Int32)) := ⟨_, rfl⟩
        have h := nl_u e_v2_8 h
        refine lv_iinc (v := v2_8) (lv' := [(2, .int v2_8), (0, .ref h_na), (1, .ref h_wr)]) hx hb d_CodeNames_tellTable_24 hl (k := 0) rfl (by rw [e_v2_8]; rfl) (by decide) rfl (fun ls hl => ?_)
        refine lv_goto (tgt := 2) hx hb d_CodeNames_tellTable_27 (by decide) ?_
        exact ih_self2 _ _ _ _ _ _ _ h hP hD hS hl
  exact w_self2 FU _ _ _ _ _ _ _ h hP hD hS hl
set_option maxHeartbeats 4000000 in
set_option maxRecDepth 100000 in
theorem c_CodeNames_tellName (l : Launch) (dC : Nat → ClassId) (dI : Nat → Nat → Nat) (h_na : Nat) (h_wr : Nat) (h_na_codes : Nat) (h_na_lengths : Nat) (h_tb : Nat) (h_tb_bytes : Nat) (c_na_codes : ClassId) (c_na_lengths : ClassId) (c_tb_bytes : ClassId) (u_na_symbols : Value) (u_na_weights : Value) (u_na_joinedTo : Value) (wr_keeping : Int32) (wr_count : Int32) (na_codes : (Nat → Int32)) (na_lengths : (Nat → Int32)) (tb_count : Int32) (tb_bytes : (Nat → Int32)) (p0 : Int32) (sz : Nat) (o : Int32 × Int32 × (Nat → Int32)) (hf : f_CodeNames_tellName wr_keeping wr_count na_codes na_lengths tb_count tb_bytes p0 = some o) :
    Met l y_CodeNames_tellName ws_CodeNames_tellName { frames := 2, cells := 0, slots := 0, locals := 44 } (va_Pc [.ref h_na, .int p0, .ref h_wr] (PcM (dC, dI) [(h_na, .inr (5, [u_na_symbols, .ref h_na_lengths, .ref h_na_codes, u_na_weights, u_na_joinedTo])), (h_wr, .inr (3, [.ref h_tb, .int wr_keeping, .int wr_count])), (h_na_codes, .inl (c_na_codes, 16, .inl na_codes)), (h_na_lengths, .inl (c_na_lengths, 16, .inl na_lengths)), (h_tb, .inr (4, [.ref h_tb_bytes, .int tb_count])), (h_tb_bytes, .inl (c_tb_bytes, 2000, .inl tb_bytes))] [(c_na_codes, .int), (c_na_lengths, .int), (c_tb_bytes, .int)] sz))
      (va_Qv (fun u : Int32 × Int32 × (Nat → Int32) => u = o) (fun u t => va_P (dC, dI) CL [(h_na, .inr (5, [u_na_symbols, .ref h_na_lengths, .ref h_na_codes, u_na_weights, u_na_joinedTo])), (h_wr, .inr (3, [.ref h_tb, .int wr_keeping, .int (u.1)])), (h_na_codes, .inl (c_na_codes, 16, .inl na_codes)), (h_na_lengths, .inl (c_na_lengths, 16, .inl na_lengths)), (h_tb, .inr (4, [.ref h_tb_bytes, .int (u.2.1)])), (h_tb_bytes, .inl (c_tb_bytes, 2000, .inl (u.2.2)))] t.heap ∧ va_K (dC, dI) CL [(c_na_codes, .int), (c_na_lengths, .int), (c_tb_bytes, .int)] t ∧ va_D (va_A [(h_na, .inr (5, [u_na_symbols, .ref h_na_lengths, .ref h_na_codes, u_na_weights, u_na_joinedTo])), (h_wr, .inr (3, [.ref h_tb, .int wr_keeping, .int wr_count])), (h_na_codes, .inl (c_na_codes, 16, .inl na_codes)), (h_na_lengths, .inl (c_na_lengths, 16, .inl na_lengths)), (h_tb, .inr (4, [.ref h_tb_bytes, .int tb_count])), (h_tb_bytes, .inl (c_tb_bytes, 2000, .inl tb_bytes))] sz) [(h_na, .inr (5, [u_na_symbols, .ref h_na_lengths, .ref h_na_codes, u_na_weights, u_na_joinedTo])), (h_wr, .inr (3, [.ref h_tb, .int wr_keeping, .int (u.1)])), (h_na_codes, .inl (c_na_codes, 16, .inl na_codes)), (h_na_lengths, .inl (c_na_lengths, 16, .inl na_lengths)), (h_tb, .inr (4, [.ref h_tb_bytes, .int (u.2.1)])), (h_tb_bytes, .inl (c_tb_bytes, 2000, .inl (u.2.2)))]) (va_A [(h_na, .inr (5, [u_na_symbols, .ref h_na_lengths, .ref h_na_codes, u_na_weights, u_na_joinedTo])), (h_wr, .inr (3, [.ref h_tb, .int wr_keeping, .int wr_count])), (h_na_codes, .inl (c_na_codes, 16, .inl na_codes)), (h_na_lengths, .inl (c_na_lengths, 16, .inl na_lengths)), (h_tb, .inr (4, [.ref h_tb_bytes, .int tb_count])), (h_tb_bytes, .inl (c_tb_bytes, 2000, .inl tb_bytes))] sz)) 0 0 (va_A [(h_na, .inr (5, [u_na_symbols, .ref h_na_lengths, .ref h_na_codes, u_na_weights, u_na_joinedTo])), (h_wr, .inr (3, [.ref h_tb, .int wr_keeping, .int wr_count])), (h_na_codes, .inl (c_na_codes, 16, .inl na_codes)), (h_na_lengths, .inl (c_na_lengths, 16, .inl na_lengths)), (h_tb, .inr (4, [.ref h_tb_bytes, .int tb_count])), (h_tb_bytes, .inl (c_tb_bytes, 2000, .inl tb_bytes))] sz) := by
  refine Met.ofW (cc := b_CodeNames_tellName) (maxL := 3) (ret := none) (by decide) rfl ?_
  intro p e s m args below meth c s₁ B hml hv
  obtain ⟨rfl, hsz, hP, hK, hD0, hnw⟩ := hv
  have hx := B.exec
  have hb := B.bytes
  have hr := B.returns
  have hts := atoms_spec (ws := ws_CodeNames_tellName) B.pre
  have hB : ∀ w ∈ BIG, w.before _ s = true := fun w h => hts w (List.mem_cons_of_mem _ h)
  have hown : s.vm.findClass R_CodeNames = some m.cls := findClass_of_methodNamed B.named
  have hlocks := B.notSynchronized
  subst hsz
  have hD := hD0.self (sz := s.heap.size)
  refine W_Q (fun Q9 eQ => ?_)
  generalize hAe : va_A [(h_na, .inr (5, [u_na_symbols, .ref h_na_lengths, .ref h_na_codes, u_na_weights, u_na_joinedTo])), (h_wr, .inr (3, [.ref h_tb, .int wr_keeping, .int wr_count])), (h_na_codes, .inl (c_na_codes, 16, .inl na_codes)), (h_na_lengths, .inl (c_na_lengths, 16, .inl na_lengths)), (h_tb, .inr (4, [.ref h_tb_bytes, .int tb_count])), (h_tb_bytes, .inl (c_tb_bytes, 2000, .inl tb_bytes))] s.heap.size = A at hD eQ
  have hA : ∀ q : Nat, s.heap.size ≤ q → A q := fun q h => by rw [← hAe]; exact Or.inr h
  have hS : va_S A s.heap s.heap [] := va_S.rf
  have hl := lv_entry ([.ref h_na, .int p0, .ref h_wr]) (n := 3) (Nat.le_of_ble_eq_true rfl)
  rw [lg_entry_eq]
  generalize (lg_sl ([.ref h_na, .int p0, .ref h_wr]) ++ List.replicate (3 - (lg_sl ([.ref h_na, .int p0, .ref h_wr])).length) Slot.unset).toArray = ls at hl ⊢
  have hl : lv_has ls 3 [(0, .ref h_na), (1, .int p0), (2, .ref h_wr)] := hl
  have h := hf
  unfold f_CodeNames_tellName at h
  refine lv_aload_n hx hb d_CodeNames_tellName_0 rfl (lv_at hl 2 rfl) ?_
  refine lv_aload_n hx hb d_CodeNames_tellName_1 rfl (lv_at hl 0 rfl) ?_
  refine va_get (D := (dC, dI)) (ci := 5) (v := .ref h_na_codes) (C := R_CodeNames) (T := T_CodeNames) (N := 5) hx hb hB iw_CodeNames hown hK hP 0 rfl rfl 2 (by decide) (hB _ bw_115) (fun _ h9 => h9) rfl d_CodeNames_tellName_2 ?_
  refine lv_iload_n hx hb d_CodeNames_tellName_5 rfl (lv_at hl 1 rfl) ?_
  obtain ⟨hin, h⟩ := gq_e h
  refine va_iald hx hb hK hP 2 0 rfl rfl hin d_CodeNames_tellName_6 ?_
  refine lv_aload_n hx hb d_CodeNames_tellName_7 rfl (lv_at hl 0 rfl) ?_
  refine va_get (D := (dC, dI)) (ci := 5) (v := .ref h_na_lengths) (C := R_CodeNames) (T := T_CodeNames) (N := 5) hx hb hB iw_CodeNames hown hK hP 0 rfl rfl 1 (by decide) (hB _ bw_114) (fun _ h9 => h9) rfl d_CodeNames_tellName_8 ?_
  refine lv_iload_n hx hb d_CodeNames_tellName_11 rfl (lv_at hl 1 rfl) ?_
  obtain ⟨hin, h⟩ := gq_e h
  refine va_iald hx hb hK hP 3 1 rfl rfl hin d_CodeNames_tellName_12 ?_
  obtain ⟨o9, hc9, h⟩ := bd_e h
  have hPc := hP.sub (ws' := [(h_wr, .inr (3, [.ref h_tb, .int wr_keeping, .int wr_count])), (h_tb, .inr (4, [.ref h_tb_bytes, .int tb_count])), (h_tb_bytes, .inl (c_tb_bytes, 2000, .inl tb_bytes))]) [1, 4, 5] rfl
  have hKc := hK.sub (tys' := [(c_tb_bytes, .int)]) [2] rfl
  have hDc := hD.sub (ws' := [(h_wr, .inr (3, [.ref h_tb, .int wr_keeping, .int wr_count])), (h_tb, .inr (4, [.ref h_tb_bytes, .int tb_count])), (h_tb_bytes, .inl (c_tb_bytes, 2000, .inl tb_bytes))]) [1, 4, 5] (by decide) rfl
  have hFc := va_free (wc := [(h_wr, .inr (3, [.ref h_tb, .int wr_keeping, .int wr_count])), (h_tb, .inr (4, [.ref h_tb_bytes, .int tb_count])), (h_tb_bytes, .inl (c_tb_bytes, 2000, .inl tb_bytes))]) hD hS hA [1, 4, 5] rfl
  refine va_callv (va_runVN (As := [.int (na_codes (p0).toNatClampNeg), .int (na_lengths (p0).toNatClampNeg)]) (rest := []) ⟨hx, hb, hml, hown, hB⟩ (c_BitWriter_tellBits l dC dI h_wr h_tb h_tb_bytes c_tb_bytes wr_keeping wr_count tb_count tb_bytes (na_codes (p0).toNatClampNeg) (na_lengths (p0).toNatClampNeg) _ o9 hc9) ⟨va_cnB 2 hB (goodB bw_408) rfl rfl rfl (hnw.1 _ bn_427) (hB _ bw_9) (by decide +kernel) ⟨Nat.le_of_ble_eq_true rfl, Nat.le_of_ble_eq_true rfl⟩, hB _ bw_407, hB _ bs_20⟩ ⟨fb_m, va_recv hK hP (ci := 3) (q0 := 1) rfl rfl, (pre_m hPc hKc hDc hnw [.ref h_wr, .int (na_codes (p0).toNatClampNeg), .int (na_lengths (p0).toNatClampNeg)])⟩ rfl rfl hl.1 rfl (lv_room (Nat.le_of_ble_eq_true rfl)) d_CodeNames_tellName_13 ⟨Nat.zero_le _, Nat.zero_le _⟩) hS (fun q _ h => hFc q h) hFc (fun u9 t H1 locs ht hvm hw hB hz1 hk1 hS => ?_)
  obtain ⟨wr_count_1, tb_count_2, tb_bytes_3⟩ := u9
  subst hw
  obtain ⟨hP1, hK1, hD1⟩ := hB
  rw [ht] at hP1
  obtain ⟨hP, hD⟩ := va_join (wr := [(h_na, .inr (5, [u_na_symbols, .ref h_na_lengths, .ref h_na_codes, u_na_weights, u_na_joinedTo])), (h_na_codes, .inl (c_na_codes, 16, .inl na_codes)), (h_na_lengths, .inl (c_na_lengths, 16, .inl na_lengths))]) (w1 := [(h_wr, .inr (3, [.ref h_tb, .int wr_keeping, .int wr_count_1])), (h_tb, .inr (4, [.ref h_tb_bytes, .int tb_count_2])), (h_tb_bytes, .inl (c_tb_bytes, 2000, .inl tb_bytes_3))]) hP hD [1, 4, 5] [0, 2, 3] rfl rfl (by decide) (by decide) hk1 hFc hP1 hD1
  have hP := hP.sub (ws' := [(h_na, .inr (5, [u_na_symbols, .ref h_na_lengths, .ref h_na_codes, u_na_weights, u_na_joinedTo])), (h_wr, .inr (3, [.ref h_tb, .int wr_keeping, .int wr_count_1])), (h_na_codes, .inl (c_na_codes, 16, .inl na_codes)), (h_na_lengths, .inl (c_na_lengths, 16, .inl na_lengths)), (h_tb, .inr (4, [.ref h_tb_bytes, .int tb_count_2])), (h_tb_bytes, .inl (c_tb_bytes, 2000, .inl tb_bytes_3))]) [0, 3, 1, 2, 4, 5] rfl
  have hD := hD.sub (ws' := [(h_na, .inr (5, [u_na_symbols, .ref h_na_lengths, .ref h_na_codes, u_na_weights, u_na_joinedTo])), (h_wr, .inr (3, [.ref h_tb, .int wr_keeping, .int wr_count_1])), (h_na_codes, .inl (c_na_codes, 16, .inl na_codes)), (h_na_lengths, .inl (c_na_lengths, 16, .inl na_lengths)), (h_tb, .inr (4, [.ref h_tb_bytes, .int tb_count_2])), (h_tb_bytes, .inl (c_tb_bytes, 2000, .inl tb_bytes_3))]) [0, 3, 1, 2, 4, 5] (by decide) rfl
  clear hPc hKc hDc hFc hc9 hP1 hK1 hD1 hk1 hz1 hvm ht
  generalize H1 = H at hP hS ⊢
  try dsimp only at h
  subst eQ
  exact W.vret hx hb hr (fun t ht hW => ⟨⟨(wr_count_1, tb_count_2, tb_bytes_3), rfl, Option.some.inj h, by rw [ht]; exact hP, va_K.moved hW.alike hK, hD⟩, hS.F ht⟩) hS.2.2 d_CodeNames_tellName_16
set_option maxHeartbeats 4000000 in
set_option maxRecDepth 100000 in
theorem c_CodeNames_readTable (l : Launch) (dC : Nat → ClassId) (dI : Nat → Nat → Nat) (h_na : Nat) (h_rd : Nat) (h_na_lengths : Nat) (h_di : Nat) (h_cb : Nat) (h_cb_bytes : Nat) (h_na_codes : Nat) (c_na_lengths : ClassId) (c_cb_bytes : ClassId) (c_na_codes : ClassId) (u_na_weights : Value) (u_na_joinedTo : Value) (u_di_widths : Value) (u_di_heights : Value) (u_di_samples : Value) (rd_place : Int32) (rd_refusal : Int32) (na_lengths : (Nat → Int32)) (di_count : Int32) (cb_count : Int32) (cb_bytes : (Nat → Int32)) (na_codes : (Nat → Int32)) (p1 : Int32) (sz : Nat) (o : Int32 × Int32 × (Nat → Int32) × (Nat → Int32)) (hf : f_CodeNames_readTable rd_place rd_refusal na_lengths di_count cb_count cb_bytes na_codes p1 = some o) :
    Met l y_CodeNames_readTable ws_CodeNames_readTable { frames := 2, cells := 0, slots := 0, locals := 44 } (va_Pc [.ref h_na, .ref h_rd, .int p1] (PcM (dC, dI) [(h_na, .inr (5, [.ref h_di, .ref h_na_lengths, .ref h_na_codes, u_na_weights, u_na_joinedTo])), (h_rd, .inr (2, [.ref h_cb, .int rd_place, .int rd_refusal])), (h_na_lengths, .inl (c_na_lengths, 16, .inl na_lengths)), (h_di, .inr (6, [u_di_widths, u_di_heights, u_di_samples, .int di_count])), (h_cb, .inr (4, [.ref h_cb_bytes, .int cb_count])), (h_cb_bytes, .inl (c_cb_bytes, 2000, .inl cb_bytes)), (h_na_codes, .inl (c_na_codes, 16, .inl na_codes))] [(c_na_lengths, .int), (c_cb_bytes, .int), (c_na_codes, .int)] sz))
      (va_Qv (fun u : Int32 × Int32 × (Nat → Int32) × (Nat → Int32) => u = o) (fun u t => va_P (dC, dI) CL [(h_na, .inr (5, [.ref h_di, .ref h_na_lengths, .ref h_na_codes, u_na_weights, u_na_joinedTo])), (h_rd, .inr (2, [.ref h_cb, .int (u.1), .int (u.2.1)])), (h_na_lengths, .inl (c_na_lengths, 16, .inl (u.2.2.1))), (h_di, .inr (6, [u_di_widths, u_di_heights, u_di_samples, .int di_count])), (h_cb, .inr (4, [.ref h_cb_bytes, .int cb_count])), (h_cb_bytes, .inl (c_cb_bytes, 2000, .inl cb_bytes)), (h_na_codes, .inl (c_na_codes, 16, .inl (u.2.2.2)))] t.heap ∧ va_K (dC, dI) CL [(c_na_lengths, .int), (c_cb_bytes, .int), (c_na_codes, .int)] t ∧ va_D (va_A [(h_na, .inr (5, [.ref h_di, .ref h_na_lengths, .ref h_na_codes, u_na_weights, u_na_joinedTo])), (h_rd, .inr (2, [.ref h_cb, .int rd_place, .int rd_refusal])), (h_na_lengths, .inl (c_na_lengths, 16, .inl na_lengths)), (h_di, .inr (6, [u_di_widths, u_di_heights, u_di_samples, .int di_count])), (h_cb, .inr (4, [.ref h_cb_bytes, .int cb_count])), (h_cb_bytes, .inl (c_cb_bytes, 2000, .inl cb_bytes)), (h_na_codes, .inl (c_na_codes, 16, .inl na_codes))] sz) [(h_na, .inr (5, [.ref h_di, .ref h_na_lengths, .ref h_na_codes, u_na_weights, u_na_joinedTo])), (h_rd, .inr (2, [.ref h_cb, .int (u.1), .int (u.2.1)])), (h_na_lengths, .inl (c_na_lengths, 16, .inl (u.2.2.1))), (h_di, .inr (6, [u_di_widths, u_di_heights, u_di_samples, .int di_count])), (h_cb, .inr (4, [.ref h_cb_bytes, .int cb_count])), (h_cb_bytes, .inl (c_cb_bytes, 2000, .inl cb_bytes)), (h_na_codes, .inl (c_na_codes, 16, .inl (u.2.2.2)))]) (va_A [(h_na, .inr (5, [.ref h_di, .ref h_na_lengths, .ref h_na_codes, u_na_weights, u_na_joinedTo])), (h_rd, .inr (2, [.ref h_cb, .int rd_place, .int rd_refusal])), (h_na_lengths, .inl (c_na_lengths, 16, .inl na_lengths)), (h_di, .inr (6, [u_di_widths, u_di_heights, u_di_samples, .int di_count])), (h_cb, .inr (4, [.ref h_cb_bytes, .int cb_count])), (h_cb_bytes, .inl (c_cb_bytes, 2000, .inl cb_bytes)), (h_na_codes, .inl (c_na_codes, 16, .inl na_codes))] sz)) 0 0 (va_A [(h_na, .inr (5, [.ref h_di, .ref h_na_lengths, .ref h_na_codes, u_na_weights, u_na_joinedTo])), (h_rd, .inr (2, [.ref h_cb, .int rd_place, .int rd_refusal])), (h_na_lengths, .inl (c_na_lengths, 16, .inl na_lengths)), (h_di, .inr (6, [u_di_widths, u_di_heights, u_di_samples, .int di_count])), (h_cb, .inr (4, [.ref h_cb_bytes, .int cb_count])), (h_cb_bytes, .inl (c_cb_bytes, 2000, .inl cb_bytes)), (h_na_codes, .inl (c_na_codes, 16, .inl na_codes))] sz) := by
  refine Met.ofW (cc := b_CodeNames_readTable) (maxL := 4) (ret := none) (by decide) rfl ?_
  intro p e s m args below meth c s₁ B hml hv
  obtain ⟨rfl, hsz, hP, hK, hD0, hnw⟩ := hv
  have hx := B.exec
  have hb := B.bytes
  have hr := B.returns
  have hts := atoms_spec (ws := ws_CodeNames_readTable) B.pre
  have hB : ∀ w ∈ BIG, w.before _ s = true := fun w h => hts w (List.mem_cons_of_mem _ h)
  have hown : s.vm.findClass R_CodeNames = some m.cls := findClass_of_methodNamed B.named
  have hlocks := B.notSynchronized
  subst hsz
  have hD := hD0.self (sz := s.heap.size)
  refine W_Q (fun Q9 eQ => ?_)
  generalize hAe : va_A [(h_na, .inr (5, [.ref h_di, .ref h_na_lengths, .ref h_na_codes, u_na_weights, u_na_joinedTo])), (h_rd, .inr (2, [.ref h_cb, .int rd_place, .int rd_refusal])), (h_na_lengths, .inl (c_na_lengths, 16, .inl na_lengths)), (h_di, .inr (6, [u_di_widths, u_di_heights, u_di_samples, .int di_count])), (h_cb, .inr (4, [.ref h_cb_bytes, .int cb_count])), (h_cb_bytes, .inl (c_cb_bytes, 2000, .inl cb_bytes)), (h_na_codes, .inl (c_na_codes, 16, .inl na_codes))] s.heap.size = A at hD eQ
  have hA : ∀ q : Nat, s.heap.size ≤ q → A q := fun q h => by rw [← hAe]; exact Or.inr h
  have hS : va_S A s.heap s.heap [] := va_S.rf
  have hl := lv_entry ([.ref h_na, .ref h_rd, .int p1]) (n := 4) (Nat.le_of_ble_eq_true rfl)
  rw [lg_entry_eq]
  generalize (lg_sl ([.ref h_na, .ref h_rd, .int p1]) ++ List.replicate (4 - (lg_sl ([.ref h_na, .ref h_rd, .int p1])).length) Slot.unset).toArray = ls at hl ⊢
  have hl : lv_has ls 4 [(0, .ref h_na), (1, .ref h_rd), (2, .int p1)] := hl
  have h := hf
  unfold f_CodeNames_readTable at h
  refine lv_iconst (v := 0) hx hb d_CodeNames_readTable_0 (by decide) ?_
  refine lv_istore_n (lv' := [(3, .int (0 : Int32)), (0, .ref h_na), (1, .ref h_rd), (2, .int p1)]) hx hb d_CodeNames_readTable_1 rfl hl (by decide) rfl (fun ls hl => ?_)
  obtain ⟨k40, e_k40, h⟩ := abs_k (P := fun k9 => lp (f_CodeNames_readTable_L2 di_count cb_count cb_bytes k9) FU ((0 : Int32), rd_place, rd_refusal, na_lengths) = some o) h
  have w_k40 : ∀ (rd_place_5 : Int32) (rd_refusal_6 : Int32) (na_lengths_7 : (Nat → Int32)) (H : Heap) (locs : List Loc) (ls : Array Slot), k40 rd_place_5 rd_refusal_6 na_lengths_7 = some o → va_P (dC, dI) CL [(h_na, .inr (5, [.ref h_di, .ref h_na_lengths, .ref h_na_codes, u_na_weights, u_na_joinedTo])), (h_rd, .inr (2, [.ref h_cb, .int rd_place_5, .int rd_refusal_6])), (h_na_lengths, .inl (c_na_lengths, 16, .inl na_lengths_7)), (h_di, .inr (6, [u_di_widths, u_di_heights, u_di_samples, .int di_count])), (h_cb, .inr (4, [.ref h_cb_bytes, .int cb_count])), (h_cb_bytes, .inl (c_cb_bytes, 2000, .inl cb_bytes)), (h_na_codes, .inl (c_na_codes, 16, .inl na_codes))] H → va_D A [(h_na, .inr (5, [.ref h_di, .ref h_na_lengths, .ref h_na_codes, u_na_weights, u_na_joinedTo])), (h_rd, .inr (2, [.ref h_cb, .int rd_place_5, .int rd_refusal_6])), (h_na_lengths, .inl (c_na_lengths, 16, .inl na_lengths_7)), (h_di, .inr (6, [u_di_widths, u_di_heights, u_di_samples, .int di_count])), (h_cb, .inr (4, [.ref h_cb_bytes, .int cb_count])), (h_cb_bytes, .inl (c_cb_bytes, 2000, .inl cb_bytes)), (h_na_codes, .inl (c_na_codes, 16, .inl na_codes))] → va_S A s.heap H locs → lv_has ls 4 [(0, .ref h_na), (1, .ref h_rd), (2, .int p1)] → W p l e ({ frames := 2, cells := 0, slots := 0, locals := 44 } : Room) s m ([.ref h_na, .ref h_rd, .int p1] : List Value).toArray below meth c H locs 0 0 Q9 (F0 m 40 ls []) := by
    intro rd_place_5 rd_refusal_6 na_lengths_7 H locs ls h hP hD hS hl
    rw [e_k40] at h
    refine lv_aload_n hx hb d_CodeNames_readTable_40 rfl (lv_at hl 0 rfl) ?_
    refine lv_iload_n hx hb d_CodeNames_readTable_41 rfl (lv_at hl 2 rfl) ?_
    obtain ⟨o9, hc9, h⟩ := bd_e h
    have hPc := hP.sub (ws' := [(h_na, .inr (5, [.ref h_di, .ref h_na_lengths, .ref h_na_codes, u_na_weights, u_na_joinedTo])), (h_di, .inr (6, [u_di_widths, u_di_heights, u_di_samples, .int di_count])), (h_na_lengths, .inl (c_na_lengths, 16, .inl na_lengths_7))]) [0, 3, 2] rfl
    have hKc := hK.sub (tys' := [(c_na_lengths, .int)]) [0] rfl
    refine vp_callSi (va_Run.run (va_runV (As := [.int p1]) (rest := []) ⟨hx, hb, hml, hown, hB⟩ (c_CodeNames_areAllowed l dC dI h_na h_di h_na_lengths c_na_lengths (.ref h_na_codes) u_na_weights u_na_joinedTo u_di_widths u_di_heights u_di_samples di_count na_lengths_7 p1 o9 hc9) (cwV 1 hB (goodA (m4 bw_541 bw_543 bs_37 bw_6) (goodB bw_544)) rfl rfl rfl (by decide +kernel) ⟨Nat.le_of_ble_eq_true rfl, Nat.le_of_ble_eq_true rfl⟩) ⟨fb_p, va_recv hK hP (ci := 5) (q0 := 0) rfl rfl, (pre_p hPc hKc hnw [.ref h_na, .int p1])⟩ rfl rfl hl.1 rfl (lv_room (Nat.le_of_ble_eq_true rfl)) d_CodeNames_readTable_42 ⟨Nat.zero_le _, Nat.zero_le _⟩)) (fun r_16 e_r_16 => ?_)
    subst e_r_16
    clear hPc hKc hc9
    obtain ⟨j53, e_j53, h⟩ := jn_e h
    have w_j53 : ∀ (rd_refusal_17 : Int32) (H : Heap) (locs : List Loc) (ls : Array Slot), j53 rd_refusal_17 = some o → va_P (dC, dI) CL [(h_na, .inr (5, [.ref h_di, .ref h_na_lengths, .ref h_na_codes, u_na_weights, u_na_joinedTo])), (h_rd, .inr (2, [.ref h_cb, .int rd_place_5, .int rd_refusal_17])), (h_na_lengths, .inl (c_na_lengths, 16, .inl na_lengths_7)), (h_di, .inr (6, [u_di_widths, u_di_heights, u_di_samples, .int di_count])), (h_cb, .inr (4, [.ref h_cb_bytes, .int cb_count])), (h_cb_bytes, .inl (c_cb_bytes, 2000, .inl cb_bytes)), (h_na_codes, .inl (c_na_codes, 16, .inl na_codes))] H → va_D A [(h_na, .inr (5, [.ref h_di, .ref h_na_lengths, .ref h_na_codes, u_na_weights, u_na_joinedTo])), (h_rd, .inr (2, [.ref h_cb, .int rd_place_5, .int rd_refusal_17])), (h_na_lengths, .inl (c_na_lengths, 16, .inl na_lengths_7)), (h_di, .inr (6, [u_di_widths, u_di_heights, u_di_samples, .int di_count])), (h_cb, .inr (4, [.ref h_cb_bytes, .int cb_count])), (h_cb_bytes, .inl (c_cb_bytes, 2000, .inl cb_bytes)), (h_na_codes, .inl (c_na_codes, 16, .inl na_codes))] → va_S A s.heap H locs → lv_has ls 4 [(0, .ref h_na)] → W p l e ({ frames := 2, cells := 0, slots := 0, locals := 44 } : Room) s m ([.ref h_na, .ref h_rd, .int p1] : List Value).toArray below meth c H locs 0 0 Q9 (F0 m 53 ls []) := by
      intro rd_refusal_17 H locs ls h hP hD hS hl
      rw [e_j53] at h
      refine lv_aload_n hx hb d_CodeNames_readTable_53 rfl (lv_at hl 0 rfl) ?_
      obtain ⟨o9, hc9, h⟩ := bd_e h
      have hPc := hP.sub (ws' := [(h_na, .inr (5, [.ref h_di, .ref h_na_lengths, .ref h_na_codes, u_na_weights, u_na_joinedTo])), (h_di, .inr (6, [u_di_widths, u_di_heights, u_di_samples, .int di_count])), (h_na_lengths, .inl (c_na_lengths, 16, .inl na_lengths_7)), (h_na_codes, .inl (c_na_codes, 16, .inl na_codes))]) [0, 3, 2, 6] rfl
      have hKc := hK.sub (tys' := [(c_na_lengths, .int), (c_na_codes, .int)]) [0, 2] rfl
      have hDc := hD.sub (ws' := [(h_na, .inr (5, [.ref h_di, .ref h_na_lengths, .ref h_na_codes, u_na_weights, u_na_joinedTo])), (h_di, .inr (6, [u_di_widths, u_di_heights, u_di_samples, .int di_count])), (h_na_lengths, .inl (c_na_lengths, 16, .inl na_lengths_7)), (h_na_codes, .inl (c_na_codes, 16, .inl na_codes))]) [0, 3, 2, 6] (by decide) rfl
      have hFc := va_free (wc := [(h_na, .inr (5, [.ref h_di, .ref h_na_lengths, .ref h_na_codes, u_na_weights, u_na_joinedTo])), (h_di, .inr (6, [u_di_widths, u_di_heights, u_di_samples, .int di_count])), (h_na_lengths, .inl (c_na_lengths, 16, .inl na_lengths_7)), (h_na_codes, .inl (c_na_codes, 16, .inl na_codes))]) hD hS hA [0, 3, 2, 6] rfl
      refine va_callv (va_runV (As := []) (rest := []) ⟨hx, hb, hml, hown, hB⟩ (c_CodeNames_assignCodes l dC dI h_na h_di h_na_lengths h_na_codes c_na_lengths c_na_codes u_na_weights u_na_joinedTo u_di_widths u_di_heights u_di_samples di_count na_lengths_7 na_codes _ o9 hc9) (cwV 0 hB (goodA (m4 bw_383 bw_385 bs_16 bw_6) (goodB bw_386)) rfl rfl rfl (by decide +kernel) ⟨Nat.le_of_ble_eq_true rfl, Nat.le_of_ble_eq_true rfl⟩) ⟨fb_m, va_recv hK hP (ci := 5) (q0 := 0) rfl rfl, (pre_m hPc hKc hDc hnw [.ref h_na])⟩ rfl rfl hl.1 rfl (lv_room (Nat.le_of_ble_eq_true rfl)) d_CodeNames_readTable_54 ⟨Nat.zero_le _, Nat.zero_le _⟩) hS (fun q _ h => hFc q h) hFc (fun u9 t H1 locs ht hvm hw hB hz1 hk1 hS => ?_)
      obtain ⟨na_codes_18, rfl⟩ : ∃ z9, z9 = u9 := ⟨_, rfl⟩
      subst hw
      obtain ⟨hP1, hK1, hD1⟩ := hB
      rw [ht] at hP1
      obtain ⟨hP, hD⟩ := va_join (wr := [(h_rd, .inr (2, [.ref h_cb, .int rd_place_5, .int rd_refusal_17])), (h_cb, .inr (4, [.ref h_cb_bytes, .int cb_count])), (h_cb_bytes, .inl (c_cb_bytes, 2000, .inl cb_bytes))]) (w1 := [(h_na, .inr (5, [.ref h_di, .ref h_na_lengths, .ref h_na_codes, u_na_weights, u_na_joinedTo])), (h_di, .inr (6, [u_di_widths, u_di_heights, u_di_samples, .int di_count])), (h_na_lengths, .inl (c_na_lengths, 16, .inl na_lengths_7)), (h_na_codes, .inl (c_na_codes, 16, .inl na_codes_18))]) hP hD [0, 3, 2, 6] [1, 4, 5] rfl rfl (by decide) (by decide) hk1 hFc hP1 hD1
      have hP := hP.sub (ws' := [(h_na, .inr (5, [.ref h_di, .ref h_na_lengths, .ref h_na_codes, u_na_weights, u_na_joinedTo])), (h_rd, .inr (2, [.ref h_cb, .int rd_place_5, .int rd_refusal_17])), (h_na_lengths, .inl (c_na_lengths, 16, .inl na_lengths_7)), (h_di, .inr (6, [u_di_widths, u_di_heights, u_di_samples, .int di_count])), (h_cb, .inr (4, [.ref h_cb_bytes, .int cb_count])), (h_cb_bytes, .inl (c_cb_bytes, 2000, .inl cb_bytes)), (h_na_codes, .inl (c_na_codes, 16, .inl na_codes_18))]) [3, 0, 5, 4, 1, 2, 6] rfl
      have hD := hD.sub (ws' := [(h_na, .inr (5, [.ref h_di, .ref h_na_lengths, .ref h_na_codes, u_na_weights, u_na_joinedTo])), (h_rd, .inr (2, [.ref h_cb, .int rd_place_5, .int rd_refusal_17])), (h_na_lengths, .inl (c_na_lengths, 16, .inl na_lengths_7)), (h_di, .inr (6, [u_di_widths, u_di_heights, u_di_samples, .int di_count])), (h_cb, .inr (4, [.ref h_cb_bytes, .int cb_count])), (h_cb_bytes, .inl (c_cb_bytes, 2000, .inl cb_bytes)), (h_na_codes, .inl (c_na_codes, 16, .inl na_codes_18))]) [3, 0, 5, 4, 1, 2, 6] (by decide) rfl
      clear hPc hKc hDc hFc hc9 hP1 hK1 hD1 hk1 hz1 hvm ht
      generalize H1 = H at hP hS ⊢
      try dsimp only at h
      subst eQ
      exact W.vret hx hb hr (fun t ht hW => ⟨⟨(rd_place_5, rd_refusal_17, na_lengths_7, na_codes_18), rfl, Option.some.inj h, by rw [ht]; exact hP, va_K.moved hW.alike hK, hD⟩, hS.F ht⟩) hS.2.2 d_CodeNames_readTable_57
    refine lv_if_ne (tgt := 53) hx hb d_CodeNames_readTable_45 (by decide) (fun c_1 => ?_) (fun c_1 => ?_)
    · have h := if_f h c_1
      exact w_j53 _ _ _ _ h hP hD hS (lv_sub hl [0] rfl)
    · have h := if_t h c_1
      refine lv_aload_n hx hb d_CodeNames_readTable_48 rfl (lv_at hl 1 rfl) ?_
      refine lv_iconst (v := 4) hx hb d_CodeNames_readTable_49 (by decide) ?_
      obtain ⟨o9, hc9, h⟩ := bd_e h
      have hPc := hP.sub (ws' := [(h_rd, .inr (2, [.ref h_cb, .int rd_place_5, .int rd_refusal_6]))]) [1] rfl
      have hKc := hK.sub (tys' := []) [] rfl
      have hDc := hD.sub (ws' := [(h_rd, .inr (2, [.ref h_cb, .int rd_place_5, .int rd_refusal_6]))]) [1] (by decide) rfl
      have hFc := va_free (wc := [(h_rd, .inr (2, [.ref h_cb, .int rd_place_5, .int rd_refusal_6]))]) hD hS hA [1] rfl
      refine va_callv (va_runVN (As := [.int (4 : Int32)]) (rest := []) ⟨hx, hb, hml, hown, hB⟩ (c_BitReader_refuse l dC dI h_rd (.ref h_cb) (.int rd_place_5) rd_refusal_6 (4 : Int32) _ o9 hc9) ⟨va_cnB 1 hB (goodB bw_521) rfl rfl rfl (hnw.1 _ bn_546) (hB _ bw_11) (by decide +kernel) ⟨Nat.le_of_ble_eq_true rfl, Nat.le_of_ble_eq_true rfl⟩, hB _ bw_520, hB _ bs_35⟩ ⟨fb_m, va_recv hK hP (ci := 2) (q0 := 1) rfl rfl, (pre_m hPc hKc hDc hnw [.ref h_rd, .int (4 : Int32)])⟩ rfl rfl hl.1 rfl (lv_room (Nat.le_of_ble_eq_true rfl)) d_CodeNames_readTable_50 ⟨Nat.zero_le _, Nat.zero_le _⟩) hS (fun q _ h => hFc q h) hFc (fun u9 t H1 locs ht hvm hw hB hz1 hk1 hS => ?_)
      obtain ⟨rd_refusal_19, rfl⟩ : ∃ z9, z9 = u9 := ⟨_, rfl⟩
      subst hw
      obtain ⟨hP1, hK1, hD1⟩ := hB
      rw [ht] at hP1
      obtain ⟨hP, hD⟩ := va_join (wr := [(h_na, .inr (5, [.ref h_di, .ref h_na_lengths, .ref h_na_codes, u_na_weights, u_na_joinedTo])), (h_na_lengths, .inl (c_na_lengths, 16, .inl na_lengths_7)), (h_di, .inr (6, [u_di_widths, u_di_heights, u_di_samples, .int di_count])), (h_cb, .inr (4, [.ref h_cb_bytes, .int cb_count])), (h_cb_bytes, .inl (c_cb_bytes, 2000, .inl cb_bytes)), (h_na_codes, .inl (c_na_codes, 16, .inl na_codes))]) (w1 := [(h_rd, .inr (2, [.ref h_cb, .int rd_place_5, .int rd_refusal_19]))]) hP hD [1] [0, 2, 3, 4, 5, 6] rfl rfl (by decide) (by decide) hk1 hFc hP1 hD1
      have hP := hP.sub (ws' := [(h_na, .inr (5, [.ref h_di, .ref h_na_lengths, .ref h_na_codes, u_na_weights, u_na_joinedTo])), (h_rd, .inr (2, [.ref h_cb, .int rd_place_5, .int rd_refusal_19])), (h_na_lengths, .inl (c_na_lengths, 16, .inl na_lengths_7)), (h_di, .inr (6, [u_di_widths, u_di_heights, u_di_samples, .int di_count])), (h_cb, .inr (4, [.ref h_cb_bytes, .int cb_count])), (h_cb_bytes, .inl (c_cb_bytes, 2000, .inl cb_bytes)), (h_na_codes, .inl (c_na_codes, 16, .inl na_codes))]) [0, 6, 1, 2, 3, 4, 5] rfl
      have hD := hD.sub (ws' := [(h_na, .inr (5, [.ref h_di, .ref h_na_lengths, .ref h_na_codes, u_na_weights, u_na_joinedTo])), (h_rd, .inr (2, [.ref h_cb, .int rd_place_5, .int rd_refusal_19])), (h_na_lengths, .inl (c_na_lengths, 16, .inl na_lengths_7)), (h_di, .inr (6, [u_di_widths, u_di_heights, u_di_samples, .int di_count])), (h_cb, .inr (4, [.ref h_cb_bytes, .int cb_count])), (h_cb_bytes, .inl (c_cb_bytes, 2000, .inl cb_bytes)), (h_na_codes, .inl (c_na_codes, 16, .inl na_codes))]) [0, 6, 1, 2, 3, 4, 5] (by decide) rfl
      clear hPc hKc hDc hFc hc9 hP1 hK1 hD1 hk1 hz1 hvm ht
      generalize H1 = H at hP hS ⊢
      try dsimp only at h
      exact w_j53 _ _ _ _ h hP hD hS (lv_sub hl [0] rfl)
  have w_self2 : ∀ n9 : Nat, ∀ (v3_1 : Int32) (rd_place_2 : Int32) (rd_refusal_3 : Int32) (na_lengths_4 : (Nat → Int32)) (H : Heap) (locs : List Loc) (ls : Array Slot), lp (f_CodeNames_readTable_L2 di_count cb_count cb_bytes k40) n9 (v3_1, rd_place_2, rd_refusal_3, na_lengths_4) = some o → va_P (dC, dI) CL [(h_na, .inr (5, [.ref h_di, .ref h_na_lengths, .ref h_na_codes, u_na_weights, u_na_joinedTo])), (h_rd, .inr (2, [.ref h_cb, .int rd_place_2, .int rd_refusal_3])), (h_na_lengths, .inl (c_na_lengths, 16, .inl na_lengths_4)), (h_di, .inr (6, [u_di_widths, u_di_heights, u_di_samples, .int di_count])), (h_cb, .inr (4, [.ref h_cb_bytes, .int cb_count])), (h_cb_bytes, .inl (c_cb_bytes, 2000, .inl cb_bytes)), (h_na_codes, .inl (c_na_codes, 16, .inl na_codes))] H → va_D A [(h_na, .inr (5, [.ref h_di, .ref h_na_lengths, .ref h_na_codes, u_na_weights, u_na_joinedTo])), (h_rd, .inr (2, [.ref h_cb, .int rd_place_2, .int rd_refusal_3])), (h_na_lengths, .inl (c_na_lengths, 16, .inl na_lengths_4)), (h_di, .inr (6, [u_di_widths, u_di_heights, u_di_samples, .int di_count])), (h_cb, .inr (4, [.ref h_cb_bytes, .int cb_count])), (h_cb_bytes, .inl (c_cb_bytes, 2000, .inl cb_bytes)), (h_na_codes, .inl (c_na_codes, 16, .inl na_codes))] → va_S A s.heap H locs → lv_has ls 4 [(3, .int v3_1), (0, .ref h_na), (1, .ref h_rd), (2, .int p1)] → W p l e ({ frames := 2, cells := 0, slots := 0, locals := 44 } : Room) s m ([.ref h_na, .ref h_rd, .int p1] : List Value).toArray below meth c H locs 0 0 Q9 (F0 m 2 ls []) := by
    intro n9
    induction n9 with
    | zero =>
      intro v3_1 rd_place_2 rd_refusal_3 na_lengths_4 H locs ls h hP hD hS hl
      exact absurd h (by simp [lp])
    | succ n9 ih_self2 =>
      intro v3_1 rd_place_2 rd_refusal_3 na_lengths_4 H locs ls h hP hD hS hl
      obtain ⟨self2, e_self2, h⟩ := abs_k (P := fun z9 => f_CodeNames_readTable_L2 di_count cb_count cb_bytes k40 z9 (v3_1, rd_place_2, rd_refusal_3, na_lengths_4) = some o) (lp_e h)
      rw [← e_self2] at ih_self2
      unfold f_CodeNames_readTable_L2 at h
      try dsimp only at h
      refine lv_iload_n hx hb d_CodeNames_readTable_2 rfl (lv_at hl 0 rfl) ?_
      refine lv_bipush (v := 16) hx hb d_CodeNames_readTable_3 (by decide) ?_
      refine lv_icmp_ge (tgt := 40) hx hb d_CodeNames_readTable_5 (by decide) (fun c_2 => ?_) (fun c_2 => ?_)
      · have h := if_t h c_2
        exact w_k40 _ _ _ _ _ _ h hP hD hS (lv_sub hl [1, 2, 3] rfl)
      · have h := if_f h c_2
        refine lv_aload_n hx hb d_CodeNames_readTable_8 rfl (lv_at hl 1 rfl) ?_
        refine va_get (D := (dC, dI)) (ci := 5) (v := .ref h_na_lengths) (C := R_CodeNames) (T := T_CodeNames) (N := 5) hx hb hB iw_CodeNames hown hK hP 0 rfl rfl 1 (by decide) (hB _ bw_114) (fun _ h9 => h9) rfl d_CodeNames_readTable_9 ?_
        refine lv_iload_n hx hb d_CodeNames_readTable_12 rfl (lv_at hl 0 rfl) ?_
        refine lv_iload_n hx hb d_CodeNames_readTable_13 rfl (lv_at hl 0 rfl) ?_
        refine lv_aload_n hx hb d_CodeNames_readTable_14 rfl (lv_at hl 1 rfl) ?_
        refine va_get (D := (dC, dI)) (ci := 5) (v := .ref h_di) (C := R_CodeNames) (T := T_CodeNames) (N := 5) hx hb hB iw_CodeNames hown hK hP 0 rfl rfl 0 (by decide) (hB _ bw_113) (fun _ h9 => h9) rfl d_CodeNames_readTable_15 ?_
        refine va_getN (D := (dC, dI)) (ci := 6) (v := .int di_count) (C := R_Dictionary) (T := T_Dictionary) (N := 4) hx hb hB iw_Dictionary hown hK hP 3 rfl rfl 3 (by decide) (va_Nw.use rfl (hnw.1 _ bn_54)) (fun _ h9 => h9) rfl d_CodeNames_readTable_18 ?_
        obtain ⟨j33, e_j33, h⟩ := jn_e h
        have w_j33 : ∀ (s_8 : Int32) (s_9 : Int32) (rd_place_10 : Int32) (rd_refusal_11 : Int32) (H : Heap) (locs : List Loc) (ls : Array Slot), j33 s_8 s_9 rd_place_10 rd_refusal_11 = some o → va_P (dC, dI) CL [(h_na, .inr (5, [.ref h_di, .ref h_na_lengths, .ref h_na_codes, u_na_weights, u_na_joinedTo])), (h_rd, .inr (2, [.ref h_cb, .int rd_place_10, .int rd_refusal_11])), (h_na_lengths, .inl (c_na_lengths, 16, .inl na_lengths_4)), (h_di, .inr (6, [u_di_widths, u_di_heights, u_di_samples, .int di_count])), (h_cb, .inr (4, [.ref h_cb_bytes, .int cb_count])), (h_cb_bytes, .inl (c_cb_bytes, 2000, .inl cb_bytes)), (h_na_codes, .inl (c_na_codes, 16, .inl na_codes))] H → va_D A [(h_na, .inr (5, [.ref h_di, .ref h_na_lengths, .ref h_na_codes, u_na_weights, u_na_joinedTo])), (h_rd, .inr (2, [.ref h_cb, .int rd_place_10, .int rd_refusal_11])), (h_na_lengths, .inl (c_na_lengths, 16, .inl na_lengths_4)), (h_di, .inr (6, [u_di_widths, u_di_heights, u_di_samples, .int di_count])), (h_cb, .inr (4, [.ref h_cb_bytes, .int cb_count])), (h_cb_bytes, .inl (c_cb_bytes, 2000, .inl cb_bytes)), (h_na_codes, .inl (c_na_codes, 16, .inl na_codes))] → va_S A s.heap H locs → lv_has ls 4 [(3, .int v3_1), (0, .ref h_na), (1, .ref h_rd), (2, .int p1)] → W p l e ({ frames := 2, cells := 0, slots := 0, locals := 44 } : Room) s m ([.ref h_na, .ref h_rd, .int p1] : List Value).toArray below meth c H locs 0 0 Q9 (F0 m 33 ls [.int s_9, .int s_8, .ref h_na_lengths]) := by
          intro s_8 s_9 rd_place_10 rd_refusal_11 H locs ls h hP hD hS hl
          rw [e_j33] at h
          obtain ⟨hin, h⟩ := gq_e h
          refine va_iast hx hb hK hP hD hS 2 0 rfl rfl hin d_CodeNames_readTable_33 (fun H locs hP hD hS => ?_)
          have hP : va_P (dC, dI) CL [(h_na, .inr (5, [.ref h_di, .ref h_na_lengths, .ref h_na_codes, u_na_weights, u_na_joinedTo])), (h_rd, .inr (2, [.ref h_cb, .int rd_place_10, .int rd_refusal_11])), (h_na_lengths, .inl (c_na_lengths, 16, .inl (upd na_lengths_4 (s_8).toNatClampNeg s_9))), (h_di, .inr (6, [u_di_widths, u_di_heights, u_di_samples, .int di_count])), (h_cb, .inr (4, [.ref h_cb_bytes, .int cb_count])), (h_cb_bytes, .inl (c_cb_bytes, 2000, .inl cb_bytes)), (h_na_codes, .inl (c_na_codes, 16, .inl na_codes))] H := hP
          have hD : va_D A [(h_na, .inr (5, [.ref h_di, .ref h_na_lengths, .ref h_na_codes, u_na_weights, u_na_joinedTo])), (h_rd, .inr (2, [.ref h_cb, .int rd_place_10, .int rd_refusal_11])), (h_na_lengths, .inl (c_na_lengths, 16, .inl (upd na_lengths_4 (s_8).toNatClampNeg s_9))), (h_di, .inr (6, [u_di_widths, u_di_heights, u_di_samples, .int di_count])), (h_cb, .inr (4, [.ref h_cb_bytes, .int cb_count])), (h_cb_bytes, .inl (c_cb_bytes, 2000, .inl cb_bytes)), (h_na_codes, .inl (c_na_codes, 16, .inl na_codes))] := hD
          obtain ⟨v3_12, e_v3_12⟩ : ∃ y9 : Int32, y9 = (v3_1 + (1 : Int32)) := ⟨_, rfl⟩
          have h := nl_u e_v3_12 h
          refine lv_iinc (v := v3_12) (lv' := [(3, .int v3_12), (0, .ref h_na), (1, .ref h_rd), (2, .int p1)]) hx hb d_CodeNames_readTable_34 hl (k := 0) rfl (by rw [e_v3_12]; rfl) (by decide) rfl (fun ls hl => ?_)
          refine lv_goto (tgt := 2) hx hb d_CodeNames_readTable_37 (by decide) ?_
          exact ih_self2 _ _ _ _ _ _ _ h hP hD hS hl
        refine lv_icmp_ge (tgt := 32) hx hb d_CodeNames_readTable_21 (by decide) (fun c_3 => ?_) (fun c_3 => ?_)
        · have h := if_t h c_3
          refine lv_iconst (v := 0) hx hb d_CodeNames_readTable_32 (by decide) ?_
          exact w_j33 _ _ _ _ _ _ _ h hP hD hS hl
        · have h := if_f h c_3
          refine lv_aload_n hx hb d_CodeNames_readTable_24 rfl (lv_at hl 2 rfl) ?_
          refine lv_iconst (v := 4) hx hb d_CodeNames_readTable_25 (by decide) ?_
          obtain ⟨o9, hc9, h⟩ := bd_e h
          have hPc := hP.sub (ws' := [(h_rd, .inr (2, [.ref h_cb, .int rd_place_2, .int rd_refusal_3])), (h_cb, .inr (4, [.ref h_cb_bytes, .int cb_count])), (h_cb_bytes, .inl (c_cb_bytes, 2000, .inl cb_bytes))]) [1, 4, 5] rfl
          have hKc := hK.sub (tys' := [(c_cb_bytes, .int)]) [1] rfl
          have hDc := hD.sub (ws' := [(h_rd, .inr (2, [.ref h_cb, .int rd_place_2, .int rd_refusal_3])), (h_cb, .inr (4, [.ref h_cb_bytes, .int cb_count])), (h_cb_bytes, .inl (c_cb_bytes, 2000, .inl cb_bytes))]) [1, 4, 5] (by decide) rfl
          have hFc := va_free (wc := [(h_rd, .inr (2, [.ref h_cb, .int rd_place_2, .int rd_refusal_3])), (h_cb, .inr (4, [.ref h_cb_bytes, .int cb_count])), (h_cb_bytes, .inl (c_cb_bytes, 2000, .inl cb_bytes))]) hD hS hA [1, 4, 5] rfl
          refine va_calli (va_runVN (As := [.int (4 : Int32)]) (rest := [.int v3_1, .ref h_na_lengths]) ⟨hx, hb, hml, hown, hB⟩ (c_BitReader_nextBits l dC dI h_rd h_cb h_cb_bytes c_cb_bytes rd_place_2 rd_refusal_3 cb_count cb_bytes (4 : Int32) _ o9 hc9) ⟨va_cnB 1 hB (goodB bw_528) rfl rfl rfl (hnw.1 _ bn_540) (hB _ bw_11) (by decide +kernel) ⟨Nat.le_of_ble_eq_true rfl, Nat.le_of_ble_eq_true rfl⟩, hB _ bw_527, hB _ bs_36⟩ ⟨fb_m, va_recv hK hP (ci := 2) (q0 := 1) rfl rfl, (pre_m hPc hKc hDc hnw [.ref h_rd, .int (4 : Int32)])⟩ rfl rfl hl.1 rfl (lv_room (Nat.le_of_ble_eq_true rfl)) d_CodeNames_readTable_26 ⟨Nat.zero_le _, Nat.zero_le _⟩) hS (fun q _ h => hFc q h) hFc (fun r_13 u9 t H1 locs ht hvm hw hB hz1 hk1 hS => ?_)
          obtain ⟨rd_place_14, rd_refusal_15⟩ := u9
          subst hw
          obtain ⟨hP1, hK1, hD1⟩ := hB
          rw [ht] at hP1
          obtain ⟨hP, hD⟩ := va_join (wr := [(h_na, .inr (5, [.ref h_di, .ref h_na_lengths, .ref h_na_codes, u_na_weights, u_na_joinedTo])), (h_na_lengths, .inl (c_na_lengths, 16, .inl na_lengths_4)), (h_di, .inr (6, [u_di_widths, u_di_heights, u_di_samples, .int di_count])), (h_na_codes, .inl (c_na_codes, 16, .inl na_codes))]) (w1 := [(h_rd, .inr (2, [.ref h_cb, .int rd_place_14, .int rd_refusal_15])), (h_cb, .inr (4, [.ref h_cb_bytes, .int cb_count])), (h_cb_bytes, .inl (c_cb_bytes, 2000, .inl cb_bytes))]) hP hD [1, 4, 5] [0, 2, 3, 6] rfl rfl (by decide) (by decide) hk1 hFc hP1 hD1
          have hP := hP.sub (ws' := [(h_na, .inr (5, [.ref h_di, .ref h_na_lengths, .ref h_na_codes, u_na_weights, u_na_joinedTo])), (h_rd, .inr (2, [.ref h_cb, .int rd_place_14, .int rd_refusal_15])), (h_na_lengths, .inl (c_na_lengths, 16, .inl na_lengths_4)), (h_di, .inr (6, [u_di_widths, u_di_heights, u_di_samples, .int di_count])), (h_cb, .inr (4, [.ref h_cb_bytes, .int cb_count])), (h_cb_bytes, .inl (c_cb_bytes, 2000, .inl cb_bytes)), (h_na_codes, .inl (c_na_codes, 16, .inl na_codes))]) [0, 4, 1, 2, 5, 6, 3] rfl
          have hD := hD.sub (ws' := [(h_na, .inr (5, [.ref h_di, .ref h_na_lengths, .ref h_na_codes, u_na_weights, u_na_joinedTo])), (h_rd, .inr (2, [.ref h_cb, .int rd_place_14, .int rd_refusal_15])), (h_na_lengths, .inl (c_na_lengths, 16, .inl na_lengths_4)), (h_di, .inr (6, [u_di_widths, u_di_heights, u_di_samples, .int di_count])), (h_cb, .inr (4, [.ref h_cb_bytes, .int cb_count])), (h_cb_bytes, .inl (c_cb_bytes, 2000, .inl cb_bytes)), (h_na_codes, .inl (c_na_codes, 16, .inl na_codes))]) [0, 4, 1, 2, 5, 6, 3] (by decide) rfl
          clear hPc hKc hDc hFc hc9 hP1 hK1 hD1 hk1 hz1 hvm ht
          generalize H1 = H at hP hS ⊢
          try dsimp only at h
          refine lv_goto (tgt := 33) hx hb d_CodeNames_readTable_29 (by decide) ?_
          exact w_j33 _ _ _ _ _ _ _ h hP hD hS hl
  exact w_self2 FU _ _ _ _ _ _ _ h hP hD hS hl
set_option maxHeartbeats 4000000 in
set_option maxRecDepth 100000 in
theorem c_CodeNames_readName (l : Launch) (dC : Nat → ClassId) (dI : Nat → Nat → Nat) (h_na : Nat) (h_rd : Nat) (h_di : Nat) (h_na_lengths : Nat) (h_cb : Nat) (h_cb_bytes : Nat) (h_na_codes : Nat) (c_na_lengths : ClassId) (c_cb_bytes : ClassId) (c_na_codes : ClassId) (u_na_weights : Value) (u_na_joinedTo : Value) (u_di_widths : Value) (u_di_heights : Value) (u_di_samples : Value) (rd_place : Int32) (rd_refusal : Int32) (di_count : Int32) (na_lengths : (Nat → Int32)) (cb_count : Int32) (cb_bytes : (Nat → Int32)) (na_codes : (Nat → Int32)) (sz : Nat) (o : Int32 × Int32 × Int32) (hf : f_CodeNames_readName rd_place rd_refusal di_count na_lengths cb_count cb_bytes na_codes = some o) :
    Met l y_CodeNames_readName ws_CodeNames_readName { frames := 1, cells := 0, slots := 0, locals := 30 } (va_Pc [.ref h_na, .ref h_rd] (PcM (dC, dI) [(h_na, .inr (5, [.ref h_di, .ref h_na_lengths, .ref h_na_codes, u_na_weights, u_na_joinedTo])), (h_rd, .inr (2, [.ref h_cb, .int rd_place, .int rd_refusal])), (h_di, .inr (6, [u_di_widths, u_di_heights, u_di_samples, .int di_count])), (h_na_lengths, .inl (c_na_lengths, 16, .inl na_lengths)), (h_cb, .inr (4, [.ref h_cb_bytes, .int cb_count])), (h_cb_bytes, .inl (c_cb_bytes, 2000, .inl cb_bytes)), (h_na_codes, .inl (c_na_codes, 16, .inl na_codes))] [(c_na_lengths, .int), (c_cb_bytes, .int), (c_na_codes, .int)] sz))
      (va_Qi (fun (r : Int32) (u : Int32 × Int32) => (r, u) = o) (fun u t => va_P (dC, dI) CL [(h_na, .inr (5, [.ref h_di, .ref h_na_lengths, .ref h_na_codes, u_na_weights, u_na_joinedTo])), (h_rd, .inr (2, [.ref h_cb, .int (u.1), .int (u.2)])), (h_di, .inr (6, [u_di_widths, u_di_heights, u_di_samples, .int di_count])), (h_na_lengths, .inl (c_na_lengths, 16, .inl na_lengths)), (h_cb, .inr (4, [.ref h_cb_bytes, .int cb_count])), (h_cb_bytes, .inl (c_cb_bytes, 2000, .inl cb_bytes)), (h_na_codes, .inl (c_na_codes, 16, .inl na_codes))] t.heap ∧ va_K (dC, dI) CL [(c_na_lengths, .int), (c_cb_bytes, .int), (c_na_codes, .int)] t ∧ va_D (va_A [(h_na, .inr (5, [.ref h_di, .ref h_na_lengths, .ref h_na_codes, u_na_weights, u_na_joinedTo])), (h_rd, .inr (2, [.ref h_cb, .int rd_place, .int rd_refusal])), (h_di, .inr (6, [u_di_widths, u_di_heights, u_di_samples, .int di_count])), (h_na_lengths, .inl (c_na_lengths, 16, .inl na_lengths)), (h_cb, .inr (4, [.ref h_cb_bytes, .int cb_count])), (h_cb_bytes, .inl (c_cb_bytes, 2000, .inl cb_bytes)), (h_na_codes, .inl (c_na_codes, 16, .inl na_codes))] sz) [(h_na, .inr (5, [.ref h_di, .ref h_na_lengths, .ref h_na_codes, u_na_weights, u_na_joinedTo])), (h_rd, .inr (2, [.ref h_cb, .int (u.1), .int (u.2)])), (h_di, .inr (6, [u_di_widths, u_di_heights, u_di_samples, .int di_count])), (h_na_lengths, .inl (c_na_lengths, 16, .inl na_lengths)), (h_cb, .inr (4, [.ref h_cb_bytes, .int cb_count])), (h_cb_bytes, .inl (c_cb_bytes, 2000, .inl cb_bytes)), (h_na_codes, .inl (c_na_codes, 16, .inl na_codes))]) (va_A [(h_na, .inr (5, [.ref h_di, .ref h_na_lengths, .ref h_na_codes, u_na_weights, u_na_joinedTo])), (h_rd, .inr (2, [.ref h_cb, .int rd_place, .int rd_refusal])), (h_di, .inr (6, [u_di_widths, u_di_heights, u_di_samples, .int di_count])), (h_na_lengths, .inl (c_na_lengths, 16, .inl na_lengths)), (h_cb, .inr (4, [.ref h_cb_bytes, .int cb_count])), (h_cb_bytes, .inl (c_cb_bytes, 2000, .inl cb_bytes)), (h_na_codes, .inl (c_na_codes, 16, .inl na_codes))] sz)) 0 0 (va_A [(h_na, .inr (5, [.ref h_di, .ref h_na_lengths, .ref h_na_codes, u_na_weights, u_na_joinedTo])), (h_rd, .inr (2, [.ref h_cb, .int rd_place, .int rd_refusal])), (h_di, .inr (6, [u_di_widths, u_di_heights, u_di_samples, .int di_count])), (h_na_lengths, .inl (c_na_lengths, 16, .inl na_lengths)), (h_cb, .inr (4, [.ref h_cb_bytes, .int cb_count])), (h_cb_bytes, .inl (c_cb_bytes, 2000, .inl cb_bytes)), (h_na_codes, .inl (c_na_codes, 16, .inl na_codes))] sz) := by
  refine Met.ofW (cc := b_CodeNames_readName) (maxL := 6) (ret := (some .int)) (by decide) rfl ?_
  intro p e s m args below meth c s₁ B hml hv
  obtain ⟨rfl, hsz, hP, hK, hD0, hnw⟩ := hv
  have hx := B.exec
  have hb := B.bytes
  have hr := B.returns
  have hts := atoms_spec (ws := ws_CodeNames_readName) B.pre
  have hB : ∀ w ∈ BIG, w.before _ s = true := fun w h => hts w (List.mem_cons_of_mem _ h)
  have hown : s.vm.findClass R_CodeNames = some m.cls := findClass_of_methodNamed B.named
  have hlocks := B.notSynchronized
  subst hsz
  have hD := hD0.self (sz := s.heap.size)
  refine W_Q (fun Q9 eQ => ?_)
  generalize hAe : va_A [(h_na, .inr (5, [.ref h_di, .ref h_na_lengths, .ref h_na_codes, u_na_weights, u_na_joinedTo])), (h_rd, .inr (2, [.ref h_cb, .int rd_place, .int rd_refusal])), (h_di, .inr (6, [u_di_widths, u_di_heights, u_di_samples, .int di_count])), (h_na_lengths, .inl (c_na_lengths, 16, .inl na_lengths)), (h_cb, .inr (4, [.ref h_cb_bytes, .int cb_count])), (h_cb_bytes, .inl (c_cb_bytes, 2000, .inl cb_bytes)), (h_na_codes, .inl (c_na_codes, 16, .inl na_codes))] s.heap.size = A at hD eQ
  have hA : ∀ q : Nat, s.heap.size ≤ q → A q := fun q h => by rw [← hAe]; exact Or.inr h
  have hS : va_S A s.heap s.heap [] := va_S.rf
  have hl := lv_entry ([.ref h_na, .ref h_rd]) (n := 6) (Nat.le_of_ble_eq_true rfl)
  rw [lg_entry_eq]
  generalize (lg_sl ([.ref h_na, .ref h_rd]) ++ List.replicate (6 - (lg_sl ([.ref h_na, .ref h_rd])).length) Slot.unset).toArray = ls at hl ⊢
  have hl : lv_has ls 6 [(0, .ref h_na), (1, .ref h_rd)] := hl
  have h := hf
  unfold f_CodeNames_readName at h
  refine lv_iconst (v := 0) hx hb d_CodeNames_readName_0 (by decide) ?_
  refine lv_istore_n (lv' := [(2, .int (0 : Int32)), (0, .ref h_na), (1, .ref h_rd)]) hx hb d_CodeNames_readName_1 rfl hl (by decide) rfl (fun ls hl => ?_)
  refine lv_iconst (v := 0) hx hb d_CodeNames_readName_2 (by decide) ?_
  refine lv_istore_n (lv' := [(3, .int (0 : Int32)), (2, .int (0 : Int32)), (0, .ref h_na), (1, .ref h_rd)]) hx hb d_CodeNames_readName_3 rfl hl (by decide) rfl (fun ls hl => ?_)
  obtain ⟨k32, e_k32, h⟩ := abs_k (P := fun k9 => lp (f_CodeNames_readName_L4 di_count na_lengths k9) FU ((0 : Int32), (0 : Int32)) = some o) h
  have w_k32 : ∀ (v2_3 : Int32) (H : Heap) (locs : List Loc) (ls : Array Slot), k32 v2_3 = some o → va_P (dC, dI) CL [(h_na, .inr (5, [.ref h_di, .ref h_na_lengths, .ref h_na_codes, u_na_weights, u_na_joinedTo])), (h_rd, .inr (2, [.ref h_cb, .int rd_place, .int rd_refusal])), (h_di, .inr (6, [u_di_widths, u_di_heights, u_di_samples, .int di_count])), (h_na_lengths, .inl (c_na_lengths, 16, .inl na_lengths)), (h_cb, .inr (4, [.ref h_cb_bytes, .int cb_count])), (h_cb_bytes, .inl (c_cb_bytes, 2000, .inl cb_bytes)), (h_na_codes, .inl (c_na_codes, 16, .inl na_codes))] H → va_D A [(h_na, .inr (5, [.ref h_di, .ref h_na_lengths, .ref h_na_codes, u_na_weights, u_na_joinedTo])), (h_rd, .inr (2, [.ref h_cb, .int rd_place, .int rd_refusal])), (h_di, .inr (6, [u_di_widths, u_di_heights, u_di_samples, .int di_count])), (h_na_lengths, .inl (c_na_lengths, 16, .inl na_lengths)), (h_cb, .inr (4, [.ref h_cb_bytes, .int cb_count])), (h_cb_bytes, .inl (c_cb_bytes, 2000, .inl cb_bytes)), (h_na_codes, .inl (c_na_codes, 16, .inl na_codes))] → va_S A s.heap H locs → lv_has ls 6 [(2, .int v2_3), (0, .ref h_na), (1, .ref h_rd)] → W p l e ({ frames := 1, cells := 0, slots := 0, locals := 30 } : Room) s m ([.ref h_na, .ref h_rd] : List Value).toArray below meth c H locs 0 0 Q9 (F0 m 32 ls []) := by
    intro v2_3 H locs ls h hP hD hS hl
    rw [e_k32] at h
    refine lv_iconst (v := 0) hx hb d_CodeNames_readName_32 (by decide) ?_
    refine lv_istore_n (lv' := [(3, .int (0 : Int32)), (2, .int v2_3), (0, .ref h_na), (1, .ref h_rd)]) hx hb d_CodeNames_readName_33 rfl hl (by decide) rfl (fun ls hl => ?_)
    refine lv_iconst (v := 1) hx hb d_CodeNames_readName_34 (by decide) ?_
    refine lv_istore (lv' := [(4, .int (1 : Int32)), (3, .int (0 : Int32)), (2, .int v2_3), (0, .ref h_na), (1, .ref h_rd)]) hx hb d_CodeNames_readName_35 hl (by decide) rfl (fun ls hl => ?_)
    obtain ⟨k76, e_k76, h⟩ := abs_k (P := fun k9 => lp (f_CodeNames_readName_L37 v2_3 cb_count cb_bytes di_count na_lengths na_codes k9) FU ((1 : Int32), (0 : Int32), rd_place, rd_refusal) = some o) h
    have w_k76 : ∀ (rd_place_10 : Int32) (rd_refusal_11 : Int32) (H : Heap) (locs : List Loc) (ls : Array Slot), k76 rd_place_10 rd_refusal_11 = some o → va_P (dC, dI) CL [(h_na, .inr (5, [.ref h_di, .ref h_na_lengths, .ref h_na_codes, u_na_weights, u_na_joinedTo])), (h_rd, .inr (2, [.ref h_cb, .int rd_place_10, .int rd_refusal_11])), (h_di, .inr (6, [u_di_widths, u_di_heights, u_di_samples, .int di_count])), (h_na_lengths, .inl (c_na_lengths, 16, .inl na_lengths)), (h_cb, .inr (4, [.ref h_cb_bytes, .int cb_count])), (h_cb_bytes, .inl (c_cb_bytes, 2000, .inl cb_bytes)), (h_na_codes, .inl (c_na_codes, 16, .inl na_codes))] H → va_D A [(h_na, .inr (5, [.ref h_di, .ref h_na_lengths, .ref h_na_codes, u_na_weights, u_na_joinedTo])), (h_rd, .inr (2, [.ref h_cb, .int rd_place_10, .int rd_refusal_11])), (h_di, .inr (6, [u_di_widths, u_di_heights, u_di_samples, .int di_count])), (h_na_lengths, .inl (c_na_lengths, 16, .inl na_lengths)), (h_cb, .inr (4, [.ref h_cb_bytes, .int cb_count])), (h_cb_bytes, .inl (c_cb_bytes, 2000, .inl cb_bytes)), (h_na_codes, .inl (c_na_codes, 16, .inl na_codes))] → va_S A s.heap H locs → lv_has ls 6 [(1, .ref h_rd)] → W p l e ({ frames := 1, cells := 0, slots := 0, locals := 30 } : Room) s m ([.ref h_na, .ref h_rd] : List Value).toArray below meth c H locs 0 0 Q9 (F0 m 76 ls []) := by
      intro rd_place_10 rd_refusal_11 H locs ls h hP hD hS hl
      rw [e_k76] at h
      refine lv_aload_n hx hb d_CodeNames_readName_76 rfl (lv_at hl 0 rfl) ?_
      refine lv_iconst (v := 5) hx hb d_CodeNames_readName_77 (by decide) ?_
      obtain ⟨o9, hc9, h⟩ := bd_e h
      have hPc := hP.sub (ws' := [(h_rd, .inr (2, [.ref h_cb, .int rd_place_10, .int rd_refusal_11]))]) [1] rfl
      have hKc := hK.sub (tys' := []) [] rfl
      have hDc := hD.sub (ws' := [(h_rd, .inr (2, [.ref h_cb, .int rd_place_10, .int rd_refusal_11]))]) [1] (by decide) rfl
      have hFc := va_free (wc := [(h_rd, .inr (2, [.ref h_cb, .int rd_place_10, .int rd_refusal_11]))]) hD hS hA [1] rfl
      refine va_callv (va_runVN (As := [.int (5 : Int32)]) (rest := []) ⟨hx, hb, hml, hown, hB⟩ (c_BitReader_refuse l dC dI h_rd (.ref h_cb) (.int rd_place_10) rd_refusal_11 (5 : Int32) _ o9 hc9) ⟨va_cnB 1 hB (goodB bw_521) rfl rfl rfl (hnw.1 _ bn_546) (hB _ bw_11) (by decide +kernel) ⟨Nat.le_of_ble_eq_true rfl, Nat.le_of_ble_eq_true rfl⟩, hB _ bw_520, hB _ bs_35⟩ ⟨fb_m, va_recv hK hP (ci := 2) (q0 := 1) rfl rfl, (pre_m hPc hKc hDc hnw [.ref h_rd, .int (5 : Int32)])⟩ rfl rfl hl.1 rfl (lv_room (Nat.le_of_ble_eq_true rfl)) d_CodeNames_readName_78 ⟨Nat.zero_le _, Nat.zero_le _⟩) hS (fun q _ h => hFc q h) hFc (fun u9 t H1 locs ht hvm hw hB hz1 hk1 hS => ?_)
      obtain ⟨rd_refusal_18, rfl⟩ : ∃ z9, z9 = u9 := ⟨_, rfl⟩
      subst hw
      obtain ⟨hP1, hK1, hD1⟩ := hB
      rw [ht] at hP1
      obtain ⟨hP, hD⟩ := va_join (wr := [(h_na, .inr (5, [.ref h_di, .ref h_na_lengths, .ref h_na_codes, u_na_weights, u_na_joinedTo])), (h_di, .inr (6, [u_di_widths, u_di_heights, u_di_samples, .int di_count])), (h_na_lengths, .inl (c_na_lengths, 16, .inl na_lengths)), (h_cb, .inr (4, [.ref h_cb_bytes, .int cb_count])), (h_cb_bytes, .inl (c_cb_bytes, 2000, .inl cb_bytes)), (h_na_codes, .inl (c_na_codes, 16, .inl na_codes))]) (w1 := [(h_rd, .inr (2, [.ref h_cb, .int rd_place_10, .int rd_refusal_18]))]) hP hD [1] [0, 2, 3, 4, 5, 6] rfl rfl (by decide) (by decide) hk1 hFc hP1 hD1
      have hP := hP.sub (ws' := [(h_na, .inr (5, [.ref h_di, .ref h_na_lengths, .ref h_na_codes, u_na_weights, u_na_joinedTo])), (h_rd, .inr (2, [.ref h_cb, .int rd_place_10, .int rd_refusal_18])), (h_di, .inr (6, [u_di_widths, u_di_heights, u_di_samples, .int di_count])), (h_na_lengths, .inl (c_na_lengths, 16, .inl na_lengths)), (h_cb, .inr (4, [.ref h_cb_bytes, .int cb_count])), (h_cb_bytes, .inl (c_cb_bytes, 2000, .inl cb_bytes)), (h_na_codes, .inl (c_na_codes, 16, .inl na_codes))]) [0, 6, 1, 2, 3, 4, 5] rfl
      have hD := hD.sub (ws' := [(h_na, .inr (5, [.ref h_di, .ref h_na_lengths, .ref h_na_codes, u_na_weights, u_na_joinedTo])), (h_rd, .inr (2, [.ref h_cb, .int rd_place_10, .int rd_refusal_18])), (h_di, .inr (6, [u_di_widths, u_di_heights, u_di_samples, .int di_count])), (h_na_lengths, .inl (c_na_lengths, 16, .inl na_lengths)), (h_cb, .inr (4, [.ref h_cb_bytes, .int cb_count])), (h_cb_bytes, .inl (c_cb_bytes, 2000, .inl cb_bytes)), (h_na_codes, .inl (c_na_codes, 16, .inl na_codes))]) [0, 6, 1, 2, 3, 4, 5] (by decide) rfl
      clear hPc hKc hDc hFc hc9 hP1 hK1 hD1 hk1 hz1 hvm ht
      generalize H1 = H at hP hS ⊢
      try dsimp only at h
      refine lv_iconst (v := 0) hx hb d_CodeNames_readName_81 (by decide) ?_
      subst eQ
      exact W.iret (v := (0 : Int32)) hx hb hr (fun t ht hW => ⟨⟨_, (rd_place_10, rd_refusal_18), rfl, Option.some.inj h, by rw [ht]; exact hP, va_K.moved hW.alike hK, hD⟩, hS.F ht⟩) hS.2.2 d_CodeNames_readName_82
    have w_self37 : ∀ n9 : Nat, ∀ (v4_6 : Int32) (v3_7 : Int32) (rd_place_8 : Int32) (rd_refusal_9 : Int32) (H : Heap) (locs : List Loc) (ls : Array Slot), lp (f_CodeNames_readName_L37 v2_3 cb_count cb_bytes di_count na_lengths na_codes k76) n9 (v4_6, v3_7, rd_place_8, rd_refusal_9) = some o → va_P (dC, dI) CL [(h_na, .inr (5, [.ref h_di, .ref h_na_lengths, .ref h_na_codes, u_na_weights, u_na_joinedTo])), (h_rd, .inr (2, [.ref h_cb, .int rd_place_8, .int rd_refusal_9])), (h_di, .inr (6, [u_di_widths, u_di_heights, u_di_samples, .int di_count])), (h_na_lengths, .inl (c_na_lengths, 16, .inl na_lengths)), (h_cb, .inr (4, [.ref h_cb_bytes, .int cb_count])), (h_cb_bytes, .inl (c_cb_bytes, 2000, .inl cb_bytes)), (h_na_codes, .inl (c_na_codes, 16, .inl na_codes))] H → va_D A [(h_na, .inr (5, [.ref h_di, .ref h_na_lengths, .ref h_na_codes, u_na_weights, u_na_joinedTo])), (h_rd, .inr (2, [.ref h_cb, .int rd_place_8, .int rd_refusal_9])), (h_di, .inr (6, [u_di_widths, u_di_heights, u_di_samples, .int di_count])), (h_na_lengths, .inl (c_na_lengths, 16, .inl na_lengths)), (h_cb, .inr (4, [.ref h_cb_bytes, .int cb_count])), (h_cb_bytes, .inl (c_cb_bytes, 2000, .inl cb_bytes)), (h_na_codes, .inl (c_na_codes, 16, .inl na_codes))] → va_S A s.heap H locs → lv_has ls 6 [(4, .int v4_6), (3, .int v3_7), (2, .int v2_3), (0, .ref h_na), (1, .ref h_rd)] → W p l e ({ frames := 1, cells := 0, slots := 0, locals := 30 } : Room) s m ([.ref h_na, .ref h_rd] : List Value).toArray below meth c H locs 0 0 Q9 (F0 m 37 ls []) := by
      intro n9
      induction n9 with
      | zero =>
        intro v4_6 v3_7 rd_place_8 rd_refusal_9 H locs ls h hP hD hS hl
        exact absurd h (by simp [lp])
      | succ n9 ih_self37 =>
        intro v4_6 v3_7 rd_place_8 rd_refusal_9 H locs ls h hP hD hS hl
        obtain ⟨self37, e_self37, h⟩ := abs_k (P := fun z9 => f_CodeNames_readName_L37 v2_3 cb_count cb_bytes di_count na_lengths na_codes k76 z9 (v4_6, v3_7, rd_place_8, rd_refusal_9) = some o) (lp_e h)
        rw [← e_self37] at ih_self37
        unfold f_CodeNames_readName_L37 at h
        try dsimp only at h
        refine lv_iload hx hb d_CodeNames_readName_37 (lv_at hl 0 rfl) ?_
        refine lv_iload_n hx hb d_CodeNames_readName_39 rfl (lv_at hl 2 rfl) ?_
        refine lv_icmp_gt (tgt := 76) hx hb d_CodeNames_readName_40 (by decide) (fun c_1 => ?_) (fun c_1 => ?_)
        · have h := if_t h c_1
          exact w_k76 _ _ _ _ _ h hP hD hS (lv_sub hl [4] rfl)
        · have h := if_f h c_1
          refine lv_iload_n hx hb d_CodeNames_readName_43 rfl (lv_at hl 1 rfl) ?_
          refine lv_iconst (v := 1) hx hb d_CodeNames_readName_44 (by decide) ?_
          refine lv_ishl hx hb d_CodeNames_readName_45 ?_
          refine lv_aload_n hx hb d_CodeNames_readName_46 rfl (lv_at hl 4 rfl) ?_
          obtain ⟨o9, hc9, h⟩ := bd_e h
          have hPc := hP.sub (ws' := [(h_rd, .inr (2, [.ref h_cb, .int rd_place_8, .int rd_refusal_9])), (h_cb, .inr (4, [.ref h_cb_bytes, .int cb_count])), (h_cb_bytes, .inl (c_cb_bytes, 2000, .inl cb_bytes))]) [1, 4, 5] rfl
          have hKc := hK.sub (tys' := [(c_cb_bytes, .int)]) [1] rfl
          have hDc := hD.sub (ws' := [(h_rd, .inr (2, [.ref h_cb, .int rd_place_8, .int rd_refusal_9])), (h_cb, .inr (4, [.ref h_cb_bytes, .int cb_count])), (h_cb_bytes, .inl (c_cb_bytes, 2000, .inl cb_bytes))]) [1, 4, 5] (by decide) rfl
          have hFc := va_free (wc := [(h_rd, .inr (2, [.ref h_cb, .int rd_place_8, .int rd_refusal_9])), (h_cb, .inr (4, [.ref h_cb_bytes, .int cb_count])), (h_cb_bytes, .inl (c_cb_bytes, 2000, .inl cb_bytes))]) hD hS hA [1, 4, 5] rfl
          refine va_calli (va_runVN (As := []) (rest := [.int (v3_7 <<< ((1 : Int32) &&& 31))]) ⟨hx, hb, hml, hown, hB⟩ (c_BitReader_nextBit l dC dI h_rd h_cb h_cb_bytes c_cb_bytes rd_place_8 rd_refusal_9 cb_count cb_bytes _ o9 hc9) ⟨va_cnB 0 hB (goodB bw_517) rfl rfl rfl (hnw.1 _ bn_580) (hB _ bw_11) (by decide +kernel) ⟨Nat.le_of_ble_eq_true rfl, Nat.le_of_ble_eq_true rfl⟩, hB _ bw_516, hB _ bs_34⟩ ⟨fb_m, va_recv hK hP (ci := 2) (q0 := 1) rfl rfl, (pre_m hPc hKc hDc hnw [.ref h_rd])⟩ rfl rfl hl.1 rfl (lv_room (Nat.le_of_ble_eq_true rfl)) d_CodeNames_readName_47 ⟨Nat.zero_le _, Nat.zero_le _⟩) hS (fun q _ h => hFc q h) hFc (fun r_12 u9 t H1 locs ht hvm hw hB hz1 hk1 hS => ?_)
          obtain ⟨rd_place_13, rd_refusal_14⟩ := u9
          subst hw
          obtain ⟨hP1, hK1, hD1⟩ := hB
          rw [ht] at hP1
          obtain ⟨hP, hD⟩ := va_join (wr := [(h_na, .inr (5, [.ref h_di, .ref h_na_lengths, .ref h_na_codes, u_na_weights, u_na_joinedTo])), (h_di, .inr (6, [u_di_widths, u_di_heights, u_di_samples, .int di_count])), (h_na_lengths, .inl (c_na_lengths, 16, .inl na_lengths)), (h_na_codes, .inl (c_na_codes, 16, .inl na_codes))]) (w1 := [(h_rd, .inr (2, [.ref h_cb, .int rd_place_13, .int rd_refusal_14])), (h_cb, .inr (4, [.ref h_cb_bytes, .int cb_count])), (h_cb_bytes, .inl (c_cb_bytes, 2000, .inl cb_bytes))]) hP hD [1, 4, 5] [0, 2, 3, 6] rfl rfl (by decide) (by decide) hk1 hFc hP1 hD1
          have hP := hP.sub (ws' := [(h_na, .inr (5, [.ref h_di, .ref h_na_lengths, .ref h_na_codes, u_na_weights, u_na_joinedTo])), (h_rd, .inr (2, [.ref h_cb, .int rd_place_13, .int rd_refusal_14])), (h_di, .inr (6, [u_di_widths, u_di_heights, u_di_samples, .int di_count])), (h_na_lengths, .inl (c_na_lengths, 16, .inl na_lengths)), (h_cb, .inr (4, [.ref h_cb_bytes, .int cb_count])), (h_cb_bytes, .inl (c_cb_bytes, 2000, .inl cb_bytes)), (h_na_codes, .inl (c_na_codes, 16, .inl na_codes))]) [0, 4, 1, 2, 5, 6, 3] rfl
          have hD := hD.sub (ws' := [(h_na, .inr (5, [.ref h_di, .ref h_na_lengths, .ref h_na_codes, u_na_weights, u_na_joinedTo])), (h_rd, .inr (2, [.ref h_cb, .int rd_place_13, .int rd_refusal_14])), (h_di, .inr (6, [u_di_widths, u_di_heights, u_di_samples, .int di_count])), (h_na_lengths, .inl (c_na_lengths, 16, .inl na_lengths)), (h_cb, .inr (4, [.ref h_cb_bytes, .int cb_count])), (h_cb_bytes, .inl (c_cb_bytes, 2000, .inl cb_bytes)), (h_na_codes, .inl (c_na_codes, 16, .inl na_codes))]) [0, 4, 1, 2, 5, 6, 3] (by decide) rfl
          clear hPc hKc hDc hFc hc9 hP1 hK1 hD1 hk1 hz1 hvm ht
          generalize H1 = H at hP hS ⊢
          try dsimp only at h
          refine lv_ior hx hb d_CodeNames_readName_50 ?_
          refine lv_topi (fun v3_15 e_v3_15 => ?_)
          have h := nl_u e_v3_15 h
          refine lv_istore_n (lv' := [(3, .int v3_15), (4, .int v4_6), (2, .int v2_3), (0, .ref h_na), (1, .ref h_rd)]) hx hb d_CodeNames_readName_51 rfl hl (by decide) rfl (fun ls hl => ?_)
          refine lv_aload_n hx hb d_CodeNames_readName_52 rfl (lv_at hl 3 rfl) ?_
          refine lv_iload_n hx hb d_CodeNames_readName_53 rfl (lv_at hl 0 rfl) ?_
          refine lv_iload hx hb d_CodeNames_readName_54 (lv_at hl 1 rfl) ?_
          obtain ⟨o9, hc9, h⟩ := bd_e h
          have hPc := hP.sub (ws' := [(h_na, .inr (5, [.ref h_di, .ref h_na_lengths, .ref h_na_codes, u_na_weights, u_na_joinedTo])), (h_di, .inr (6, [u_di_widths, u_di_heights, u_di_samples, .int di_count])), (h_na_lengths, .inl (c_na_lengths, 16, .inl na_lengths)), (h_na_codes, .inl (c_na_codes, 16, .inl na_codes))]) [0, 2, 3, 6] rfl
          have hKc := hK.sub (tys' := [(c_na_lengths, .int), (c_na_codes, .int)]) [0, 2] rfl
          refine vp_callSi (va_Run.run (va_runV (As := [.int v3_15, .int v4_6]) (rest := []) ⟨hx, hb, hml, hown, hB⟩ (c_CodeNames_symbolOf l dC dI h_na h_di h_na_lengths h_na_codes c_na_lengths c_na_codes u_na_weights u_na_joinedTo u_di_widths u_di_heights u_di_samples di_count na_lengths na_codes v3_15 v4_6 o9 hc9) (cwV 2 hB (goodA (m4 bw_581 bw_583 bs_42 bw_6) (goodB bw_584)) rfl rfl rfl (by decide +kernel) ⟨Nat.le_of_ble_eq_true rfl, Nat.le_of_ble_eq_true rfl⟩) ⟨fb_p, va_recv hK hP (ci := 5) (q0 := 0) rfl rfl, (pre_p hPc hKc hnw [.ref h_na, .int v3_15, .int v4_6])⟩ rfl rfl hl.1 rfl (lv_room (Nat.le_of_ble_eq_true rfl)) d_CodeNames_readName_56 ⟨Nat.zero_le _, Nat.zero_le _⟩)) (fun r_16 e_r_16 => ?_)
          subst e_r_16
          clear hPc hKc hc9
          refine lv_istore (lv' := [(5, .int r_16), (3, .int v3_15), (4, .int v4_6), (2, .int v2_3), (0, .ref h_na), (1, .ref h_rd)]) hx hb d_CodeNames_readName_59 hl (by decide) rfl (fun ls hl => ?_)
          refine lv_iload hx hb d_CodeNames_readName_61 (lv_at hl 0 rfl) ?_
          refine lv_iconst (v := -1) hx hb d_CodeNames_readName_63 (by decide) ?_
          refine lv_icmp_eq (tgt := 70) hx hb d_CodeNames_readName_64 (by decide) (fun c_2 => ?_) (fun c_2 => ?_)
          · have h := if_t h c_2
            obtain ⟨v4_17, e_v4_17⟩ : ∃ y9 : Int32, y9 = (v4_6 + (1 : Int32)) := ⟨_, rfl⟩
            have h := nl_u e_v4_17 h
            refine lv_iinc (v := v4_17) (lv' := [(4, .int v4_17), (5, .int r_16), (3, .int v3_15), (2, .int v2_3), (0, .ref h_na), (1, .ref h_rd)]) hx hb d_CodeNames_readName_70 hl (k := 2) rfl (by rw [e_v4_17]; rfl) (by decide) rfl (fun ls hl => ?_)
            refine lv_goto (tgt := 37) hx hb d_CodeNames_readName_73 (by decide) ?_
            exact ih_self37 _ _ _ _ _ _ _ h hP hD hS (lv_sub hl [0, 2, 3, 4, 5] rfl)
          · have h := if_f h c_2
            refine lv_iload hx hb d_CodeNames_readName_67 (lv_at hl 0 rfl) ?_
            subst eQ
            exact W.iret (v := r_16) hx hb hr (fun t ht hW => ⟨⟨_, (rd_place_13, rd_refusal_14), rfl, Option.some.inj h, by rw [ht]; exact hP, va_K.moved hW.alike hK, hD⟩, hS.F ht⟩) hS.2.2 d_CodeNames_readName_69
    exact w_self37 FU _ _ _ _ _ _ _ h hP hD hS hl
  have w_self4 : ∀ n9 : Nat, ∀ (v3_1 : Int32) (v2_2 : Int32) (H : Heap) (locs : List Loc) (ls : Array Slot), lp (f_CodeNames_readName_L4 di_count na_lengths k32) n9 (v3_1, v2_2) = some o → va_P (dC, dI) CL [(h_na, .inr (5, [.ref h_di, .ref h_na_lengths, .ref h_na_codes, u_na_weights, u_na_joinedTo])), (h_rd, .inr (2, [.ref h_cb, .int rd_place, .int rd_refusal])), (h_di, .inr (6, [u_di_widths, u_di_heights, u_di_samples, .int di_count])), (h_na_lengths, .inl (c_na_lengths, 16, .inl na_lengths)), (h_cb, .inr (4, [.ref h_cb_bytes, .int cb_count])), (h_cb_bytes, .inl (c_cb_bytes, 2000, .inl cb_bytes)), (h_na_codes, .inl (c_na_codes, 16, .inl na_codes))] H → va_D A [(h_na, .inr (5, [.ref h_di, .ref h_na_lengths, .ref h_na_codes, u_na_weights, u_na_joinedTo])), (h_rd, .inr (2, [.ref h_cb, .int rd_place, .int rd_refusal])), (h_di, .inr (6, [u_di_widths, u_di_heights, u_di_samples, .int di_count])), (h_na_lengths, .inl (c_na_lengths, 16, .inl na_lengths)), (h_cb, .inr (4, [.ref h_cb_bytes, .int cb_count])), (h_cb_bytes, .inl (c_cb_bytes, 2000, .inl cb_bytes)), (h_na_codes, .inl (c_na_codes, 16, .inl na_codes))] → va_S A s.heap H locs → lv_has ls 6 [(3, .int v3_1), (2, .int v2_2), (0, .ref h_na), (1, .ref h_rd)] → W p l e ({ frames := 1, cells := 0, slots := 0, locals := 30 } : Room) s m ([.ref h_na, .ref h_rd] : List Value).toArray below meth c H locs 0 0 Q9 (F0 m 4 ls []) := by
    intro n9
    induction n9 with
    | zero =>
      intro v3_1 v2_2 H locs ls h hP hD hS hl
      exact absurd h (by simp [lp])
    | succ n9 ih_self4 =>
      intro v3_1 v2_2 H locs ls h hP hD hS hl
      obtain ⟨self4, e_self4, h⟩ := abs_k (P := fun z9 => f_CodeNames_readName_L4 di_count na_lengths k32 z9 (v3_1, v2_2) = some o) (lp_e h)
      rw [← e_self4] at ih_self4
      unfold f_CodeNames_readName_L4 at h
      try dsimp only at h
      refine lv_iload_n hx hb d_CodeNames_readName_4 rfl (lv_at hl 0 rfl) ?_
      refine lv_aload_n hx hb d_CodeNames_readName_5 rfl (lv_at hl 2 rfl) ?_
      refine va_get (D := (dC, dI)) (ci := 5) (v := .ref h_di) (C := R_CodeNames) (T := T_CodeNames) (N := 5) hx hb hB iw_CodeNames hown hK hP 0 rfl rfl 0 (by decide) (hB _ bw_113) (fun _ h9 => h9) rfl d_CodeNames_readName_6 ?_
      refine va_getN (D := (dC, dI)) (ci := 6) (v := .int di_count) (C := R_Dictionary) (T := T_Dictionary) (N := 4) hx hb hB iw_Dictionary hown hK hP 2 rfl rfl 3 (by decide) (va_Nw.use rfl (hnw.1 _ bn_54)) (fun _ h9 => h9) rfl d_CodeNames_readName_9 ?_
      refine lv_icmp_ge (tgt := 32) hx hb d_CodeNames_readName_12 (by decide) (fun c_3 => ?_) (fun c_3 => ?_)
      · have h := if_t h c_3
        exact w_k32 _ _ _ _ h hP hD hS (lv_sub hl [1, 2, 3] rfl)
      · have h := if_f h c_3
        refine lv_iload_n hx hb d_CodeNames_readName_15 rfl (lv_at hl 1 rfl) ?_
        refine lv_aload_n hx hb d_CodeNames_readName_16 rfl (lv_at hl 2 rfl) ?_
        refine va_get (D := (dC, dI)) (ci := 5) (v := .ref h_na_lengths) (C := R_CodeNames) (T := T_CodeNames) (N := 5) hx hb hB iw_CodeNames hown hK hP 0 rfl rfl 1 (by decide) (hB _ bw_114) (fun _ h9 => h9) rfl d_CodeNames_readName_17 ?_
        refine lv_iload_n hx hb d_CodeNames_readName_20 rfl (lv_at hl 0 rfl) ?_
        obtain ⟨hin, h⟩ := gq_e h
        refine va_iald hx hb hK hP 3 0 rfl rfl hin d_CodeNames_readName_21 ?_
        refine va_mmax hx hb (hml.trans hl.1.symm) hown (hB _ bw_579) (hB _ bw_36) (hB _ bw_2) (hB _ bm_max) (Nat.le_of_ble_eq_true rfl) (Nat.le_of_ble_eq_true rfl) (Nat.zero_le _) (Nat.zero_le _) d_CodeNames_readName_22 ?_
        refine lv_topi (fun v2_4 e_v2_4 => ?_)
        have h := nl_u e_v2_4 h
        refine lv_istore_n (lv' := [(2, .int v2_4), (3, .int v3_1), (0, .ref h_na), (1, .ref h_rd)]) hx hb d_CodeNames_readName_25 rfl hl (by decide) rfl (fun ls hl => ?_)
        obtain ⟨v3_5, e_v3_5⟩ : ∃ y9 : Int32, y9 = (v3_1 + (1 : Int32)) := ⟨_, rfl⟩
        have h := nl_u e_v3_5 h
        refine lv_iinc (v := v3_5) (lv' := [(3, .int v3_5), (2, .int v2_4), (0, .ref h_na), (1, .ref h_rd)]) hx hb d_CodeNames_readName_26 hl (k := 1) rfl (by rw [e_v3_5]; rfl) (by decide) rfl (fun ls hl => ?_)
        refine lv_goto (tgt := 4) hx hb d_CodeNames_readName_29 (by decide) ?_
        exact ih_self4 _ _ _ _ _ h hP hD hS hl
  exact w_self4 FU _ _ _ _ _ h hP hD hS hl
