set_option maxHeartbeats 4000000 in
set_option maxRecDepth 100000 in
theorem c_FrontNames_putByNumber (l : Launch) (dC : Nat → ClassId) (dI : Nat → Nat → Nat) (h_na : Nat) (h_na_row : Nat) (c_na_row : ClassId) (u_na_symbols : Value) (na_row : (Nat → Int32)) (sz : Nat) (o : (Nat → Int32)) (hf : f_FrontNames_putByNumber na_row = some o) :
    Met l y_FrontNames_putByNumber ws_FrontNames_putByNumber { frames := 0, cells := 0, slots := 0, locals := 0 } (va_Pc [.ref h_na] (PcM (dC, dI) [(h_na, .inr (7, [u_na_symbols, .ref h_na_row])), (h_na_row, .inl (c_na_row, 16, .inl na_row))] [(c_na_row, .int)] sz))
      (va_Qv (fun u : (Nat → Int32) => u = o) (fun u t => va_P (dC, dI) CL [(h_na, .inr (7, [u_na_symbols, .ref h_na_row])), (h_na_row, .inl (c_na_row, 16, .inl u))] t.heap ∧ va_K (dC, dI) CL [(c_na_row, .int)] t ∧ va_D (va_A [(h_na, .inr (7, [u_na_symbols, .ref h_na_row])), (h_na_row, .inl (c_na_row, 16, .inl na_row))] sz) [(h_na, .inr (7, [u_na_symbols, .ref h_na_row])), (h_na_row, .inl (c_na_row, 16, .inl u))]) (va_A [(h_na, .inr (7, [u_na_symbols, .ref h_na_row])), (h_na_row, .inl (c_na_row, 16, .inl na_row))] sz)) 0 0 (va_A [(h_na, .inr (7, [u_na_symbols, .ref h_na_row])), (h_na_row, .inl (c_na_row, 16, .inl na_row))] sz) := by
  refine Met.ofW (cc := b_FrontNames_putByNumber) (maxL := 2) (ret := none) (by decide) rfl ?_
  intro p e s m args below meth c s₁ B hml hv
  obtain ⟨rfl, hsz, hP, hK, hD0, hnw⟩ := hv
  have hx := B.exec
  have hb := B.bytes
  have hr := B.returns
  have hts := atoms_spec (ws := ws_FrontNames_putByNumber) B.pre
  have hB : ∀ w ∈ BIG, w.before _ s = true := fun w h => hts w (List.mem_cons_of_mem _ h)
  have hown : s.vm.findClass R_FrontNames = some m.cls := findClass_of_methodNamed B.named
  have hlocks := B.notSynchronized
  subst hsz
  have hD := hD0.self (sz := s.heap.size)
  refine W_Q (fun Q9 eQ => ?_)
  generalize hAe : va_A [(h_na, .inr (7, [u_na_symbols, .ref h_na_row])), (h_na_row, .inl (c_na_row, 16, .inl na_row))] s.heap.size = A at hD eQ
  have hA : ∀ q : Nat, s.heap.size ≤ q → A q := fun q h => by rw [← hAe]; exact Or.inr h
  have hS : va_S A s.heap s.heap [] := va_S.rf
  have hl := lv_entry ([.ref h_na]) (n := 2) (Nat.le_of_ble_eq_true rfl)
  rw [lg_entry_eq]
  generalize (lg_sl ([.ref h_na]) ++ List.replicate (2 - (lg_sl ([.ref h_na])).length) Slot.unset).toArray = ls at hl ⊢
  have hl : lv_has ls 2 [(0, .ref h_na)] := hl
  have h := hf
  unfold f_FrontNames_putByNumber at h
  refine lv_iconst (v := 0) hx hb d_FrontNames_putByNumber_0 (by decide) ?_
  refine lv_istore_n (lv' := [(1, .int (0 : Int32)), (0, .ref h_na)]) hx hb d_FrontNames_putByNumber_1 rfl hl (by decide) rfl (fun ls hl => ?_)
  have w_self2 : ∀ n9 : Nat, ∀ (v1_1 : Int32) (na_row_2 : (Nat → Int32)) (H : Heap) (locs : List Loc) (ls : Array Slot), lp (f_FrontNames_putByNumber_L2) n9 (v1_1, na_row_2) = some o → va_P (dC, dI) CL [(h_na, .inr (7, [u_na_symbols, .ref h_na_row])), (h_na_row, .inl (c_na_row, 16, .inl na_row_2))] H → va_D A [(h_na, .inr (7, [u_na_symbols, .ref h_na_row])), (h_na_row, .inl (c_na_row, 16, .inl na_row_2))] → va_S A s.heap H locs → lv_has ls 2 [(1, .int v1_1), (0, .ref h_na)] → W p l e ({ frames := 0, cells := 0, slots := 0, locals := 0 } : Room) s m ([.ref h_na] : List Value).toArray below meth c H locs 0 0 Q9 (F0 m 2 ls []) := by
    intro n9
    induction n9 with
    | zero =>
      intro v1_1 na_row_2 H locs ls h hP hD hS hl
      exact absurd h (by simp [lp])
    | succ n9 ih_self2 =>
      intro v1_1 na_row_2 H locs ls h hP hD hS hl
      obtain ⟨self2, e_self2, h⟩ := abs_k (P := fun z9 => f_FrontNames_putByNumber_L2 z9 (v1_1, na_row_2) = some o) (lp_e h)
      rw [← e_self2] at ih_self2
      unfold f_FrontNames_putByNumber_L2 at h
      try dsimp only at h
      refine lv_iload_n hx hb d_FrontNames_putByNumber_2 rfl (lv_at hl 0 rfl) ?_
      refine lv_bipush (v := 16) hx hb d_FrontNames_putByNumber_3 (by decide) ?_
      refine lv_icmp_ge (tgt := 21) hx hb d_FrontNames_putByNumber_5 (by decide) (fun c_1 => ?_) (fun c_1 => ?_)
      · have h := if_t h c_1
        subst eQ
        exact W.vret hx hb hr (fun t ht hW => ⟨⟨na_row_2, rfl, Option.some.inj h, by rw [ht]; exact hP, va_K.moved hW.alike hK, hD⟩, hS.F ht⟩) hS.2.2 d_FrontNames_putByNumber_21
      · have h := if_f h c_1
        refine lv_aload_n hx hb d_FrontNames_putByNumber_8 rfl (lv_at hl 1 rfl) ?_
        refine va_get (D := (dC, dI)) (ci := 7) (v := .ref h_na_row) (C := R_FrontNames) (T := T_FrontNames) (N := 2) hx hb hB iw_FrontNames hown hK hP 0 rfl rfl 1 (by decide) (hB _ bw_136) (fun _ h9 => h9) rfl d_FrontNames_putByNumber_9 ?_
        refine lv_iload_n hx hb d_FrontNames_putByNumber_12 rfl (lv_at hl 0 rfl) ?_
        refine lv_iload_n hx hb d_FrontNames_putByNumber_13 rfl (lv_at hl 0 rfl) ?_
        obtain ⟨hin, h⟩ := gq_e h
        refine va_iast hx hb hK hP hD hS 1 0 rfl rfl hin d_FrontNames_putByNumber_14 (fun H locs hP hD hS => ?_)
        have hP : va_P (dC, dI) CL [(h_na, .inr (7, [u_na_symbols, .ref h_na_row])), (h_na_row, .inl (c_na_row, 16, .inl (upd na_row_2 (v1_1).toNatClampNeg v1_1)))] H := hP
        have hD : va_D A [(h_na, .inr (7, [u_na_symbols, .ref h_na_row])), (h_na_row, .inl (c_na_row, 16, .inl (upd na_row_2 (v1_1).toNatClampNeg v1_1)))] := hD
        obtain ⟨v1_3, e_v1_3⟩ : ∃ y9 : Int32, y9 = (v1_1 + (1 : Int32)) := ⟨_, rfl⟩
        have h := nl_u e_v1_3 h
        refine lv_iinc (v := v1_3) (lv' := [(1, .int v1_3), (0, .ref h_na)]) hx hb d_FrontNames_putByNumber_15 hl (k := 0) rfl (by rw [e_v1_3]; rfl) (by decide) rfl (fun ls hl => ?_)
        refine lv_goto (tgt := 2) hx hb d_FrontNames_putByNumber_18 (by decide) ?_
        exact ih_self2 _ _ _ _ _ h hP hD hS hl
  exact w_self2 FU _ _ _ _ _ h hP hD hS hl
set_option maxHeartbeats 4000000 in
set_option maxRecDepth 100000 in
theorem c_FrontNames_toFront (l : Launch) (dC : Nat → ClassId) (dI : Nat → Nat → Nat) (h_na : Nat) (h_na_row : Nat) (c_na_row : ClassId) (u_na_symbols : Value) (na_row : (Nat → Int32)) (p0 : Int32) (sz : Nat) (o : (Nat → Int32)) (hf : f_FrontNames_toFront na_row p0 = some o) :
    Met l y_FrontNames_toFront ws_FrontNames_toFront { frames := 0, cells := 0, slots := 0, locals := 0 } (va_Pc [.ref h_na, .int p0] (PcM (dC, dI) [(h_na, .inr (7, [u_na_symbols, .ref h_na_row])), (h_na_row, .inl (c_na_row, 16, .inl na_row))] [(c_na_row, .int)] sz))
      (va_Qv (fun u : (Nat → Int32) => u = o) (fun u t => va_P (dC, dI) CL [(h_na, .inr (7, [u_na_symbols, .ref h_na_row])), (h_na_row, .inl (c_na_row, 16, .inl u))] t.heap ∧ va_K (dC, dI) CL [(c_na_row, .int)] t ∧ va_D (va_A [(h_na, .inr (7, [u_na_symbols, .ref h_na_row])), (h_na_row, .inl (c_na_row, 16, .inl na_row))] sz) [(h_na, .inr (7, [u_na_symbols, .ref h_na_row])), (h_na_row, .inl (c_na_row, 16, .inl u))]) (va_A [(h_na, .inr (7, [u_na_symbols, .ref h_na_row])), (h_na_row, .inl (c_na_row, 16, .inl na_row))] sz)) 0 0 (va_A [(h_na, .inr (7, [u_na_symbols, .ref h_na_row])), (h_na_row, .inl (c_na_row, 16, .inl na_row))] sz) := by
  refine Met.ofW (cc := b_FrontNames_toFront) (maxL := 4) (ret := none) (by decide) rfl ?_
  intro p e s m args below meth c s₁ B hml hv
  obtain ⟨rfl, hsz, hP, hK, hD0, hnw⟩ := hv
  have hx := B.exec
  have hb := B.bytes
  have hr := B.returns
  have hts := atoms_spec (ws := ws_FrontNames_toFront) B.pre
  have hB : ∀ w ∈ BIG, w.before _ s = true := fun w h => hts w (List.mem_cons_of_mem _ h)
  have hown : s.vm.findClass R_FrontNames = some m.cls := findClass_of_methodNamed B.named
  have hlocks := B.notSynchronized
  subst hsz
  have hD := hD0.self (sz := s.heap.size)
  refine W_Q (fun Q9 eQ => ?_)
  generalize hAe : va_A [(h_na, .inr (7, [u_na_symbols, .ref h_na_row])), (h_na_row, .inl (c_na_row, 16, .inl na_row))] s.heap.size = A at hD eQ
  have hA : ∀ q : Nat, s.heap.size ≤ q → A q := fun q h => by rw [← hAe]; exact Or.inr h
  have hS : va_S A s.heap s.heap [] := va_S.rf
  have hl := lv_entry ([.ref h_na, .int p0]) (n := 4) (Nat.le_of_ble_eq_true rfl)
  rw [lg_entry_eq]
  generalize (lg_sl ([.ref h_na, .int p0]) ++ List.replicate (4 - (lg_sl ([.ref h_na, .int p0])).length) Slot.unset).toArray = ls at hl ⊢
  have hl : lv_has ls 4 [(0, .ref h_na), (1, .int p0)] := hl
  have h := hf
  unfold f_FrontNames_toFront at h
  refine lv_aload_n hx hb d_FrontNames_toFront_0 rfl (lv_at hl 0 rfl) ?_
  refine va_get (D := (dC, dI)) (ci := 7) (v := .ref h_na_row) (C := R_FrontNames) (T := T_FrontNames) (N := 2) hx hb hB iw_FrontNames hown hK hP 0 rfl rfl 1 (by decide) (hB _ bw_136) (fun _ h9 => h9) rfl d_FrontNames_toFront_1 ?_
  refine lv_iload_n hx hb d_FrontNames_toFront_4 rfl (lv_at hl 1 rfl) ?_
  obtain ⟨hin, h⟩ := gq_e h
  refine va_iald hx hb hK hP 1 0 rfl rfl hin d_FrontNames_toFront_5 ?_
  refine lv_topi (fun v2_1 e_v2_1 => ?_)
  have h := nl_u e_v2_1 h
  refine lv_istore_n (lv' := [(2, .int v2_1), (0, .ref h_na), (1, .int p0)]) hx hb d_FrontNames_toFront_6 rfl hl (by decide) rfl (fun ls hl => ?_)
  refine lv_iload_n hx hb d_FrontNames_toFront_7 rfl (lv_at hl 2 rfl) ?_
  refine lv_istore_n (lv' := [(3, .int p0), (2, .int v2_1), (0, .ref h_na), (1, .int p0)]) hx hb d_FrontNames_toFront_8 rfl hl (by decide) rfl (fun ls hl => ?_)
  have w_self9 : ∀ n9 : Nat, ∀ (v3_2 : Int32) (na_row_3 : (Nat → Int32)) (H : Heap) (locs : List Loc) (ls : Array Slot), lp (f_FrontNames_toFront_L9 v2_1) n9 (v3_2, na_row_3) = some o → va_P (dC, dI) CL [(h_na, .inr (7, [u_na_symbols, .ref h_na_row])), (h_na_row, .inl (c_na_row, 16, .inl na_row_3))] H → va_D A [(h_na, .inr (7, [u_na_symbols, .ref h_na_row])), (h_na_row, .inl (c_na_row, 16, .inl na_row_3))] → va_S A s.heap H locs → lv_has ls 4 [(3, .int v3_2), (2, .int v2_1), (0, .ref h_na)] → W p l e ({ frames := 0, cells := 0, slots := 0, locals := 0 } : Room) s m ([.ref h_na, .int p0] : List Value).toArray below meth c H locs 0 0 Q9 (F0 m 9 ls []) := by
    intro n9
    induction n9 with
    | zero =>
      intro v3_2 na_row_3 H locs ls h hP hD hS hl
      exact absurd h (by simp [lp])
    | succ n9 ih_self9 =>
      intro v3_2 na_row_3 H locs ls h hP hD hS hl
      obtain ⟨self9, e_self9, h⟩ := abs_k (P := fun z9 => f_FrontNames_toFront_L9 v2_1 z9 (v3_2, na_row_3) = some o) (lp_e h)
      rw [← e_self9] at ih_self9
      unfold f_FrontNames_toFront_L9 at h
      try dsimp only at h
      refine lv_iload_n hx hb d_FrontNames_toFront_9 rfl (lv_at hl 0 rfl) ?_
      refine lv_if_le (tgt := 33) hx hb d_FrontNames_toFront_10 (by decide) (fun c_1 => ?_) (fun c_1 => ?_)
      · have h := if_t h c_1
        refine lv_aload_n hx hb d_FrontNames_toFront_33 rfl (lv_at hl 2 rfl) ?_
        refine va_get (D := (dC, dI)) (ci := 7) (v := .ref h_na_row) (C := R_FrontNames) (T := T_FrontNames) (N := 2) hx hb hB iw_FrontNames hown hK hP 0 rfl rfl 1 (by decide) (hB _ bw_136) (fun _ h9 => h9) rfl d_FrontNames_toFront_34 ?_
        refine lv_iconst (v := 0) hx hb d_FrontNames_toFront_37 (by decide) ?_
        refine lv_iload_n hx hb d_FrontNames_toFront_38 rfl (lv_at hl 1 rfl) ?_
        obtain ⟨hin, h⟩ := gq_e h
        refine va_iast hx hb hK hP hD hS 1 0 rfl rfl hin d_FrontNames_toFront_39 (fun H locs hP hD hS => ?_)
        have hP : va_P (dC, dI) CL [(h_na, .inr (7, [u_na_symbols, .ref h_na_row])), (h_na_row, .inl (c_na_row, 16, .inl (upd na_row_3 ((0 : Int32)).toNatClampNeg v2_1)))] H := hP
        have hD : va_D A [(h_na, .inr (7, [u_na_symbols, .ref h_na_row])), (h_na_row, .inl (c_na_row, 16, .inl (upd na_row_3 ((0 : Int32)).toNatClampNeg v2_1)))] := hD
        subst eQ
        exact W.vret hx hb hr (fun t ht hW => ⟨⟨(upd na_row_3 ((0 : Int32)).toNatClampNeg v2_1), rfl, Option.some.inj h, by rw [ht]; exact hP, va_K.moved hW.alike hK, hD⟩, hS.F ht⟩) hS.2.2 d_FrontNames_toFront_40
      · have h := if_f h c_1
        refine lv_aload_n hx hb d_FrontNames_toFront_13 rfl (lv_at hl 2 rfl) ?_
        refine va_get (D := (dC, dI)) (ci := 7) (v := .ref h_na_row) (C := R_FrontNames) (T := T_FrontNames) (N := 2) hx hb hB iw_FrontNames hown hK hP 0 rfl rfl 1 (by decide) (hB _ bw_136) (fun _ h9 => h9) rfl d_FrontNames_toFront_14 ?_
        refine lv_iload_n hx hb d_FrontNames_toFront_17 rfl (lv_at hl 0 rfl) ?_
        refine lv_aload_n hx hb d_FrontNames_toFront_18 rfl (lv_at hl 2 rfl) ?_
        refine va_get (D := (dC, dI)) (ci := 7) (v := .ref h_na_row) (C := R_FrontNames) (T := T_FrontNames) (N := 2) hx hb hB iw_FrontNames hown hK hP 0 rfl rfl 1 (by decide) (hB _ bw_136) (fun _ h9 => h9) rfl d_FrontNames_toFront_19 ?_
        refine lv_iload_n hx hb d_FrontNames_toFront_22 rfl (lv_at hl 0 rfl) ?_
        refine lv_iconst (v := 1) hx hb d_FrontNames_toFront_23 (by decide) ?_
        refine lv_isub hx hb d_FrontNames_toFront_24 ?_
        obtain ⟨hin, h⟩ := gq_e h
        refine va_iald hx hb hK hP 1 0 rfl rfl hin d_FrontNames_toFront_25 ?_
        refine lv_topi (fun w_4 e_w_4 => ?_)
        have h := nl_u e_w_4 h
        obtain ⟨hin, h⟩ := gq_e h
        refine va_iast hx hb hK hP hD hS 1 0 rfl rfl hin d_FrontNames_toFront_26 (fun H locs hP hD hS => ?_)
        have hP : va_P (dC, dI) CL [(h_na, .inr (7, [u_na_symbols, .ref h_na_row])), (h_na_row, .inl (c_na_row, 16, .inl (upd na_row_3 (v3_2).toNatClampNeg w_4)))] H := hP
        have hD : va_D A [(h_na, .inr (7, [u_na_symbols, .ref h_na_row])), (h_na_row, .inl (c_na_row, 16, .inl (upd na_row_3 (v3_2).toNatClampNeg w_4)))] := hD
        obtain ⟨v3_5, e_v3_5⟩ : ∃ y9 : Int32, y9 = (v3_2 + (-1 : Int32)) := ⟨_, rfl⟩
        have h := nl_u e_v3_5 h
        refine lv_iinc (v := v3_5) (lv' := [(3, .int v3_5), (2, .int v2_1), (0, .ref h_na)]) hx hb d_FrontNames_toFront_27 hl (k := 0) rfl (by rw [e_v3_5]; rfl) (by decide) rfl (fun ls hl => ?_)
        refine lv_goto (tgt := 9) hx hb d_FrontNames_toFront_30 (by decide) ?_
        exact ih_self9 _ _ _ _ _ h hP hD hS hl
  exact w_self9 FU _ _ _ _ _ h hP hD hS (lv_sub hl [0, 1, 2] rfl)
set_option maxHeartbeats 4000000 in
set_option maxRecDepth 100000 in
theorem c_FrontNames_suit (l : Launch) (dC : Nat → ClassId) (dI : Nat → Nat → Nat) (h_na : Nat) (h_la : Nat) (u_na_symbols : Value) (u_na_row : Value) (u_la_symbols : Value) (u_la_ways : Value) (u_la_symbolOf : Value) (u_la_xs : Value) (u_la_ys : Value) (u_la_differs : Value) (u_la_sequence : Value) (u_la_count : Value) (o : Unit) (hf : f_FrontNames_suit  = some o) :
    Met l y_FrontNames_suit ws_FrontNames_suit { frames := 0, cells := 0, slots := 0, locals := 0 } (va_Pc [.ref h_na, .ref h_la] (PcP (dC, dI) [(h_na, .inr (7, [u_na_symbols, u_na_row])), (h_la, .inr (8, [u_la_symbols, u_la_ways, u_la_symbolOf, u_la_xs, u_la_ys, u_la_differs, u_la_sequence, u_la_count]))] []))
      (va_Sv (fun _ => True)) 0 0 (fun _ => False) := by
  refine Met.ofW (cc := b_FrontNames_suit) (maxL := 2) (ret := none) (by decide) rfl ?_
  intro p e s m args below meth c s₁ B hml hv
  obtain ⟨rfl, hP, hK, hnw⟩ := hv
  have hx := B.exec
  have hb := B.bytes
  have hr := B.returns
  have hts := atoms_spec (ws := ws_FrontNames_suit) B.pre
  have hB : ∀ w ∈ BIG, w.before _ s = true := fun w h => hts w (List.mem_cons_of_mem _ h)
  have hown : s.vm.findClass R_FrontNames = some m.cls := findClass_of_methodNamed B.named
  have hlocks := B.notSynchronized
  refine W_Q (fun Q9 eQ => ?_)
  have hl := lv_entry ([.ref h_na, .ref h_la]) (n := 2) (Nat.le_of_ble_eq_true rfl)
  rw [lg_entry_eq]
  generalize (lg_sl ([.ref h_na, .ref h_la]) ++ List.replicate (2 - (lg_sl ([.ref h_na, .ref h_la])).length) Slot.unset).toArray = ls at hl ⊢
  have hl : lv_has ls 2 [(0, .ref h_na), (1, .ref h_la)] := hl
  have h := hf
  unfold f_FrontNames_suit at h
  subst eQ
  exact W.vret hx hb hr (fun t ht hW => ⟨rfl, trivial, ht⟩) (fun _ h9 => absurd h9 List.not_mem_nil) d_FrontNames_suit_0
set_option maxHeartbeats 4000000 in
set_option maxRecDepth 100000 in
theorem c_FrontNames_tellTable (l : Launch) (dC : Nat → ClassId) (dI : Nat → Nat → Nat) (h_na : Nat) (h_wr : Nat) (h_na_row : Nat) (c_na_row : ClassId) (u_na_symbols : Value) (u_wr_row : Value) (u_wr_keeping : Value) (u_wr_count : Value) (na_row : (Nat → Int32)) (sz : Nat) (o : (Nat → Int32)) (hf : f_FrontNames_tellTable na_row = some o) :
    Met l y_FrontNames_tellTable ws_FrontNames_tellTable { frames := 1, cells := 0, slots := 0, locals := 21 } (va_Pc [.ref h_na, .ref h_wr] (PcM (dC, dI) [(h_na, .inr (7, [u_na_symbols, .ref h_na_row])), (h_wr, .inr (3, [u_wr_row, u_wr_keeping, u_wr_count])), (h_na_row, .inl (c_na_row, 16, .inl na_row))] [(c_na_row, .int)] sz))
      (va_Qv (fun u : (Nat → Int32) => u = o) (fun u t => va_P (dC, dI) CL [(h_na, .inr (7, [u_na_symbols, .ref h_na_row])), (h_wr, .inr (3, [u_wr_row, u_wr_keeping, u_wr_count])), (h_na_row, .inl (c_na_row, 16, .inl u))] t.heap ∧ va_K (dC, dI) CL [(c_na_row, .int)] t ∧ va_D (va_A [(h_na, .inr (7, [u_na_symbols, .ref h_na_row])), (h_wr, .inr (3, [u_wr_row, u_wr_keeping, u_wr_count])), (h_na_row, .inl (c_na_row, 16, .inl na_row))] sz) [(h_na, .inr (7, [u_na_symbols, .ref h_na_row])), (h_wr, .inr (3, [u_wr_row, u_wr_keeping, u_wr_count])), (h_na_row, .inl (c_na_row, 16, .inl u))]) (va_A [(h_na, .inr (7, [u_na_symbols, .ref h_na_row])), (h_wr, .inr (3, [u_wr_row, u_wr_keeping, u_wr_count])), (h_na_row, .inl (c_na_row, 16, .inl na_row))] sz)) 0 0 (va_A [(h_na, .inr (7, [u_na_symbols, .ref h_na_row])), (h_wr, .inr (3, [u_wr_row, u_wr_keeping, u_wr_count])), (h_na_row, .inl (c_na_row, 16, .inl na_row))] sz) := by
  refine Met.ofW (cc := b_FrontNames_tellTable) (maxL := 2) (ret := none) (by decide) rfl ?_
  intro p e s m args below meth c s₁ B hml hv
  obtain ⟨rfl, hsz, hP, hK, hD0, hnw⟩ := hv
  have hx := B.exec
  have hb := B.bytes
  have hr := B.returns
  have hts := atoms_spec (ws := ws_FrontNames_tellTable) B.pre
  have hB : ∀ w ∈ BIG, w.before _ s = true := fun w h => hts w (List.mem_cons_of_mem _ h)
  have hown : s.vm.findClass R_FrontNames = some m.cls := findClass_of_methodNamed B.named
  have hlocks := B.notSynchronized
  subst hsz
  have hD := hD0.self (sz := s.heap.size)
  refine W_Q (fun Q9 eQ => ?_)
  generalize hAe : va_A [(h_na, .inr (7, [u_na_symbols, .ref h_na_row])), (h_wr, .inr (3, [u_wr_row, u_wr_keeping, u_wr_count])), (h_na_row, .inl (c_na_row, 16, .inl na_row))] s.heap.size = A at hD eQ
  have hA : ∀ q : Nat, s.heap.size ≤ q → A q := fun q h => by rw [← hAe]; exact Or.inr h
  have hS : va_S A s.heap s.heap [] := va_S.rf
  have hl := lv_entry ([.ref h_na, .ref h_wr]) (n := 2) (Nat.le_of_ble_eq_true rfl)
  rw [lg_entry_eq]
  generalize (lg_sl ([.ref h_na, .ref h_wr]) ++ List.replicate (2 - (lg_sl ([.ref h_na, .ref h_wr])).length) Slot.unset).toArray = ls at hl ⊢
  have hl : lv_has ls 2 [(0, .ref h_na), (1, .ref h_wr)] := hl
  have h := hf
  unfold f_FrontNames_tellTable at h
  refine lv_aload_n hx hb d_FrontNames_tellTable_0 rfl (lv_at hl 0 rfl) ?_
  obtain ⟨o9, hc9, h⟩ := bd_e h
  have hPc := hP.sub (ws' := [(h_na, .inr (7, [u_na_symbols, .ref h_na_row])), (h_na_row, .inl (c_na_row, 16, .inl na_row))]) [0, 2] rfl
  have hKc := hK.sub (tys' := [(c_na_row, .int)]) [0] rfl
  have hDc := hD.sub (ws' := [(h_na, .inr (7, [u_na_symbols, .ref h_na_row])), (h_na_row, .inl (c_na_row, 16, .inl na_row))]) [0, 2] (by decide) rfl
  have hFc := va_free (wc := [(h_na, .inr (7, [u_na_symbols, .ref h_na_row])), (h_na_row, .inl (c_na_row, 16, .inl na_row))]) hD hS hA [0, 2] rfl
  refine va_callv (va_runV (As := []) (rest := []) ⟨hx, hb, hml, hown, hB⟩ (c_FrontNames_putByNumber l dC dI h_na h_na_row c_na_row u_na_symbols na_row _ o9 hc9) (cwV 0 hB (goodA (m4 bw_433 bw_435 bs_22 bw_7) (goodB bw_436)) rfl rfl rfl (by decide +kernel) ⟨Nat.le_of_ble_eq_true rfl, Nat.le_of_ble_eq_true rfl⟩) ⟨fb_m, va_recv hK hP (ci := 7) (q0 := 0) rfl rfl, (pre_m hPc hKc hDc hnw [.ref h_na])⟩ rfl rfl hl.1 rfl (lv_room (Nat.le_of_ble_eq_true rfl)) d_FrontNames_tellTable_1 ⟨Nat.zero_le _, Nat.zero_le _⟩) hS (fun q _ h => hFc q h) hFc (fun u9 t H1 locs ht hvm hw hB hz1 hk1 hS => ?_)
  obtain ⟨na_row_1, rfl⟩ : ∃ z9, z9 = u9 := ⟨_, rfl⟩
  subst hw
  obtain ⟨hP1, hK1, hD1⟩ := hB
  rw [ht] at hP1
  obtain ⟨hP, hD⟩ := va_join (wr := [(h_wr, .inr (3, [u_wr_row, u_wr_keeping, u_wr_count]))]) (w1 := [(h_na, .inr (7, [u_na_symbols, .ref h_na_row])), (h_na_row, .inl (c_na_row, 16, .inl na_row_1))]) hP hD [0, 2] [1] rfl rfl (by decide) (by decide) hk1 hFc hP1 hD1
  have hP := hP.sub (ws' := [(h_na, .inr (7, [u_na_symbols, .ref h_na_row])), (h_wr, .inr (3, [u_wr_row, u_wr_keeping, u_wr_count])), (h_na_row, .inl (c_na_row, 16, .inl na_row_1))]) [1, 0, 2] rfl
  have hD := hD.sub (ws' := [(h_na, .inr (7, [u_na_symbols, .ref h_na_row])), (h_wr, .inr (3, [u_wr_row, u_wr_keeping, u_wr_count])), (h_na_row, .inl (c_na_row, 16, .inl na_row_1))]) [1, 0, 2] (by decide) rfl
  clear hPc hKc hDc hFc hc9 hP1 hK1 hD1 hk1 hz1 hvm ht
  generalize H1 = H at hP hS ⊢
  try dsimp only at h
  subst eQ
  exact W.vret hx hb hr (fun t ht hW => ⟨⟨na_row_1, rfl, Option.some.inj h, by rw [ht]; exact hP, va_K.moved hW.alike hK, hD⟩, hS.F ht⟩) hS.2.2 d_FrontNames_tellTable_4
set_option maxHeartbeats 4000000 in
set_option maxRecDepth 100000 in
theorem c_FrontNames_tellName (l : Launch) (dC : Nat → ClassId) (dI : Nat → Nat → Nat) (h_na : Nat) (h_wr : Nat) (h_di : Nat) (h_na_row : Nat) (h_tb : Nat) (h_tb_bytes : Nat) (c_na_row : ClassId) (c_tb_bytes : ClassId) (u_di_widths : Value) (u_di_heights : Value) (u_di_samples : Value) (wr_keeping : Int32) (wr_count : Int32) (di_count : Int32) (na_row : (Nat → Int32)) (tb_count : Int32) (tb_bytes : (Nat → Int32)) (p0 : Int32) (sz : Nat) (o : Int32 × (Nat → Int32) × Int32 × (Nat → Int32)) (hf : f_FrontNames_tellName wr_keeping wr_count di_count na_row tb_count tb_bytes p0 = some o) :
    Met l y_FrontNames_tellName ws_FrontNames_tellName { frames := 3, cells := 0, slots := 0, locals := 66 } (va_Pc [.ref h_na, .int p0, .ref h_wr] (PcM (dC, dI) [(h_na, .inr (7, [.ref h_di, .ref h_na_row])), (h_wr, .inr (3, [.ref h_tb, .int wr_keeping, .int wr_count])), (h_di, .inr (6, [u_di_widths, u_di_heights, u_di_samples, .int di_count])), (h_na_row, .inl (c_na_row, 16, .inl na_row)), (h_tb, .inr (4, [.ref h_tb_bytes, .int tb_count])), (h_tb_bytes, .inl (c_tb_bytes, 2000, .inl tb_bytes))] [(c_na_row, .int), (c_tb_bytes, .int)] sz))
      (va_Qv (fun u : Int32 × (Nat → Int32) × Int32 × (Nat → Int32) => u = o) (fun u t => va_P (dC, dI) CL [(h_na, .inr (7, [.ref h_di, .ref h_na_row])), (h_wr, .inr (3, [.ref h_tb, .int wr_keeping, .int (u.1)])), (h_di, .inr (6, [u_di_widths, u_di_heights, u_di_samples, .int di_count])), (h_na_row, .inl (c_na_row, 16, .inl (u.2.1))), (h_tb, .inr (4, [.ref h_tb_bytes, .int (u.2.2.1)])), (h_tb_bytes, .inl (c_tb_bytes, 2000, .inl (u.2.2.2)))] t.heap ∧ va_K (dC, dI) CL [(c_na_row, .int), (c_tb_bytes, .int)] t ∧ va_D (va_A [(h_na, .inr (7, [.ref h_di, .ref h_na_row])), (h_wr, .inr (3, [.ref h_tb, .int wr_keeping, .int wr_count])), (h_di, .inr (6, [u_di_widths, u_di_heights, u_di_samples, .int di_count])), (h_na_row, .inl (c_na_row, 16, .inl na_row)), (h_tb, .inr (4, [.ref h_tb_bytes, .int tb_count])), (h_tb_bytes, .inl (c_tb_bytes, 2000, .inl tb_bytes))] sz) [(h_na, .inr (7, [.ref h_di, .ref h_na_row])), (h_wr, .inr (3, [.ref h_tb, .int wr_keeping, .int (u.1)])), (h_di, .inr (6, [u_di_widths, u_di_heights, u_di_samples, .int di_count])), (h_na_row, .inl (c_na_row, 16, .inl (u.2.1))), (h_tb, .inr (4, [.ref h_tb_bytes, .int (u.2.2.1)])), (h_tb_bytes, .inl (c_tb_bytes, 2000, .inl (u.2.2.2)))]) (va_A [(h_na, .inr (7, [.ref h_di, .ref h_na_row])), (h_wr, .inr (3, [.ref h_tb, .int wr_keeping, .int wr_count])), (h_di, .inr (6, [u_di_widths, u_di_heights, u_di_samples, .int di_count])), (h_na_row, .inl (c_na_row, 16, .inl na_row)), (h_tb, .inr (4, [.ref h_tb_bytes, .int tb_count])), (h_tb_bytes, .inl (c_tb_bytes, 2000, .inl tb_bytes))] sz)) 0 0 (va_A [(h_na, .inr (7, [.ref h_di, .ref h_na_row])), (h_wr, .inr (3, [.ref h_tb, .int wr_keeping, .int wr_count])), (h_di, .inr (6, [u_di_widths, u_di_heights, u_di_samples, .int di_count])), (h_na_row, .inl (c_na_row, 16, .inl na_row)), (h_tb, .inr (4, [.ref h_tb_bytes, .int tb_count])), (h_tb_bytes, .inl (c_tb_bytes, 2000, .inl tb_bytes))] sz) := by
  refine Met.ofW (cc := b_FrontNames_tellName) (maxL := 4) (ret := none) (by decide) rfl ?_
  intro p e s m args below meth c s₁ B hml hv
  obtain ⟨rfl, hsz, hP, hK, hD0, hnw⟩ := hv
  have hx := B.exec
  have hb := B.bytes
  have hr := B.returns
  have hts := atoms_spec (ws := ws_FrontNames_tellName) B.pre
  have hB : ∀ w ∈ BIG, w.before _ s = true := fun w h => hts w (List.mem_cons_of_mem _ h)
  have hown : s.vm.findClass R_FrontNames = some m.cls := findClass_of_methodNamed B.named
  have hlocks := B.notSynchronized
  subst hsz
  have hD := hD0.self (sz := s.heap.size)
  refine W_Q (fun Q9 eQ => ?_)
  generalize hAe : va_A [(h_na, .inr (7, [.ref h_di, .ref h_na_row])), (h_wr, .inr (3, [.ref h_tb, .int wr_keeping, .int wr_count])), (h_di, .inr (6, [u_di_widths, u_di_heights, u_di_samples, .int di_count])), (h_na_row, .inl (c_na_row, 16, .inl na_row)), (h_tb, .inr (4, [.ref h_tb_bytes, .int tb_count])), (h_tb_bytes, .inl (c_tb_bytes, 2000, .inl tb_bytes))] s.heap.size = A at hD eQ
  have hA : ∀ q : Nat, s.heap.size ≤ q → A q := fun q h => by rw [← hAe]; exact Or.inr h
  have hS : va_S A s.heap s.heap [] := va_S.rf
  have hl := lv_entry ([.ref h_na, .int p0, .ref h_wr]) (n := 4) (Nat.le_of_ble_eq_true rfl)
  rw [lg_entry_eq]
  generalize (lg_sl ([.ref h_na, .int p0, .ref h_wr]) ++ List.replicate (4 - (lg_sl ([.ref h_na, .int p0, .ref h_wr])).length) Slot.unset).toArray = ls at hl ⊢
  have hl : lv_has ls 4 [(0, .ref h_na), (1, .int p0), (2, .ref h_wr)] := hl
  have h := hf
  unfold f_FrontNames_tellName at h
  refine lv_iconst (v := 0) hx hb d_FrontNames_tellName_0 (by decide) ?_
  refine lv_istore_n (lv' := [(3, .int (0 : Int32)), (0, .ref h_na), (1, .int p0), (2, .ref h_wr)]) hx hb d_FrontNames_tellName_1 rfl hl (by decide) rfl (fun ls hl => ?_)
  obtain ⟨k31, e_k31, h⟩ := abs_k (P := fun k9 => lp (f_FrontNames_tellName_L2 di_count na_row p0 k9) FU (0 : Int32) = some o) h
  have w_k31 : ∀ (v3_2 : Int32) (H : Heap) (locs : List Loc) (ls : Array Slot), k31 v3_2 = some o → va_P (dC, dI) CL [(h_na, .inr (7, [.ref h_di, .ref h_na_row])), (h_wr, .inr (3, [.ref h_tb, .int wr_keeping, .int wr_count])), (h_di, .inr (6, [u_di_widths, u_di_heights, u_di_samples, .int di_count])), (h_na_row, .inl (c_na_row, 16, .inl na_row)), (h_tb, .inr (4, [.ref h_tb_bytes, .int tb_count])), (h_tb_bytes, .inl (c_tb_bytes, 2000, .inl tb_bytes))] H → va_D A [(h_na, .inr (7, [.ref h_di, .ref h_na_row])), (h_wr, .inr (3, [.ref h_tb, .int wr_keeping, .int wr_count])), (h_di, .inr (6, [u_di_widths, u_di_heights, u_di_samples, .int di_count])), (h_na_row, .inl (c_na_row, 16, .inl na_row)), (h_tb, .inr (4, [.ref h_tb_bytes, .int tb_count])), (h_tb_bytes, .inl (c_tb_bytes, 2000, .inl tb_bytes))] → va_S A s.heap H locs → lv_has ls 4 [(3, .int v3_2), (0, .ref h_na), (2, .ref h_wr)] → W p l e ({ frames := 3, cells := 0, slots := 0, locals := 66 } : Room) s m ([.ref h_na, .int p0, .ref h_wr] : List Value).toArray below meth c H locs 0 0 Q9 (F0 m 31 ls []) := by
    intro v3_2 H locs ls h hP hD hS hl
    rw [e_k31] at h
    refine lv_aload_n hx hb d_FrontNames_tellName_31 rfl (lv_at hl 2 rfl) ?_
    refine lv_iload_n hx hb d_FrontNames_tellName_32 rfl (lv_at hl 0 rfl) ?_
    obtain ⟨o9, hc9, h⟩ := bd_e h
    have hPc := hP.sub (ws' := [(h_wr, .inr (3, [.ref h_tb, .int wr_keeping, .int wr_count])), (h_tb, .inr (4, [.ref h_tb_bytes, .int tb_count])), (h_tb_bytes, .inl (c_tb_bytes, 2000, .inl tb_bytes))]) [1, 4, 5] rfl
    have hKc := hK.sub (tys' := [(c_tb_bytes, .int)]) [1] rfl
    have hDc := hD.sub (ws' := [(h_wr, .inr (3, [.ref h_tb, .int wr_keeping, .int wr_count])), (h_tb, .inr (4, [.ref h_tb_bytes, .int tb_count])), (h_tb_bytes, .inl (c_tb_bytes, 2000, .inl tb_bytes))]) [1, 4, 5] (by decide) rfl
    have hFc := va_free (wc := [(h_wr, .inr (3, [.ref h_tb, .int wr_keeping, .int wr_count])), (h_tb, .inr (4, [.ref h_tb_bytes, .int tb_count])), (h_tb_bytes, .inl (c_tb_bytes, 2000, .inl tb_bytes))]) hD hS hA [1, 4, 5] rfl
    refine va_callv (va_runVN (As := [.int v3_2]) (rest := []) ⟨hx, hb, hml, hown, hB⟩ (c_BitWriter_tellNumber l dC dI h_wr h_tb h_tb_bytes c_tb_bytes wr_keeping wr_count tb_count tb_bytes v3_2 _ o9 hc9) ⟨va_cnB 1 hB (goodB bw_404) rfl rfl rfl (hnw.1 _ bn_465) (hB _ bw_9) (by decide +kernel) ⟨Nat.le_of_ble_eq_true rfl, Nat.le_of_ble_eq_true rfl⟩, hB _ bw_403, hB _ bs_19⟩ ⟨fb_m, va_recv hK hP (ci := 3) (q0 := 1) rfl rfl, (pre_m hPc hKc hDc hnw [.ref h_wr, .int v3_2])⟩ rfl rfl hl.1 rfl (lv_room (Nat.le_of_ble_eq_true rfl)) d_FrontNames_tellName_33 ⟨Nat.zero_le _, Nat.zero_le _⟩) hS (fun q _ h => hFc q h) hFc (fun u9 t H1 locs ht hvm hw hB hz1 hk1 hS => ?_)
    obtain ⟨wr_count_4, tb_count_5, tb_bytes_6⟩ := u9
    subst hw
    obtain ⟨hP1, hK1, hD1⟩ := hB
    rw [ht] at hP1
    obtain ⟨hP, hD⟩ := va_join (wr := [(h_na, .inr (7, [.ref h_di, .ref h_na_row])), (h_di, .inr (6, [u_di_widths, u_di_heights, u_di_samples, .int di_count])), (h_na_row, .inl (c_na_row, 16, .inl na_row))]) (w1 := [(h_wr, .inr (3, [.ref h_tb, .int wr_keeping, .int wr_count_4])), (h_tb, .inr (4, [.ref h_tb_bytes, .int tb_count_5])), (h_tb_bytes, .inl (c_tb_bytes, 2000, .inl tb_bytes_6))]) hP hD [1, 4, 5] [0, 2, 3] rfl rfl (by decide) (by decide) hk1 hFc hP1 hD1
    have hP := hP.sub (ws' := [(h_na, .inr (7, [.ref h_di, .ref h_na_row])), (h_wr, .inr (3, [.ref h_tb, .int wr_keeping, .int wr_count_4])), (h_di, .inr (6, [u_di_widths, u_di_heights, u_di_samples, .int di_count])), (h_na_row, .inl (c_na_row, 16, .inl na_row)), (h_tb, .inr (4, [.ref h_tb_bytes, .int tb_count_5])), (h_tb_bytes, .inl (c_tb_bytes, 2000, .inl tb_bytes_6))]) [0, 3, 1, 2, 4, 5] rfl
    have hD := hD.sub (ws' := [(h_na, .inr (7, [.ref h_di, .ref h_na_row])), (h_wr, .inr (3, [.ref h_tb, .int wr_keeping, .int wr_count_4])), (h_di, .inr (6, [u_di_widths, u_di_heights, u_di_samples, .int di_count])), (h_na_row, .inl (c_na_row, 16, .inl na_row)), (h_tb, .inr (4, [.ref h_tb_bytes, .int tb_count_5])), (h_tb_bytes, .inl (c_tb_bytes, 2000, .inl tb_bytes_6))]) [0, 3, 1, 2, 4, 5] (by decide) rfl
    clear hPc hKc hDc hFc hc9 hP1 hK1 hD1 hk1 hz1 hvm ht
    generalize H1 = H at hP hS ⊢
    try dsimp only at h
    refine lv_aload_n hx hb d_FrontNames_tellName_36 rfl (lv_at hl 1 rfl) ?_
    refine lv_iload_n hx hb d_FrontNames_tellName_37 rfl (lv_at hl 0 rfl) ?_
    obtain ⟨o9, hc9, h⟩ := bd_e h
    have hPc := hP.sub (ws' := [(h_na, .inr (7, [.ref h_di, .ref h_na_row])), (h_na_row, .inl (c_na_row, 16, .inl na_row))]) [0, 3] rfl
    have hKc := hK.sub (tys' := [(c_na_row, .int)]) [0] rfl
    have hDc := hD.sub (ws' := [(h_na, .inr (7, [.ref h_di, .ref h_na_row])), (h_na_row, .inl (c_na_row, 16, .inl na_row))]) [0, 3] (by decide) rfl
    have hFc := va_free (wc := [(h_na, .inr (7, [.ref h_di, .ref h_na_row])), (h_na_row, .inl (c_na_row, 16, .inl na_row))]) hD hS hA [0, 3] rfl
    refine va_callv (va_runV (As := [.int v3_2]) (rest := []) ⟨hx, hb, hml, hown, hB⟩ (c_FrontNames_toFront l dC dI h_na h_na_row c_na_row (.ref h_di) na_row v3_2 _ o9 hc9) (cwV 1 hB (goodA (m4 bw_466 bw_468 bs_26 bw_7) (goodB bw_469)) rfl rfl rfl (by decide +kernel) ⟨Nat.le_of_ble_eq_true rfl, Nat.le_of_ble_eq_true rfl⟩) ⟨fb_m, va_recv hK hP (ci := 7) (q0 := 0) rfl rfl, (pre_m hPc hKc hDc hnw [.ref h_na, .int v3_2])⟩ rfl rfl hl.1 rfl (lv_room (Nat.le_of_ble_eq_true rfl)) d_FrontNames_tellName_38 ⟨Nat.zero_le _, Nat.zero_le _⟩) hS (fun q _ h => hFc q h) hFc (fun u9 t H1 locs ht hvm hw hB hz1 hk1 hS => ?_)
    obtain ⟨na_row_7, rfl⟩ : ∃ z9, z9 = u9 := ⟨_, rfl⟩
    subst hw
    obtain ⟨hP1, hK1, hD1⟩ := hB
    rw [ht] at hP1
    obtain ⟨hP, hD⟩ := va_join (wr := [(h_wr, .inr (3, [.ref h_tb, .int wr_keeping, .int wr_count_4])), (h_di, .inr (6, [u_di_widths, u_di_heights, u_di_samples, .int di_count])), (h_tb, .inr (4, [.ref h_tb_bytes, .int tb_count_5])), (h_tb_bytes, .inl (c_tb_bytes, 2000, .inl tb_bytes_6))]) (w1 := [(h_na, .inr (7, [.ref h_di, .ref h_na_row])), (h_na_row, .inl (c_na_row, 16, .inl na_row_7))]) hP hD [0, 3] [1, 2, 4, 5] rfl rfl (by decide) (by decide) hk1 hFc hP1 hD1
    have hP := hP.sub (ws' := [(h_na, .inr (7, [.ref h_di, .ref h_na_row])), (h_wr, .inr (3, [.ref h_tb, .int wr_keeping, .int wr_count_4])), (h_di, .inr (6, [u_di_widths, u_di_heights, u_di_samples, .int di_count])), (h_na_row, .inl (c_na_row, 16, .inl na_row_7)), (h_tb, .inr (4, [.ref h_tb_bytes, .int tb_count_5])), (h_tb_bytes, .inl (c_tb_bytes, 2000, .inl tb_bytes_6))]) [4, 0, 1, 5, 2, 3] rfl
    have hD := hD.sub (ws' := [(h_na, .inr (7, [.ref h_di, .ref h_na_row])), (h_wr, .inr (3, [.ref h_tb, .int wr_keeping, .int wr_count_4])), (h_di, .inr (6, [u_di_widths, u_di_heights, u_di_samples, .int di_count])), (h_na_row, .inl (c_na_row, 16, .inl na_row_7)), (h_tb, .inr (4, [.ref h_tb_bytes, .int tb_count_5])), (h_tb_bytes, .inl (c_tb_bytes, 2000, .inl tb_bytes_6))]) [4, 0, 1, 5, 2, 3] (by decide) rfl
    clear hPc hKc hDc hFc hc9 hP1 hK1 hD1 hk1 hz1 hvm ht
    generalize H1 = H at hP hS ⊢
    try dsimp only at h
    subst eQ
    exact W.vret hx hb hr (fun t ht hW => ⟨⟨(wr_count_4, na_row_7, tb_count_5, tb_bytes_6), rfl, Option.some.inj h, by rw [ht]; exact hP, va_K.moved hW.alike hK, hD⟩, hS.F ht⟩) hS.2.2 d_FrontNames_tellName_41
  have w_self2 : ∀ n9 : Nat, ∀ (v3_1 : Int32) (H : Heap) (locs : List Loc) (ls : Array Slot), lp (f_FrontNames_tellName_L2 di_count na_row p0 k31) n9 v3_1 = some o → va_P (dC, dI) CL [(h_na, .inr (7, [.ref h_di, .ref h_na_row])), (h_wr, .inr (3, [.ref h_tb, .int wr_keeping, .int wr_count])), (h_di, .inr (6, [u_di_widths, u_di_heights, u_di_samples, .int di_count])), (h_na_row, .inl (c_na_row, 16, .inl na_row)), (h_tb, .inr (4, [.ref h_tb_bytes, .int tb_count])), (h_tb_bytes, .inl (c_tb_bytes, 2000, .inl tb_bytes))] H → va_D A [(h_na, .inr (7, [.ref h_di, .ref h_na_row])), (h_wr, .inr (3, [.ref h_tb, .int wr_keeping, .int wr_count])), (h_di, .inr (6, [u_di_widths, u_di_heights, u_di_samples, .int di_count])), (h_na_row, .inl (c_na_row, 16, .inl na_row)), (h_tb, .inr (4, [.ref h_tb_bytes, .int tb_count])), (h_tb_bytes, .inl (c_tb_bytes, 2000, .inl tb_bytes))] → va_S A s.heap H locs → lv_has ls 4 [(3, .int v3_1), (0, .ref h_na), (1, .int p0), (2, .ref h_wr)] → W p l e ({ frames := 3, cells := 0, slots := 0, locals := 66 } : Room) s m ([.ref h_na, .int p0, .ref h_wr] : List Value).toArray below meth c H locs 0 0 Q9 (F0 m 2 ls []) := by
    intro n9
    induction n9 with
    | zero =>
      intro v3_1 H locs ls h hP hD hS hl
      exact absurd h (by simp [lp])
    | succ n9 ih_self2 =>
      intro v3_1 H locs ls h hP hD hS hl
      obtain ⟨self2, e_self2, h⟩ := abs_k (P := fun z9 => f_FrontNames_tellName_L2 di_count na_row p0 k31 z9 v3_1 = some o) (lp_e h)
      rw [← e_self2] at ih_self2
      unfold f_FrontNames_tellName_L2 at h
      try dsimp only at h
      refine lv_iload_n hx hb d_FrontNames_tellName_2 rfl (lv_at hl 0 rfl) ?_
      refine lv_aload_n hx hb d_FrontNames_tellName_3 rfl (lv_at hl 1 rfl) ?_
      refine va_get (D := (dC, dI)) (ci := 7) (v := .ref h_di) (C := R_FrontNames) (T := T_FrontNames) (N := 2) hx hb hB iw_FrontNames hown hK hP 0 rfl rfl 0 (by decide) (hB _ bw_135) (fun _ h9 => h9) rfl d_FrontNames_tellName_4 ?_
      refine va_getN (D := (dC, dI)) (ci := 6) (v := .int di_count) (C := R_Dictionary) (T := T_Dictionary) (N := 4) hx hb hB iw_Dictionary hown hK hP 2 rfl rfl 3 (by decide) (va_Nw.use rfl (hnw.1 _ bn_56)) (fun _ h9 => h9) rfl d_FrontNames_tellName_7 ?_
      refine lv_iconst (v := 1) hx hb d_FrontNames_tellName_10 (by decide) ?_
      refine lv_isub hx hb d_FrontNames_tellName_11 ?_
      refine lv_icmp_ge (tgt := 31) hx hb d_FrontNames_tellName_12 (by decide) (fun c_1 => ?_) (fun c_1 => ?_)
      · have h := if_t h c_1
        exact w_k31 _ _ _ _ h hP hD hS (lv_sub hl [0, 1, 3] rfl)
      · have h := if_f h c_1
        refine lv_aload_n hx hb d_FrontNames_tellName_15 rfl (lv_at hl 1 rfl) ?_
        refine va_get (D := (dC, dI)) (ci := 7) (v := .ref h_na_row) (C := R_FrontNames) (T := T_FrontNames) (N := 2) hx hb hB iw_FrontNames hown hK hP 0 rfl rfl 1 (by decide) (hB _ bw_136) (fun _ h9 => h9) rfl d_FrontNames_tellName_16 ?_
        refine lv_iload_n hx hb d_FrontNames_tellName_19 rfl (lv_at hl 0 rfl) ?_
        obtain ⟨hin, h⟩ := gq_e h
        refine va_iald hx hb hK hP 3 0 rfl rfl hin d_FrontNames_tellName_20 ?_
        refine lv_iload_n hx hb d_FrontNames_tellName_21 rfl (lv_at hl 2 rfl) ?_
        refine lv_icmp_eq (tgt := 31) hx hb d_FrontNames_tellName_22 (by decide) (fun c_2 => ?_) (fun c_2 => ?_)
        · have h := if_t h c_2
          exact w_k31 _ _ _ _ h hP hD hS (lv_sub hl [0, 1, 3] rfl)
        · have h := if_f h c_2
          obtain ⟨v3_3, e_v3_3⟩ : ∃ y9 : Int32, y9 = (v3_1 + (1 : Int32)) := ⟨_, rfl⟩
          have h := nl_u e_v3_3 h
          refine lv_iinc (v := v3_3) (lv' := [(3, .int v3_3), (0, .ref h_na), (1, .int p0), (2, .ref h_wr)]) hx hb d_FrontNames_tellName_25 hl (k := 0) rfl (by rw [e_v3_3]; rfl) (by decide) rfl (fun ls hl => ?_)
          refine lv_goto (tgt := 2) hx hb d_FrontNames_tellName_28 (by decide) ?_
          exact ih_self2 _ _ _ _ h hP hD hS hl
  exact w_self2 FU _ _ _ _ h hP hD hS hl
set_option maxHeartbeats 4000000 in
set_option maxRecDepth 100000 in
theorem c_FrontNames_readTable (l : Launch) (dC : Nat → ClassId) (dI : Nat → Nat → Nat) (h_na : Nat) (h_rd : Nat) (h_na_row : Nat) (c_na_row : ClassId) (u_na_symbols : Value) (u_rd_row : Value) (u_rd_place : Value) (u_rd_refusal : Value) (na_row : (Nat → Int32)) (p1 : Int32) (sz : Nat) (o : (Nat → Int32)) (hf : f_FrontNames_readTable na_row p1 = some o) :
    Met l y_FrontNames_readTable ws_FrontNames_readTable { frames := 1, cells := 0, slots := 0, locals := 21 } (va_Pc [.ref h_na, .ref h_rd, .int p1] (PcM (dC, dI) [(h_na, .inr (7, [u_na_symbols, .ref h_na_row])), (h_rd, .inr (2, [u_rd_row, u_rd_place, u_rd_refusal])), (h_na_row, .inl (c_na_row, 16, .inl na_row))] [(c_na_row, .int)] sz))
      (va_Qv (fun u : (Nat → Int32) => u = o) (fun u t => va_P (dC, dI) CL [(h_na, .inr (7, [u_na_symbols, .ref h_na_row])), (h_rd, .inr (2, [u_rd_row, u_rd_place, u_rd_refusal])), (h_na_row, .inl (c_na_row, 16, .inl u))] t.heap ∧ va_K (dC, dI) CL [(c_na_row, .int)] t ∧ va_D (va_A [(h_na, .inr (7, [u_na_symbols, .ref h_na_row])), (h_rd, .inr (2, [u_rd_row, u_rd_place, u_rd_refusal])), (h_na_row, .inl (c_na_row, 16, .inl na_row))] sz) [(h_na, .inr (7, [u_na_symbols, .ref h_na_row])), (h_rd, .inr (2, [u_rd_row, u_rd_place, u_rd_refusal])), (h_na_row, .inl (c_na_row, 16, .inl u))]) (va_A [(h_na, .inr (7, [u_na_symbols, .ref h_na_row])), (h_rd, .inr (2, [u_rd_row, u_rd_place, u_rd_refusal])), (h_na_row, .inl (c_na_row, 16, .inl na_row))] sz)) 0 0 (va_A [(h_na, .inr (7, [u_na_symbols, .ref h_na_row])), (h_rd, .inr (2, [u_rd_row, u_rd_place, u_rd_refusal])), (h_na_row, .inl (c_na_row, 16, .inl na_row))] sz) := by
  refine Met.ofW (cc := b_FrontNames_readTable) (maxL := 3) (ret := none) (by decide) rfl ?_
  intro p e s m args below meth c s₁ B hml hv
  obtain ⟨rfl, hsz, hP, hK, hD0, hnw⟩ := hv
  have hx := B.exec
  have hb := B.bytes
  have hr := B.returns
  have hts := atoms_spec (ws := ws_FrontNames_readTable) B.pre
  have hB : ∀ w ∈ BIG, w.before _ s = true := fun w h => hts w (List.mem_cons_of_mem _ h)
  have hown : s.vm.findClass R_FrontNames = some m.cls := findClass_of_methodNamed B.named
  have hlocks := B.notSynchronized
  subst hsz
  have hD := hD0.self (sz := s.heap.size)
  refine W_Q (fun Q9 eQ => ?_)
  generalize hAe : va_A [(h_na, .inr (7, [u_na_symbols, .ref h_na_row])), (h_rd, .inr (2, [u_rd_row, u_rd_place, u_rd_refusal])), (h_na_row, .inl (c_na_row, 16, .inl na_row))] s.heap.size = A at hD eQ
  have hA : ∀ q : Nat, s.heap.size ≤ q → A q := fun q h => by rw [← hAe]; exact Or.inr h
  have hS : va_S A s.heap s.heap [] := va_S.rf
  have hl := lv_entry ([.ref h_na, .ref h_rd, .int p1]) (n := 3) (Nat.le_of_ble_eq_true rfl)
  rw [lg_entry_eq]
  generalize (lg_sl ([.ref h_na, .ref h_rd, .int p1]) ++ List.replicate (3 - (lg_sl ([.ref h_na, .ref h_rd, .int p1])).length) Slot.unset).toArray = ls at hl ⊢
  have hl : lv_has ls 3 [(0, .ref h_na), (1, .ref h_rd), (2, .int p1)] := hl
  have h := hf
  unfold f_FrontNames_readTable at h
  refine lv_aload_n hx hb d_FrontNames_readTable_0 rfl (lv_at hl 0 rfl) ?_
  obtain ⟨o9, hc9, h⟩ := bd_e h
  have hPc := hP.sub (ws' := [(h_na, .inr (7, [u_na_symbols, .ref h_na_row])), (h_na_row, .inl (c_na_row, 16, .inl na_row))]) [0, 2] rfl
  have hKc := hK.sub (tys' := [(c_na_row, .int)]) [0] rfl
  have hDc := hD.sub (ws' := [(h_na, .inr (7, [u_na_symbols, .ref h_na_row])), (h_na_row, .inl (c_na_row, 16, .inl na_row))]) [0, 2] (by decide) rfl
  have hFc := va_free (wc := [(h_na, .inr (7, [u_na_symbols, .ref h_na_row])), (h_na_row, .inl (c_na_row, 16, .inl na_row))]) hD hS hA [0, 2] rfl
  refine va_callv (va_runV (As := []) (rest := []) ⟨hx, hb, hml, hown, hB⟩ (c_FrontNames_putByNumber l dC dI h_na h_na_row c_na_row u_na_symbols na_row _ o9 hc9) (cwV 0 hB (goodA (m4 bw_433 bw_435 bs_22 bw_7) (goodB bw_436)) rfl rfl rfl (by decide +kernel) ⟨Nat.le_of_ble_eq_true rfl, Nat.le_of_ble_eq_true rfl⟩) ⟨fb_m, va_recv hK hP (ci := 7) (q0 := 0) rfl rfl, (pre_m hPc hKc hDc hnw [.ref h_na])⟩ rfl rfl hl.1 rfl (lv_room (Nat.le_of_ble_eq_true rfl)) d_FrontNames_readTable_1 ⟨Nat.zero_le _, Nat.zero_le _⟩) hS (fun q _ h => hFc q h) hFc (fun u9 t H1 locs ht hvm hw hB hz1 hk1 hS => ?_)
  obtain ⟨na_row_1, rfl⟩ : ∃ z9, z9 = u9 := ⟨_, rfl⟩
  subst hw
  obtain ⟨hP1, hK1, hD1⟩ := hB
  rw [ht] at hP1
  obtain ⟨hP, hD⟩ := va_join (wr := [(h_rd, .inr (2, [u_rd_row, u_rd_place, u_rd_refusal]))]) (w1 := [(h_na, .inr (7, [u_na_symbols, .ref h_na_row])), (h_na_row, .inl (c_na_row, 16, .inl na_row_1))]) hP hD [0, 2] [1] rfl rfl (by decide) (by decide) hk1 hFc hP1 hD1
  have hP := hP.sub (ws' := [(h_na, .inr (7, [u_na_symbols, .ref h_na_row])), (h_rd, .inr (2, [u_rd_row, u_rd_place, u_rd_refusal])), (h_na_row, .inl (c_na_row, 16, .inl na_row_1))]) [1, 0, 2] rfl
  have hD := hD.sub (ws' := [(h_na, .inr (7, [u_na_symbols, .ref h_na_row])), (h_rd, .inr (2, [u_rd_row, u_rd_place, u_rd_refusal])), (h_na_row, .inl (c_na_row, 16, .inl na_row_1))]) [1, 0, 2] (by decide) rfl
  clear hPc hKc hDc hFc hc9 hP1 hK1 hD1 hk1 hz1 hvm ht
  generalize H1 = H at hP hS ⊢
  try dsimp only at h
  subst eQ
  exact W.vret hx hb hr (fun t ht hW => ⟨⟨na_row_1, rfl, Option.some.inj h, by rw [ht]; exact hP, va_K.moved hW.alike hK, hD⟩, hS.F ht⟩) hS.2.2 d_FrontNames_readTable_4
set_option maxHeartbeats 4000000 in
set_option maxRecDepth 100000 in
theorem c_FrontNames_readName (l : Launch) (dC : Nat → ClassId) (dI : Nat → Nat → Nat) (h_na : Nat) (h_rd : Nat) (h_cb : Nat) (h_cb_bytes : Nat) (h_di : Nat) (h_na_row : Nat) (c_cb_bytes : ClassId) (c_na_row : ClassId) (u_di_widths : Value) (u_di_heights : Value) (u_di_samples : Value) (rd_place : Int32) (rd_refusal : Int32) (cb_count : Int32) (cb_bytes : (Nat → Int32)) (di_count : Int32) (na_row : (Nat → Int32)) (sz : Nat) (o : Int32 × Int32 × Int32 × (Nat → Int32)) (hf : f_FrontNames_readName rd_place rd_refusal cb_count cb_bytes di_count na_row = some o) :
    Met l y_FrontNames_readName ws_FrontNames_readName { frames := 2, cells := 0, slots := 0, locals := 44 } (va_Pc [.ref h_na, .ref h_rd] (PcM (dC, dI) [(h_na, .inr (7, [.ref h_di, .ref h_na_row])), (h_rd, .inr (2, [.ref h_cb, .int rd_place, .int rd_refusal])), (h_cb, .inr (4, [.ref h_cb_bytes, .int cb_count])), (h_cb_bytes, .inl (c_cb_bytes, 2000, .inl cb_bytes)), (h_di, .inr (6, [u_di_widths, u_di_heights, u_di_samples, .int di_count])), (h_na_row, .inl (c_na_row, 16, .inl na_row))] [(c_cb_bytes, .int), (c_na_row, .int)] sz))
      (va_Qi (fun (r : Int32) (u : Int32 × Int32 × (Nat → Int32)) => (r, u) = o) (fun u t => va_P (dC, dI) CL [(h_na, .inr (7, [.ref h_di, .ref h_na_row])), (h_rd, .inr (2, [.ref h_cb, .int (u.1), .int (u.2.1)])), (h_cb, .inr (4, [.ref h_cb_bytes, .int cb_count])), (h_cb_bytes, .inl (c_cb_bytes, 2000, .inl cb_bytes)), (h_di, .inr (6, [u_di_widths, u_di_heights, u_di_samples, .int di_count])), (h_na_row, .inl (c_na_row, 16, .inl (u.2.2)))] t.heap ∧ va_K (dC, dI) CL [(c_cb_bytes, .int), (c_na_row, .int)] t ∧ va_D (va_A [(h_na, .inr (7, [.ref h_di, .ref h_na_row])), (h_rd, .inr (2, [.ref h_cb, .int rd_place, .int rd_refusal])), (h_cb, .inr (4, [.ref h_cb_bytes, .int cb_count])), (h_cb_bytes, .inl (c_cb_bytes, 2000, .inl cb_bytes)), (h_di, .inr (6, [u_di_widths, u_di_heights, u_di_samples, .int di_count])), (h_na_row, .inl (c_na_row, 16, .inl na_row))] sz) [(h_na, .inr (7, [.ref h_di, .ref h_na_row])), (h_rd, .inr (2, [.ref h_cb, .int (u.1), .int (u.2.1)])), (h_cb, .inr (4, [.ref h_cb_bytes, .int cb_count])), (h_cb_bytes, .inl (c_cb_bytes, 2000, .inl cb_bytes)), (h_di, .inr (6, [u_di_widths, u_di_heights, u_di_samples, .int di_count])), (h_na_row, .inl (c_na_row, 16, .inl (u.2.2)))]) (va_A [(h_na, .inr (7, [.ref h_di, .ref h_na_row])), (h_rd, .inr (2, [.ref h_cb, .int rd_place, .int rd_refusal])), (h_cb, .inr (4, [.ref h_cb_bytes, .int cb_count])), (h_cb_bytes, .inl (c_cb_bytes, 2000, .inl cb_bytes)), (h_di, .inr (6, [u_di_widths, u_di_heights, u_di_samples, .int di_count])), (h_na_row, .inl (c_na_row, 16, .inl na_row))] sz)) 0 0 (va_A [(h_na, .inr (7, [.ref h_di, .ref h_na_row])), (h_rd, .inr (2, [.ref h_cb, .int rd_place, .int rd_refusal])), (h_cb, .inr (4, [.ref h_cb_bytes, .int cb_count])), (h_cb_bytes, .inl (c_cb_bytes, 2000, .inl cb_bytes)), (h_di, .inr (6, [u_di_widths, u_di_heights, u_di_samples, .int di_count])), (h_na_row, .inl (c_na_row, 16, .inl na_row))] sz) := by
  refine Met.ofW (cc := b_FrontNames_readName) (maxL := 3) (ret := (some .int)) (by decide) rfl ?_
  intro p e s m args below meth c s₁ B hml hv
  obtain ⟨rfl, hsz, hP, hK, hD0, hnw⟩ := hv
  have hx := B.exec
  have hb := B.bytes
  have hr := B.returns
  have hts := atoms_spec (ws := ws_FrontNames_readName) B.pre
  have hB : ∀ w ∈ BIG, w.before _ s = true := fun w h => hts w (List.mem_cons_of_mem _ h)
  have hown : s.vm.findClass R_FrontNames = some m.cls := findClass_of_methodNamed B.named
  have hlocks := B.notSynchronized
  subst hsz
  have hD := hD0.self (sz := s.heap.size)
  refine W_Q (fun Q9 eQ => ?_)
  generalize hAe : va_A [(h_na, .inr (7, [.ref h_di, .ref h_na_row])), (h_rd, .inr (2, [.ref h_cb, .int rd_place, .int rd_refusal])), (h_cb, .inr (4, [.ref h_cb_bytes, .int cb_count])), (h_cb_bytes, .inl (c_cb_bytes, 2000, .inl cb_bytes)), (h_di, .inr (6, [u_di_widths, u_di_heights, u_di_samples, .int di_count])), (h_na_row, .inl (c_na_row, 16, .inl na_row))] s.heap.size = A at hD eQ
  have hA : ∀ q : Nat, s.heap.size ≤ q → A q := fun q h => by rw [← hAe]; exact Or.inr h
  have hS : va_S A s.heap s.heap [] := va_S.rf
  have hl := lv_entry ([.ref h_na, .ref h_rd]) (n := 3) (Nat.le_of_ble_eq_true rfl)
  rw [lg_entry_eq]
  generalize (lg_sl ([.ref h_na, .ref h_rd]) ++ List.replicate (3 - (lg_sl ([.ref h_na, .ref h_rd])).length) Slot.unset).toArray = ls at hl ⊢
  have hl : lv_has ls 3 [(0, .ref h_na), (1, .ref h_rd)] := hl
  have h := hf
  unfold f_FrontNames_readName at h
  refine lv_aload_n hx hb d_FrontNames_readName_0 rfl (lv_at hl 1 rfl) ?_
  obtain ⟨o9, hc9, h⟩ := bd_e h
  have hPc := hP.sub (ws' := [(h_rd, .inr (2, [.ref h_cb, .int rd_place, .int rd_refusal])), (h_cb, .inr (4, [.ref h_cb_bytes, .int cb_count])), (h_cb_bytes, .inl (c_cb_bytes, 2000, .inl cb_bytes))]) [1, 2, 3] rfl
  have hKc := hK.sub (tys' := [(c_cb_bytes, .int)]) [0] rfl
  have hDc := hD.sub (ws' := [(h_rd, .inr (2, [.ref h_cb, .int rd_place, .int rd_refusal])), (h_cb, .inr (4, [.ref h_cb_bytes, .int cb_count])), (h_cb_bytes, .inl (c_cb_bytes, 2000, .inl cb_bytes))]) [1, 2, 3] (by decide) rfl
  have hFc := va_free (wc := [(h_rd, .inr (2, [.ref h_cb, .int rd_place, .int rd_refusal])), (h_cb, .inr (4, [.ref h_cb_bytes, .int cb_count])), (h_cb_bytes, .inl (c_cb_bytes, 2000, .inl cb_bytes))]) hD hS hA [1, 2, 3] rfl
  refine va_calli (va_runVN (As := []) (rest := []) ⟨hx, hb, hml, hown, hB⟩ (c_BitReader_nextNumber l dC dI h_rd h_cb h_cb_bytes c_cb_bytes rd_place rd_refusal cb_count cb_bytes _ o9 hc9) ⟨va_cnB 0 hB (goodB bw_513) rfl rfl rfl (hnw.1 _ bn_590) (hB _ bw_11) (by decide +kernel) ⟨Nat.le_of_ble_eq_true rfl, Nat.le_of_ble_eq_true rfl⟩, hB _ bw_512, hB _ bs_33⟩ ⟨fb_m, va_recv hK hP (ci := 2) (q0 := 1) rfl rfl, (pre_m hPc hKc hDc hnw [.ref h_rd])⟩ rfl rfl hl.1 rfl (lv_room (Nat.le_of_ble_eq_true rfl)) d_FrontNames_readName_1 ⟨Nat.zero_le _, Nat.zero_le _⟩) hS (fun q _ h => hFc q h) hFc (fun r_1 u9 t H1 locs ht hvm hw hB hz1 hk1 hS => ?_)
  obtain ⟨rd_place_2, rd_refusal_3⟩ := u9
  subst hw
  obtain ⟨hP1, hK1, hD1⟩ := hB
  rw [ht] at hP1
  obtain ⟨hP, hD⟩ := va_join (wr := [(h_na, .inr (7, [.ref h_di, .ref h_na_row])), (h_di, .inr (6, [u_di_widths, u_di_heights, u_di_samples, .int di_count])), (h_na_row, .inl (c_na_row, 16, .inl na_row))]) (w1 := [(h_rd, .inr (2, [.ref h_cb, .int rd_place_2, .int rd_refusal_3])), (h_cb, .inr (4, [.ref h_cb_bytes, .int cb_count])), (h_cb_bytes, .inl (c_cb_bytes, 2000, .inl cb_bytes))]) hP hD [1, 2, 3] [0, 4, 5] rfl rfl (by decide) (by decide) hk1 hFc hP1 hD1
  have hP := hP.sub (ws' := [(h_na, .inr (7, [.ref h_di, .ref h_na_row])), (h_rd, .inr (2, [.ref h_cb, .int rd_place_2, .int rd_refusal_3])), (h_cb, .inr (4, [.ref h_cb_bytes, .int cb_count])), (h_cb_bytes, .inl (c_cb_bytes, 2000, .inl cb_bytes)), (h_di, .inr (6, [u_di_widths, u_di_heights, u_di_samples, .int di_count])), (h_na_row, .inl (c_na_row, 16, .inl na_row))]) [0, 3, 4, 5, 1, 2] rfl
  have hD := hD.sub (ws' := [(h_na, .inr (7, [.ref h_di, .ref h_na_row])), (h_rd, .inr (2, [.ref h_cb, .int rd_place_2, .int rd_refusal_3])), (h_cb, .inr (4, [.ref h_cb_bytes, .int cb_count])), (h_cb_bytes, .inl (c_cb_bytes, 2000, .inl cb_bytes)), (h_di, .inr (6, [u_di_widths, u_di_heights, u_di_samples, .int di_count])), (h_na_row, .inl (c_na_row, 16, .inl na_row))]) [0, 3, 4, 5, 1, 2] (by decide) rfl
  clear hPc hKc hDc hFc hc9 hP1 hK1 hD1 hk1 hz1 hvm ht
  generalize H1 = H at hP hS ⊢
  try dsimp only at h
  refine lv_istore_n (lv' := [(2, .int r_1), (0, .ref h_na), (1, .ref h_rd)]) hx hb d_FrontNames_readName_4 rfl hl (by decide) rfl (fun ls hl => ?_)
  refine lv_aload_n hx hb d_FrontNames_readName_5 rfl (lv_at hl 2 rfl) ?_
  obtain ⟨o9, hc9, h⟩ := bd_e h
  have hPc := hP.sub (ws' := [(h_rd, .inr (2, [.ref h_cb, .int rd_place_2, .int rd_refusal_3]))]) [1] rfl
  have hKc := hK.sub (tys' := []) [] rfl
  refine vp_callSi (va_Run.run (va_runVN (As := []) (rest := []) ⟨hx, hb, hml, hown, hB⟩ (c_BitReader_isRefused l dC dI h_rd (.ref h_cb) (.int rd_place_2) rd_refusal_3 o9 hc9) ⟨va_cnB 0 hB (goodB bw_559) rfl rfl rfl (hnw.1 _ bn_591) (hB _ bw_11) (by decide +kernel) ⟨Nat.le_of_ble_eq_true rfl, Nat.le_of_ble_eq_true rfl⟩, hB _ bw_558, hB _ bs_39⟩ ⟨fb_p, va_recv hK hP (ci := 2) (q0 := 1) rfl rfl, (pre_p hPc hKc hnw [.ref h_rd])⟩ rfl rfl hl.1 rfl (lv_room (Nat.le_of_ble_eq_true rfl)) d_FrontNames_readName_6 ⟨Nat.zero_le _, Nat.zero_le _⟩)) (fun r_4 e_r_4 => ?_)
  subst e_r_4
  clear hPc hKc hc9
  refine lv_if_eq (tgt := 14) hx hb d_FrontNames_readName_9 (by decide) (fun c_1 => ?_) (fun c_1 => ?_)
  · have h := if_t h c_1
    refine lv_iload_n hx hb d_FrontNames_readName_14 rfl (lv_at hl 0 rfl) ?_
    refine lv_aload_n hx hb d_FrontNames_readName_15 rfl (lv_at hl 1 rfl) ?_
    refine va_get (D := (dC, dI)) (ci := 7) (v := .ref h_di) (C := R_FrontNames) (T := T_FrontNames) (N := 2) hx hb hB iw_FrontNames hown hK hP 0 rfl rfl 0 (by decide) (hB _ bw_135) (fun _ h9 => h9) rfl d_FrontNames_readName_16 ?_
    refine va_getN (D := (dC, dI)) (ci := 6) (v := .int di_count) (C := R_Dictionary) (T := T_Dictionary) (N := 4) hx hb hB iw_Dictionary hown hK hP 4 rfl rfl 3 (by decide) (va_Nw.use rfl (hnw.1 _ bn_56)) (fun _ h9 => h9) rfl d_FrontNames_readName_19 ?_
    refine lv_icmp_lt (tgt := 32) hx hb d_FrontNames_readName_22 (by decide) (fun c_2 => ?_) (fun c_2 => ?_)
    · have h := if_t h c_2
      refine lv_aload_n hx hb d_FrontNames_readName_32 rfl (lv_at hl 1 rfl) ?_
      refine lv_iload_n hx hb d_FrontNames_readName_33 rfl (lv_at hl 0 rfl) ?_
      obtain ⟨o9, hc9, h⟩ := bd_e h
      have hPc := hP.sub (ws' := [(h_na, .inr (7, [.ref h_di, .ref h_na_row])), (h_na_row, .inl (c_na_row, 16, .inl na_row))]) [0, 5] rfl
      have hKc := hK.sub (tys' := [(c_na_row, .int)]) [1] rfl
      have hDc := hD.sub (ws' := [(h_na, .inr (7, [.ref h_di, .ref h_na_row])), (h_na_row, .inl (c_na_row, 16, .inl na_row))]) [0, 5] (by decide) rfl
      have hFc := va_free (wc := [(h_na, .inr (7, [.ref h_di, .ref h_na_row])), (h_na_row, .inl (c_na_row, 16, .inl na_row))]) hD hS hA [0, 5] rfl
      refine va_callv (va_runV (As := [.int r_1]) (rest := []) ⟨hx, hb, hml, hown, hB⟩ (c_FrontNames_toFront l dC dI h_na h_na_row c_na_row (.ref h_di) na_row r_1 _ o9 hc9) (cwV 1 hB (goodA (m4 bw_466 bw_468 bs_26 bw_7) (goodB bw_469)) rfl rfl rfl (by decide +kernel) ⟨Nat.le_of_ble_eq_true rfl, Nat.le_of_ble_eq_true rfl⟩) ⟨fb_m, va_recv hK hP (ci := 7) (q0 := 0) rfl rfl, (pre_m hPc hKc hDc hnw [.ref h_na, .int r_1])⟩ rfl rfl hl.1 rfl (lv_room (Nat.le_of_ble_eq_true rfl)) d_FrontNames_readName_34 ⟨Nat.zero_le _, Nat.zero_le _⟩) hS (fun q _ h => hFc q h) hFc (fun u9 t H1 locs ht hvm hw hB hz1 hk1 hS => ?_)
      obtain ⟨na_row_5, rfl⟩ : ∃ z9, z9 = u9 := ⟨_, rfl⟩
      subst hw
      obtain ⟨hP1, hK1, hD1⟩ := hB
      rw [ht] at hP1
      obtain ⟨hP, hD⟩ := va_join (wr := [(h_rd, .inr (2, [.ref h_cb, .int rd_place_2, .int rd_refusal_3])), (h_cb, .inr (4, [.ref h_cb_bytes, .int cb_count])), (h_cb_bytes, .inl (c_cb_bytes, 2000, .inl cb_bytes)), (h_di, .inr (6, [u_di_widths, u_di_heights, u_di_samples, .int di_count]))]) (w1 := [(h_na, .inr (7, [.ref h_di, .ref h_na_row])), (h_na_row, .inl (c_na_row, 16, .inl na_row_5))]) hP hD [0, 5] [1, 2, 3, 4] rfl rfl (by decide) (by decide) hk1 hFc hP1 hD1
      have hP := hP.sub (ws' := [(h_na, .inr (7, [.ref h_di, .ref h_na_row])), (h_rd, .inr (2, [.ref h_cb, .int rd_place_2, .int rd_refusal_3])), (h_cb, .inr (4, [.ref h_cb_bytes, .int cb_count])), (h_cb_bytes, .inl (c_cb_bytes, 2000, .inl cb_bytes)), (h_di, .inr (6, [u_di_widths, u_di_heights, u_di_samples, .int di_count])), (h_na_row, .inl (c_na_row, 16, .inl na_row_5))]) [4, 0, 1, 2, 3, 5] rfl
      have hD := hD.sub (ws' := [(h_na, .inr (7, [.ref h_di, .ref h_na_row])), (h_rd, .inr (2, [.ref h_cb, .int rd_place_2, .int rd_refusal_3])), (h_cb, .inr (4, [.ref h_cb_bytes, .int cb_count])), (h_cb_bytes, .inl (c_cb_bytes, 2000, .inl cb_bytes)), (h_di, .inr (6, [u_di_widths, u_di_heights, u_di_samples, .int di_count])), (h_na_row, .inl (c_na_row, 16, .inl na_row_5))]) [4, 0, 1, 2, 3, 5] (by decide) rfl
      clear hPc hKc hDc hFc hc9 hP1 hK1 hD1 hk1 hz1 hvm ht
      generalize H1 = H at hP hS ⊢
      try dsimp only at h
      refine lv_aload_n hx hb d_FrontNames_readName_37 rfl (lv_at hl 1 rfl) ?_
      refine va_get (D := (dC, dI)) (ci := 7) (v := .ref h_na_row) (C := R_FrontNames) (T := T_FrontNames) (N := 2) hx hb hB iw_FrontNames hown hK hP 0 rfl rfl 1 (by decide) (hB _ bw_136) (fun _ h9 => h9) rfl d_FrontNames_readName_38 ?_
      refine lv_iconst (v := 0) hx hb d_FrontNames_readName_41 (by decide) ?_
      obtain ⟨hin, h⟩ := gq_e h
      refine va_iald hx hb hK hP 5 1 rfl rfl hin d_FrontNames_readName_42 ?_
      subst eQ
      exact W.iret (v := (na_row_5 ((0 : Int32)).toNatClampNeg)) hx hb hr (fun t ht hW => ⟨⟨_, (rd_place_2, rd_refusal_3, na_row_5), rfl, Option.some.inj h, by rw [ht]; exact hP, va_K.moved hW.alike hK, hD⟩, hS.F ht⟩) hS.2.2 d_FrontNames_readName_43
    · have h := if_f h c_2
      refine lv_aload_n hx hb d_FrontNames_readName_25 rfl (lv_at hl 2 rfl) ?_
      refine lv_iconst (v := 5) hx hb d_FrontNames_readName_26 (by decide) ?_
      obtain ⟨o9, hc9, h⟩ := bd_e h
      have hPc := hP.sub (ws' := [(h_rd, .inr (2, [.ref h_cb, .int rd_place_2, .int rd_refusal_3]))]) [1] rfl
      have hKc := hK.sub (tys' := []) [] rfl
      have hDc := hD.sub (ws' := [(h_rd, .inr (2, [.ref h_cb, .int rd_place_2, .int rd_refusal_3]))]) [1] (by decide) rfl
      have hFc := va_free (wc := [(h_rd, .inr (2, [.ref h_cb, .int rd_place_2, .int rd_refusal_3]))]) hD hS hA [1] rfl
      refine va_callv (va_runVN (As := [.int (5 : Int32)]) (rest := []) ⟨hx, hb, hml, hown, hB⟩ (c_BitReader_refuse l dC dI h_rd (.ref h_cb) (.int rd_place_2) rd_refusal_3 (5 : Int32) _ o9 hc9) ⟨va_cnB 1 hB (goodB bw_521) rfl rfl rfl (hnw.1 _ bn_592) (hB _ bw_11) (by decide +kernel) ⟨Nat.le_of_ble_eq_true rfl, Nat.le_of_ble_eq_true rfl⟩, hB _ bw_520, hB _ bs_35⟩ ⟨fb_m, va_recv hK hP (ci := 2) (q0 := 1) rfl rfl, (pre_m hPc hKc hDc hnw [.ref h_rd, .int (5 : Int32)])⟩ rfl rfl hl.1 rfl (lv_room (Nat.le_of_ble_eq_true rfl)) d_FrontNames_readName_27 ⟨Nat.zero_le _, Nat.zero_le _⟩) hS (fun q _ h => hFc q h) hFc (fun u9 t H1 locs ht hvm hw hB hz1 hk1 hS => ?_)
      obtain ⟨rd_refusal_6, rfl⟩ : ∃ z9, z9 = u9 := ⟨_, rfl⟩
      subst hw
      obtain ⟨hP1, hK1, hD1⟩ := hB
      rw [ht] at hP1
      obtain ⟨hP, hD⟩ := va_join (wr := [(h_na, .inr (7, [.ref h_di, .ref h_na_row])), (h_cb, .inr (4, [.ref h_cb_bytes, .int cb_count])), (h_cb_bytes, .inl (c_cb_bytes, 2000, .inl cb_bytes)), (h_di, .inr (6, [u_di_widths, u_di_heights, u_di_samples, .int di_count])), (h_na_row, .inl (c_na_row, 16, .inl na_row))]) (w1 := [(h_rd, .inr (2, [.ref h_cb, .int rd_place_2, .int rd_refusal_6]))]) hP hD [1] [0, 2, 3, 4, 5] rfl rfl (by decide) (by decide) hk1 hFc hP1 hD1
      have hP := hP.sub (ws' := [(h_na, .inr (7, [.ref h_di, .ref h_na_row])), (h_rd, .inr (2, [.ref h_cb, .int rd_place_2, .int rd_refusal_6])), (h_cb, .inr (4, [.ref h_cb_bytes, .int cb_count])), (h_cb_bytes, .inl (c_cb_bytes, 2000, .inl cb_bytes)), (h_di, .inr (6, [u_di_widths, u_di_heights, u_di_samples, .int di_count])), (h_na_row, .inl (c_na_row, 16, .inl na_row))]) [0, 5, 1, 2, 3, 4] rfl
      have hD := hD.sub (ws' := [(h_na, .inr (7, [.ref h_di, .ref h_na_row])), (h_rd, .inr (2, [.ref h_cb, .int rd_place_2, .int rd_refusal_6])), (h_cb, .inr (4, [.ref h_cb_bytes, .int cb_count])), (h_cb_bytes, .inl (c_cb_bytes, 2000, .inl cb_bytes)), (h_di, .inr (6, [u_di_widths, u_di_heights, u_di_samples, .int di_count])), (h_na_row, .inl (c_na_row, 16, .inl na_row))]) [0, 5, 1, 2, 3, 4] (by decide) rfl
      clear hPc hKc hDc hFc hc9 hP1 hK1 hD1 hk1 hz1 hvm ht
      generalize H1 = H at hP hS ⊢
      try dsimp only at h
      refine lv_iconst (v := 0) hx hb d_FrontNames_readName_30 (by decide) ?_
      subst eQ
      exact W.iret (v := (0 : Int32)) hx hb hr (fun t ht hW => ⟨⟨_, (rd_place_2, rd_refusal_6, na_row), rfl, Option.some.inj h, by rw [ht]; exact hP, va_K.moved hW.alike hK, hD⟩, hS.F ht⟩) hS.2.2 d_FrontNames_readName_31
  · have h := if_f h c_1
    refine lv_iconst (v := 0) hx hb d_FrontNames_readName_12 (by decide) ?_
    subst eQ
    exact W.iret (v := (0 : Int32)) hx hb hr (fun t ht hW => ⟨⟨_, (rd_place_2, rd_refusal_3, na_row), rfl, Option.some.inj h, by rw [ht]; exact hP, va_K.moved hW.alike hK, hD⟩, hS.F ht⟩) hS.2.2 d_FrontNames_readName_13
