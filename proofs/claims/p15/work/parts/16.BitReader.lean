set_option maxHeartbeats 4000000 in
set_option maxRecDepth 100000 in
theorem c_BitReader_start (l : Launch) (dC : Nat → ClassId) (dI : Nat → Nat → Nat) (h_rd : Nat) (u_rd_row : Value) (rd_place : Int32) (rd_refusal : Int32) (sz : Nat) (o : Int32 × Int32) (hf : f_BitReader_start  = some o) :
    Met l y_BitReader_start ws_BitReader_start { frames := 0, cells := 0, slots := 0, locals := 0 } (va_Pc [.ref h_rd] (PcM (dC, dI) [(h_rd, .inr (2, [u_rd_row, .int rd_place, .int rd_refusal]))] [] sz))
      (va_Qv (fun u : Int32 × Int32 => u = o) (fun u t => va_P (dC, dI) CL [(h_rd, .inr (2, [u_rd_row, .int (u.1), .int (u.2)]))] t.heap ∧ va_K (dC, dI) CL [] t ∧ va_D (va_A [(h_rd, .inr (2, [u_rd_row, .int rd_place, .int rd_refusal]))] sz) [(h_rd, .inr (2, [u_rd_row, .int (u.1), .int (u.2)]))]) (va_A [(h_rd, .inr (2, [u_rd_row, .int rd_place, .int rd_refusal]))] sz)) 0 0 (va_A [(h_rd, .inr (2, [u_rd_row, .int rd_place, .int rd_refusal]))] sz) := by
  refine Met.ofW (cc := b_BitReader_start) (maxL := 1) (ret := none) (by decide) rfl ?_
  intro p e s m args below meth c s₁ B hml hv
  obtain ⟨rfl, hsz, hP, hK, hD0, hnw⟩ := hv
  have hx := B.exec
  have hb := B.bytes
  have hr := B.returns
  have hts := atoms_spec (ws := ws_BitReader_start) B.pre
  have hB : ∀ w ∈ BIG, w.before _ s = true := fun w h => hts w (List.mem_cons_of_mem _ h)
  have hown : s.vm.findClass R_BitReader = some m.cls := findClass_of_methodNamed B.named
  have hlocks := B.notSynchronized
  subst hsz
  have hD := hD0.self (sz := s.heap.size)
  refine W_Q (fun Q9 eQ => ?_)
  generalize hAe : va_A [(h_rd, .inr (2, [u_rd_row, .int rd_place, .int rd_refusal]))] s.heap.size = A at hD eQ
  have hA : ∀ q : Nat, s.heap.size ≤ q → A q := fun q h => by rw [← hAe]; exact Or.inr h
  have hS : va_S A s.heap s.heap [] := va_S.rf
  have hl := lv_entry ([.ref h_rd]) (n := 1) (Nat.le_of_ble_eq_true rfl)
  rw [lg_entry_eq]
  generalize (lg_sl ([.ref h_rd]) ++ List.replicate (1 - (lg_sl ([.ref h_rd])).length) Slot.unset).toArray = ls at hl ⊢
  have hl : lv_has ls 1 [(0, .ref h_rd)] := hl
  have h := hf
  unfold f_BitReader_start at h
  refine lv_aload_n hx hb d_BitReader_start_0 rfl (lv_at hl 0 rfl) ?_
  refine lv_iconst (v := 0) hx hb d_BitReader_start_1 (by decide) ?_
  refine va_put (D := (dC, dI)) (ci := 2) (v := .int (0 : Int32)) (ty := .int) (C := R_BitReader) (T := T_BitReader) (N := 3) hx hb hB iw_BitReader ty_BitReader tk_BitReader n_BitReader hown hK hP hD hS 0 rfl rfl 1 (by decide) (hB _ bw_181) (fun _ h9 => h9) rfl (by decide +kernel) rfl rfl (Nat.le_of_ble_eq_true rfl) d_BitReader_start_2 (fun H locs hP hD hS => ?_)
  have hP : va_P (dC, dI) CL [(h_rd, .inr (2, [u_rd_row, .int (0 : Int32), .int rd_refusal]))] H := hP
  have hD : va_D A [(h_rd, .inr (2, [u_rd_row, .int (0 : Int32), .int rd_refusal]))] := hD
  refine lv_aload_n hx hb d_BitReader_start_5 rfl (lv_at hl 0 rfl) ?_
  refine lv_iconst (v := 0) hx hb d_BitReader_start_6 (by decide) ?_
  refine va_put (D := (dC, dI)) (ci := 2) (v := .int (0 : Int32)) (ty := .int) (C := R_BitReader) (T := T_BitReader) (N := 3) hx hb hB iw_BitReader ty_BitReader tk_BitReader n_BitReader hown hK hP hD hS 0 rfl rfl 2 (by decide) (hB _ bw_183) (fun _ h9 => h9) rfl (by decide +kernel) rfl rfl (Nat.le_of_ble_eq_true rfl) d_BitReader_start_7 (fun H locs hP hD hS => ?_)
  have hP : va_P (dC, dI) CL [(h_rd, .inr (2, [u_rd_row, .int (0 : Int32), .int (0 : Int32)]))] H := hP
  have hD : va_D A [(h_rd, .inr (2, [u_rd_row, .int (0 : Int32), .int (0 : Int32)]))] := hD
  subst eQ
  exact W.vret hx hb hr (fun t ht hW => ⟨⟨((0 : Int32), (0 : Int32)), rfl, Option.some.inj h, by rw [ht]; exact hP, va_K.moved hW.alike hK, hD⟩, hS.F ht⟩) hS.2.2 d_BitReader_start_10
set_option maxHeartbeats 4000000 in
set_option maxRecDepth 100000 in
theorem c_BitReader_refuse (l : Launch) (dC : Nat → ClassId) (dI : Nat → Nat → Nat) (h_rd : Nat) (u_rd_row : Value) (u_rd_place : Value) (rd_refusal : Int32) (p0 : Int32) (sz : Nat) (o : Int32) (hf : f_BitReader_refuse rd_refusal p0 = some o) :
    Met l y_BitReader_refuse ws_BitReader_refuse { frames := 0, cells := 0, slots := 0, locals := 0 } (va_Pc [.ref h_rd, .int p0] (PcM (dC, dI) [(h_rd, .inr (2, [u_rd_row, u_rd_place, .int rd_refusal]))] [] sz))
      (va_Qv (fun u : Int32 => u = o) (fun u t => va_P (dC, dI) CL [(h_rd, .inr (2, [u_rd_row, u_rd_place, .int (u)]))] t.heap ∧ va_K (dC, dI) CL [] t ∧ va_D (va_A [(h_rd, .inr (2, [u_rd_row, u_rd_place, .int rd_refusal]))] sz) [(h_rd, .inr (2, [u_rd_row, u_rd_place, .int (u)]))]) (va_A [(h_rd, .inr (2, [u_rd_row, u_rd_place, .int rd_refusal]))] sz)) 0 0 (va_A [(h_rd, .inr (2, [u_rd_row, u_rd_place, .int rd_refusal]))] sz) := by
  refine Met.ofW (cc := b_BitReader_refuse) (maxL := 2) (ret := none) (by decide) rfl ?_
  intro p e s m args below meth c s₁ B hml hv
  obtain ⟨rfl, hsz, hP, hK, hD0, hnw⟩ := hv
  have hx := B.exec
  have hb := B.bytes
  have hr := B.returns
  have hts := atoms_spec (ws := ws_BitReader_refuse) B.pre
  have hB : ∀ w ∈ BIG, w.before _ s = true := fun w h => hts w (List.mem_cons_of_mem _ h)
  have hown : s.vm.findClass R_BitReader = some m.cls := findClass_of_methodNamed B.named
  have hlocks := B.notSynchronized
  subst hsz
  have hD := hD0.self (sz := s.heap.size)
  refine W_Q (fun Q9 eQ => ?_)
  generalize hAe : va_A [(h_rd, .inr (2, [u_rd_row, u_rd_place, .int rd_refusal]))] s.heap.size = A at hD eQ
  have hA : ∀ q : Nat, s.heap.size ≤ q → A q := fun q h => by rw [← hAe]; exact Or.inr h
  have hS : va_S A s.heap s.heap [] := va_S.rf
  have hl := lv_entry ([.ref h_rd, .int p0]) (n := 2) (Nat.le_of_ble_eq_true rfl)
  rw [lg_entry_eq]
  generalize (lg_sl ([.ref h_rd, .int p0]) ++ List.replicate (2 - (lg_sl ([.ref h_rd, .int p0])).length) Slot.unset).toArray = ls at hl ⊢
  have hl : lv_has ls 2 [(0, .ref h_rd), (1, .int p0)] := hl
  have h := hf
  unfold f_BitReader_refuse at h
  refine lv_aload_n hx hb d_BitReader_refuse_0 rfl (lv_at hl 0 rfl) ?_
  refine va_get (D := (dC, dI)) (ci := 2) (v := .int rd_refusal) (C := R_BitReader) (T := T_BitReader) (N := 3) hx hb hB iw_BitReader hown hK hP 0 rfl rfl 2 (by decide) (hB _ bw_183) (fun _ h9 => h9) rfl d_BitReader_refuse_1 ?_
  refine lv_if_ne (tgt := 12) hx hb d_BitReader_refuse_4 (by decide) (fun c_1 => ?_) (fun c_1 => ?_)
  · have h := if_f h c_1
    subst eQ
    exact W.vret hx hb hr (fun t ht hW => ⟨⟨rd_refusal, rfl, Option.some.inj h, by rw [ht]; exact hP, va_K.moved hW.alike hK, hD⟩, hS.F ht⟩) hS.2.2 d_BitReader_refuse_12
  · have h := if_t h c_1
    refine lv_aload_n hx hb d_BitReader_refuse_7 rfl (lv_at hl 0 rfl) ?_
    refine lv_iload_n hx hb d_BitReader_refuse_8 rfl (lv_at hl 1 rfl) ?_
    refine va_put (D := (dC, dI)) (ci := 2) (v := .int p0) (ty := .int) (C := R_BitReader) (T := T_BitReader) (N := 3) hx hb hB iw_BitReader ty_BitReader tk_BitReader n_BitReader hown hK hP hD hS 0 rfl rfl 2 (by decide) (hB _ bw_183) (fun _ h9 => h9) rfl (by decide +kernel) rfl rfl (Nat.le_of_ble_eq_true rfl) d_BitReader_refuse_9 (fun H locs hP hD hS => ?_)
    have hP : va_P (dC, dI) CL [(h_rd, .inr (2, [u_rd_row, u_rd_place, .int p0]))] H := hP
    have hD : va_D A [(h_rd, .inr (2, [u_rd_row, u_rd_place, .int p0]))] := hD
    subst eQ
    exact W.vret hx hb hr (fun t ht hW => ⟨⟨p0, rfl, Option.some.inj h, by rw [ht]; exact hP, va_K.moved hW.alike hK, hD⟩, hS.F ht⟩) hS.2.2 d_BitReader_refuse_12
set_option maxHeartbeats 4000000 in
set_option maxRecDepth 100000 in
theorem c_BitReader_isRefused (l : Launch) (dC : Nat → ClassId) (dI : Nat → Nat → Nat) (h_rd : Nat) (u_rd_row : Value) (u_rd_place : Value) (rd_refusal : Int32) (o : Int32) (hf : f_BitReader_isRefused rd_refusal = some o) :
    Met l y_BitReader_isRefused ws_BitReader_isRefused { frames := 0, cells := 0, slots := 0, locals := 0 } (va_Pc [.ref h_rd] (PcP (dC, dI) [(h_rd, .inr (2, [u_rd_row, u_rd_place, .int rd_refusal]))] []))
      (vp_Si (fun r => r = o)) 0 0 (fun _ => False) := by
  refine Met.ofW (cc := b_BitReader_isRefused) (maxL := 1) (ret := (some .boolean)) (by decide) rfl ?_
  intro p e s m args below meth c s₁ B hml hv
  obtain ⟨rfl, hP, hK, hnw⟩ := hv
  have hx := B.exec
  have hb := B.bytes
  have hr := B.returns
  have hts := atoms_spec (ws := ws_BitReader_isRefused) B.pre
  have hB : ∀ w ∈ BIG, w.before _ s = true := fun w h => hts w (List.mem_cons_of_mem _ h)
  have hown : s.vm.findClass R_BitReader = some m.cls := findClass_of_methodNamed B.named
  have hlocks := B.notSynchronized
  refine W_Q (fun Q9 eQ => ?_)
  have hl := lv_entry ([.ref h_rd]) (n := 1) (Nat.le_of_ble_eq_true rfl)
  rw [lg_entry_eq]
  generalize (lg_sl ([.ref h_rd]) ++ List.replicate (1 - (lg_sl ([.ref h_rd])).length) Slot.unset).toArray = ls at hl ⊢
  have hl : lv_has ls 1 [(0, .ref h_rd)] := hl
  have h := hf
  unfold f_BitReader_isRefused at h
  refine lv_aload_n hx hb d_BitReader_isRefused_0 rfl (lv_at hl 0 rfl) ?_
  refine va_get (D := (dC, dI)) (ci := 2) (v := .int rd_refusal) (C := R_BitReader) (T := T_BitReader) (N := 3) hx hb hB iw_BitReader hown hK hP 0 rfl rfl 2 (by decide) (hB _ bw_183) (fun _ h9 => h9) rfl d_BitReader_isRefused_1 ?_
  refine lv_if_eq (tgt := 11) hx hb d_BitReader_isRefused_4 (by decide) (fun c_1 => ?_) (fun c_1 => ?_)
  · have h := if_t h c_1
    refine lv_iconst (v := 0) hx hb d_BitReader_isRefused_11 (by decide) ?_
    subst eQ
    exact W.zret (v := (0 : Int32)) hx hb hr rfl (fun t ht hW => ⟨_, rfl, Option.some.inj h, ht⟩) (fun _ h9 => absurd h9 List.not_mem_nil) d_BitReader_isRefused_12
  · have h := if_f h c_1
    refine lv_iconst (v := 1) hx hb d_BitReader_isRefused_7 (by decide) ?_
    refine lv_goto (tgt := 12) hx hb d_BitReader_isRefused_8 (by decide) ?_
    subst eQ
    exact W.zret (v := (1 : Int32)) hx hb hr rfl (fun t ht hW => ⟨_, rfl, Option.some.inj h, ht⟩) (fun _ h9 => absurd h9 List.not_mem_nil) d_BitReader_isRefused_12
set_option maxHeartbeats 4000000 in
set_option maxRecDepth 100000 in
theorem c_BitReader_nextBit (l : Launch) (dC : Nat → ClassId) (dI : Nat → Nat → Nat) (h_rd : Nat) (h_cb : Nat) (h_cb_bytes : Nat) (c_cb_bytes : ClassId) (rd_place : Int32) (rd_refusal : Int32) (cb_count : Int32) (cb_bytes : (Nat → Int32)) (sz : Nat) (o : Int32 × Int32 × Int32) (hf : f_BitReader_nextBit rd_place rd_refusal cb_count cb_bytes = some o) :
    Met l y_BitReader_nextBit ws_BitReader_nextBit { frames := 0, cells := 0, slots := 0, locals := 0 } (va_Pc [.ref h_rd] (PcM (dC, dI) [(h_rd, .inr (2, [.ref h_cb, .int rd_place, .int rd_refusal])), (h_cb, .inr (4, [.ref h_cb_bytes, .int cb_count])), (h_cb_bytes, .inl (c_cb_bytes, 2000, .inl cb_bytes))] [(c_cb_bytes, .int)] sz))
      (va_Qi (fun (r : Int32) (u : Int32 × Int32) => (r, u) = o) (fun u t => va_P (dC, dI) CL [(h_rd, .inr (2, [.ref h_cb, .int (u.1), .int (u.2)])), (h_cb, .inr (4, [.ref h_cb_bytes, .int cb_count])), (h_cb_bytes, .inl (c_cb_bytes, 2000, .inl cb_bytes))] t.heap ∧ va_K (dC, dI) CL [(c_cb_bytes, .int)] t ∧ va_D (va_A [(h_rd, .inr (2, [.ref h_cb, .int rd_place, .int rd_refusal])), (h_cb, .inr (4, [.ref h_cb_bytes, .int cb_count])), (h_cb_bytes, .inl (c_cb_bytes, 2000, .inl cb_bytes))] sz) [(h_rd, .inr (2, [.ref h_cb, .int (u.1), .int (u.2)])), (h_cb, .inr (4, [.ref h_cb_bytes, .int cb_count])), (h_cb_bytes, .inl (c_cb_bytes, 2000, .inl cb_bytes))]) (va_A [(h_rd, .inr (2, [.ref h_cb, .int rd_place, .int rd_refusal])), (h_cb, .inr (4, [.ref h_cb_bytes, .int cb_count])), (h_cb_bytes, .inl (c_cb_bytes, 2000, .inl cb_bytes))] sz)) 0 0 (va_A [(h_rd, .inr (2, [.ref h_cb, .int rd_place, .int rd_refusal])), (h_cb, .inr (4, [.ref h_cb_bytes, .int cb_count])), (h_cb_bytes, .inl (c_cb_bytes, 2000, .inl cb_bytes))] sz) := by
  refine Met.ofW (cc := b_BitReader_nextBit) (maxL := 2) (ret := (some .int)) (by decide) rfl ?_
  intro p e s m args below meth c s₁ B hml hv
  obtain ⟨rfl, hsz, hP, hK, hD0, hnw⟩ := hv
  have hx := B.exec
  have hb := B.bytes
  have hr := B.returns
  have hts := atoms_spec (ws := ws_BitReader_nextBit) B.pre
  have hB : ∀ w ∈ BIG, w.before _ s = true := fun w h => hts w (List.mem_cons_of_mem _ h)
  have hown : s.vm.findClass R_BitReader = some m.cls := findClass_of_methodNamed B.named
  have hlocks := B.notSynchronized
  subst hsz
  have hD := hD0.self (sz := s.heap.size)
  refine W_Q (fun Q9 eQ => ?_)
  generalize hAe : va_A [(h_rd, .inr (2, [.ref h_cb, .int rd_place, .int rd_refusal])), (h_cb, .inr (4, [.ref h_cb_bytes, .int cb_count])), (h_cb_bytes, .inl (c_cb_bytes, 2000, .inl cb_bytes))] s.heap.size = A at hD eQ
  have hA : ∀ q : Nat, s.heap.size ≤ q → A q := fun q h => by rw [← hAe]; exact Or.inr h
  have hS : va_S A s.heap s.heap [] := va_S.rf
  have hl := lv_entry ([.ref h_rd]) (n := 2) (Nat.le_of_ble_eq_true rfl)
  rw [lg_entry_eq]
  generalize (lg_sl ([.ref h_rd]) ++ List.replicate (2 - (lg_sl ([.ref h_rd])).length) Slot.unset).toArray = ls at hl ⊢
  have hl : lv_has ls 2 [(0, .ref h_rd)] := hl
  have h := hf
  unfold f_BitReader_nextBit at h
  refine lv_aload_n hx hb d_BitReader_nextBit_0 rfl (lv_at hl 0 rfl) ?_
  refine va_get (D := (dC, dI)) (ci := 2) (v := .int rd_refusal) (C := R_BitReader) (T := T_BitReader) (N := 3) hx hb hB iw_BitReader hown hK hP 0 rfl rfl 2 (by decide) (hB _ bw_183) (fun _ h9 => h9) rfl d_BitReader_nextBit_1 ?_
  refine lv_if_eq (tgt := 9) hx hb d_BitReader_nextBit_4 (by decide) (fun c_1 => ?_) (fun c_1 => ?_)
  · have h := if_t h c_1
    refine lv_aload_n hx hb d_BitReader_nextBit_9 rfl (lv_at hl 0 rfl) ?_
    refine va_get (D := (dC, dI)) (ci := 2) (v := .int rd_place) (C := R_BitReader) (T := T_BitReader) (N := 3) hx hb hB iw_BitReader hown hK hP 0 rfl rfl 1 (by decide) (hB _ bw_181) (fun _ h9 => h9) rfl d_BitReader_nextBit_10 ?_
    refine lv_bipush (v := 8) hx hb d_BitReader_nextBit_13 (by decide) ?_
    refine lv_idiv hx hb d_BitReader_nextBit_15 (by decide) ?_
    refine lv_aload_n hx hb d_BitReader_nextBit_16 rfl (lv_at hl 0 rfl) ?_
    refine va_get (D := (dC, dI)) (ci := 2) (v := .ref h_cb) (C := R_BitReader) (T := T_BitReader) (N := 3) hx hb hB iw_BitReader hown hK hP 0 rfl rfl 0 (by decide) (hB _ bw_180) (fun _ h9 => h9) rfl d_BitReader_nextBit_17 ?_
    refine va_getN (D := (dC, dI)) (ci := 4) (v := .int cb_count) (C := R_ByteRow) (T := T_ByteRow) (N := 2) hx hb hB iw_ByteRow hown hK hP 1 rfl rfl 1 (by decide) (va_Nw.use rfl (hnw.1 _ bn_100)) (fun _ h9 => h9) rfl d_BitReader_nextBit_20 ?_
    refine lv_icmp_lt (tgt := 33) hx hb d_BitReader_nextBit_23 (by decide) (fun c_2 => ?_) (fun c_2 => ?_)
    · have h := if_t h c_2
      refine lv_aload_n hx hb d_BitReader_nextBit_33 rfl (lv_at hl 0 rfl) ?_
      refine va_get (D := (dC, dI)) (ci := 2) (v := .ref h_cb) (C := R_BitReader) (T := T_BitReader) (N := 3) hx hb hB iw_BitReader hown hK hP 0 rfl rfl 0 (by decide) (hB _ bw_180) (fun _ h9 => h9) rfl d_BitReader_nextBit_34 ?_
      refine va_getN (D := (dC, dI)) (ci := 4) (v := .ref h_cb_bytes) (C := R_ByteRow) (T := T_ByteRow) (N := 2) hx hb hB iw_ByteRow hown hK hP 1 rfl rfl 0 (by decide) (va_Nw.use rfl (hnw.1 _ bn_96)) (fun _ h9 => h9) rfl d_BitReader_nextBit_37 ?_
      refine lv_aload_n hx hb d_BitReader_nextBit_40 rfl (lv_at hl 0 rfl) ?_
      refine va_get (D := (dC, dI)) (ci := 2) (v := .int rd_place) (C := R_BitReader) (T := T_BitReader) (N := 3) hx hb hB iw_BitReader hown hK hP 0 rfl rfl 1 (by decide) (hB _ bw_181) (fun _ h9 => h9) rfl d_BitReader_nextBit_41 ?_
      refine lv_bipush (v := 8) hx hb d_BitReader_nextBit_44 (by decide) ?_
      refine lv_idiv hx hb d_BitReader_nextBit_46 (by decide) ?_
      obtain ⟨hin, h⟩ := gq_e h
      refine va_iald hx hb hK hP 2 0 rfl rfl hin d_BitReader_nextBit_47 ?_
      refine lv_bipush (v := 7) hx hb d_BitReader_nextBit_48 (by decide) ?_
      refine lv_aload_n hx hb d_BitReader_nextBit_50 rfl (lv_at hl 0 rfl) ?_
      refine va_get (D := (dC, dI)) (ci := 2) (v := .int rd_place) (C := R_BitReader) (T := T_BitReader) (N := 3) hx hb hB iw_BitReader hown hK hP 0 rfl rfl 1 (by decide) (hB _ bw_181) (fun _ h9 => h9) rfl d_BitReader_nextBit_51 ?_
      refine lv_bipush (v := 8) hx hb d_BitReader_nextBit_54 (by decide) ?_
      refine lv_irem hx hb d_BitReader_nextBit_56 (by decide) ?_
      refine lv_isub hx hb d_BitReader_nextBit_57 ?_
      refine lv_ishr hx hb d_BitReader_nextBit_58 ?_
      refine lv_iconst (v := 1) hx hb d_BitReader_nextBit_59 (by decide) ?_
      refine lv_iand hx hb d_BitReader_nextBit_60 ?_
      refine lv_topi (fun v1_1 e_v1_1 => ?_)
      have h := nl_u e_v1_1 h
      refine lv_istore_n (lv' := [(1, .int v1_1), (0, .ref h_rd)]) hx hb d_BitReader_nextBit_61 rfl hl (by decide) rfl (fun ls hl => ?_)
      refine lv_aload_n hx hb d_BitReader_nextBit_62 rfl (lv_at hl 1 rfl) ?_
      refine lv_dup hx hb d_BitReader_nextBit_63 rfl ?_
      refine va_get (D := (dC, dI)) (ci := 2) (v := .int rd_place) (C := R_BitReader) (T := T_BitReader) (N := 3) hx hb hB iw_BitReader hown hK hP 0 rfl rfl 1 (by decide) (hB _ bw_181) (fun _ h9 => h9) rfl d_BitReader_nextBit_64 ?_
      refine lv_iconst (v := 1) hx hb d_BitReader_nextBit_67 (by decide) ?_
      refine lv_iadd hx hb d_BitReader_nextBit_68 ?_
      refine lv_topi (fun place_2 e_place_2 => ?_)
      have h := nl_u e_place_2 h
      refine va_put (D := (dC, dI)) (ci := 2) (v := .int place_2) (ty := .int) (C := R_BitReader) (T := T_BitReader) (N := 3) hx hb hB iw_BitReader ty_BitReader tk_BitReader n_BitReader hown hK hP hD hS 0 rfl rfl 1 (by decide) (hB _ bw_181) (fun _ h9 => h9) rfl (by decide +kernel) rfl rfl (Nat.le_of_ble_eq_true rfl) d_BitReader_nextBit_69 (fun H locs hP hD hS => ?_)
      have hP : va_P (dC, dI) CL [(h_rd, .inr (2, [.ref h_cb, .int place_2, .int rd_refusal])), (h_cb, .inr (4, [.ref h_cb_bytes, .int cb_count])), (h_cb_bytes, .inl (c_cb_bytes, 2000, .inl cb_bytes))] H := hP
      have hD : va_D A [(h_rd, .inr (2, [.ref h_cb, .int place_2, .int rd_refusal])), (h_cb, .inr (4, [.ref h_cb_bytes, .int cb_count])), (h_cb_bytes, .inl (c_cb_bytes, 2000, .inl cb_bytes))] := hD
      refine lv_iload_n hx hb d_BitReader_nextBit_72 rfl (lv_at hl 0 rfl) ?_
      subst eQ
      exact W.iret (v := v1_1) hx hb hr (fun t ht hW => ⟨⟨_, (place_2, rd_refusal), rfl, Option.some.inj h, by rw [ht]; exact hP, va_K.moved hW.alike hK, hD⟩, hS.F ht⟩) hS.2.2 d_BitReader_nextBit_73
    · have h := if_f h c_2
      refine lv_aload_n hx hb d_BitReader_nextBit_26 rfl (lv_at hl 0 rfl) ?_
      refine lv_iconst (v := 1) hx hb d_BitReader_nextBit_27 (by decide) ?_
      refine va_put (D := (dC, dI)) (ci := 2) (v := .int (1 : Int32)) (ty := .int) (C := R_BitReader) (T := T_BitReader) (N := 3) hx hb hB iw_BitReader ty_BitReader tk_BitReader n_BitReader hown hK hP hD hS 0 rfl rfl 2 (by decide) (hB _ bw_183) (fun _ h9 => h9) rfl (by decide +kernel) rfl rfl (Nat.le_of_ble_eq_true rfl) d_BitReader_nextBit_28 (fun H locs hP hD hS => ?_)
      have hP : va_P (dC, dI) CL [(h_rd, .inr (2, [.ref h_cb, .int rd_place, .int (1 : Int32)])), (h_cb, .inr (4, [.ref h_cb_bytes, .int cb_count])), (h_cb_bytes, .inl (c_cb_bytes, 2000, .inl cb_bytes))] H := hP
      have hD : va_D A [(h_rd, .inr (2, [.ref h_cb, .int rd_place, .int (1 : Int32)])), (h_cb, .inr (4, [.ref h_cb_bytes, .int cb_count])), (h_cb_bytes, .inl (c_cb_bytes, 2000, .inl cb_bytes))] := hD
      refine lv_iconst (v := 0) hx hb d_BitReader_nextBit_31 (by decide) ?_
      subst eQ
      exact W.iret (v := (0 : Int32)) hx hb hr (fun t ht hW => ⟨⟨_, (rd_place, (1 : Int32)), rfl, Option.some.inj h, by rw [ht]; exact hP, va_K.moved hW.alike hK, hD⟩, hS.F ht⟩) hS.2.2 d_BitReader_nextBit_32
  · have h := if_f h c_1
    refine lv_iconst (v := 0) hx hb d_BitReader_nextBit_7 (by decide) ?_
    subst eQ
    exact W.iret (v := (0 : Int32)) hx hb hr (fun t ht hW => ⟨⟨_, (rd_place, rd_refusal), rfl, Option.some.inj h, by rw [ht]; exact hP, va_K.moved hW.alike hK, hD⟩, hS.F ht⟩) hS.2.2 d_BitReader_nextBit_8
set_option maxHeartbeats 4000000 in
set_option maxRecDepth 100000 in
theorem c_BitReader_nextBits (l : Launch) (dC : Nat → ClassId) (dI : Nat → Nat → Nat) (h_rd : Nat) (h_cb : Nat) (h_cb_bytes : Nat) (c_cb_bytes : ClassId) (rd_place : Int32) (rd_refusal : Int32) (cb_count : Int32) (cb_bytes : (Nat → Int32)) (p0 : Int32) (sz : Nat) (o : Int32 × Int32 × Int32) (hf : f_BitReader_nextBits rd_place rd_refusal cb_count cb_bytes p0 = some o) :
    Met l y_BitReader_nextBits ws_BitReader_nextBits { frames := 1, cells := 0, slots := 0, locals := 21 } (va_Pc [.ref h_rd, .int p0] (PcM (dC, dI) [(h_rd, .inr (2, [.ref h_cb, .int rd_place, .int rd_refusal])), (h_cb, .inr (4, [.ref h_cb_bytes, .int cb_count])), (h_cb_bytes, .inl (c_cb_bytes, 2000, .inl cb_bytes))] [(c_cb_bytes, .int)] sz))
      (va_Qi (fun (r : Int32) (u : Int32 × Int32) => (r, u) = o) (fun u t => va_P (dC, dI) CL [(h_rd, .inr (2, [.ref h_cb, .int (u.1), .int (u.2)])), (h_cb, .inr (4, [.ref h_cb_bytes, .int cb_count])), (h_cb_bytes, .inl (c_cb_bytes, 2000, .inl cb_bytes))] t.heap ∧ va_K (dC, dI) CL [(c_cb_bytes, .int)] t ∧ va_D (va_A [(h_rd, .inr (2, [.ref h_cb, .int rd_place, .int rd_refusal])), (h_cb, .inr (4, [.ref h_cb_bytes, .int cb_count])), (h_cb_bytes, .inl (c_cb_bytes, 2000, .inl cb_bytes))] sz) [(h_rd, .inr (2, [.ref h_cb, .int (u.1), .int (u.2)])), (h_cb, .inr (4, [.ref h_cb_bytes, .int cb_count])), (h_cb_bytes, .inl (c_cb_bytes, 2000, .inl cb_bytes))]) (va_A [(h_rd, .inr (2, [.ref h_cb, .int rd_place, .int rd_refusal])), (h_cb, .inr (4, [.ref h_cb_bytes, .int cb_count])), (h_cb_bytes, .inl (c_cb_bytes, 2000, .inl cb_bytes))] sz)) 0 0 (va_A [(h_rd, .inr (2, [.ref h_cb, .int rd_place, .int rd_refusal])), (h_cb, .inr (4, [.ref h_cb_bytes, .int cb_count])), (h_cb_bytes, .inl (c_cb_bytes, 2000, .inl cb_bytes))] sz) := by
  refine Met.ofW (cc := b_BitReader_nextBits) (maxL := 4) (ret := (some .int)) (by decide) rfl ?_
  intro p e s m args below meth c s₁ B hml hv
  obtain ⟨rfl, hsz, hP, hK, hD0, hnw⟩ := hv
  have hx := B.exec
  have hb := B.bytes
  have hr := B.returns
  have hts := atoms_spec (ws := ws_BitReader_nextBits) B.pre
  have hB : ∀ w ∈ BIG, w.before _ s = true := fun w h => hts w (List.mem_cons_of_mem _ h)
  have hown : s.vm.findClass R_BitReader = some m.cls := findClass_of_methodNamed B.named
  have hlocks := B.notSynchronized
  subst hsz
  have hD := hD0.self (sz := s.heap.size)
  refine W_Q (fun Q9 eQ => ?_)
  generalize hAe : va_A [(h_rd, .inr (2, [.ref h_cb, .int rd_place, .int rd_refusal])), (h_cb, .inr (4, [.ref h_cb_bytes, .int cb_count])), (h_cb_bytes, .inl (c_cb_bytes, 2000, .inl cb_bytes))] s.heap.size = A at hD eQ
  have hA : ∀ q : Nat, s.heap.size ≤ q → A q := fun q h => by rw [← hAe]; exact Or.inr h
  have hS : va_S A s.heap s.heap [] := va_S.rf
  have hl := lv_entry ([.ref h_rd, .int p0]) (n := 4) (Nat.le_of_ble_eq_true rfl)
  rw [lg_entry_eq]
  generalize (lg_sl ([.ref h_rd, .int p0]) ++ List.replicate (4 - (lg_sl ([.ref h_rd, .int p0])).length) Slot.unset).toArray = ls at hl ⊢
  have hl : lv_has ls 4 [(0, .ref h_rd), (1, .int p0)] := hl
  have h := hf
  unfold f_BitReader_nextBits at h
  refine lv_iconst (v := 0) hx hb d_BitReader_nextBits_0 (by decide) ?_
  refine lv_istore_n (lv' := [(2, .int (0 : Int32)), (0, .ref h_rd), (1, .int p0)]) hx hb d_BitReader_nextBits_1 rfl hl (by decide) rfl (fun ls hl => ?_)
  refine lv_iconst (v := 0) hx hb d_BitReader_nextBits_2 (by decide) ?_
  refine lv_istore_n (lv' := [(3, .int (0 : Int32)), (2, .int (0 : Int32)), (0, .ref h_rd), (1, .int p0)]) hx hb d_BitReader_nextBits_3 rfl hl (by decide) rfl (fun ls hl => ?_)
  have w_self4 : ∀ n9 : Nat, ∀ (v3_1 : Int32) (v2_2 : Int32) (rd_place_3 : Int32) (rd_refusal_4 : Int32) (H : Heap) (locs : List Loc) (ls : Array Slot), lp (f_BitReader_nextBits_L4 p0 cb_count cb_bytes) n9 (v3_1, v2_2, rd_place_3, rd_refusal_4) = some o → va_P (dC, dI) CL [(h_rd, .inr (2, [.ref h_cb, .int rd_place_3, .int rd_refusal_4])), (h_cb, .inr (4, [.ref h_cb_bytes, .int cb_count])), (h_cb_bytes, .inl (c_cb_bytes, 2000, .inl cb_bytes))] H → va_D A [(h_rd, .inr (2, [.ref h_cb, .int rd_place_3, .int rd_refusal_4])), (h_cb, .inr (4, [.ref h_cb_bytes, .int cb_count])), (h_cb_bytes, .inl (c_cb_bytes, 2000, .inl cb_bytes))] → va_S A s.heap H locs → lv_has ls 4 [(3, .int v3_1), (2, .int v2_2), (0, .ref h_rd), (1, .int p0)] → W p l e ({ frames := 1, cells := 0, slots := 0, locals := 21 } : Room) s m ([.ref h_rd, .int p0] : List Value).toArray below meth c H locs 0 0 Q9 (F0 m 4 ls []) := by
    intro n9
    induction n9 with
    | zero =>
      intro v3_1 v2_2 rd_place_3 rd_refusal_4 H locs ls h hP hD hS hl
      exact absurd h (by simp [lp])
    | succ n9 ih_self4 =>
      intro v3_1 v2_2 rd_place_3 rd_refusal_4 H locs ls h hP hD hS hl
      obtain ⟨self4, e_self4, h⟩ := abs_k (P := fun z9 => f_BitReader_nextBits_L4 p0 cb_count cb_bytes z9 (v3_1, v2_2, rd_place_3, rd_refusal_4) = some o) (lp_e h)
      rw [← e_self4] at ih_self4
      unfold f_BitReader_nextBits_L4 at h
      try dsimp only at h
      refine lv_iload_n hx hb d_BitReader_nextBits_4 rfl (lv_at hl 0 rfl) ?_
      refine lv_iload_n hx hb d_BitReader_nextBits_5 rfl (lv_at hl 3 rfl) ?_
      refine lv_icmp_ge (tgt := 24) hx hb d_BitReader_nextBits_6 (by decide) (fun c_1 => ?_) (fun c_1 => ?_)
      · have h := if_t h c_1
        refine lv_iload_n hx hb d_BitReader_nextBits_24 rfl (lv_at hl 1 rfl) ?_
        subst eQ
        exact W.iret (v := v2_2) hx hb hr (fun t ht hW => ⟨⟨_, (rd_place_3, rd_refusal_4), rfl, Option.some.inj h, by rw [ht]; exact hP, va_K.moved hW.alike hK, hD⟩, hS.F ht⟩) hS.2.2 d_BitReader_nextBits_25
      · have h := if_f h c_1
        refine lv_iload_n hx hb d_BitReader_nextBits_9 rfl (lv_at hl 1 rfl) ?_
        refine lv_iconst (v := 1) hx hb d_BitReader_nextBits_10 (by decide) ?_
        refine lv_ishl hx hb d_BitReader_nextBits_11 ?_
        refine lv_aload_n hx hb d_BitReader_nextBits_12 rfl (lv_at hl 2 rfl) ?_
        obtain ⟨o9, hc9, h⟩ := bd_e h
        have hPc := hP.sub (ws' := [(h_rd, .inr (2, [.ref h_cb, .int rd_place_3, .int rd_refusal_4])), (h_cb, .inr (4, [.ref h_cb_bytes, .int cb_count])), (h_cb_bytes, .inl (c_cb_bytes, 2000, .inl cb_bytes))]) [0, 1, 2] rfl
        have hKc := hK.sub (tys' := [(c_cb_bytes, .int)]) [0] rfl
        have hDc := hD.sub (ws' := [(h_rd, .inr (2, [.ref h_cb, .int rd_place_3, .int rd_refusal_4])), (h_cb, .inr (4, [.ref h_cb_bytes, .int cb_count])), (h_cb_bytes, .inl (c_cb_bytes, 2000, .inl cb_bytes))]) [0, 1, 2] (by decide) rfl
        have hFc := va_free (wc := [(h_rd, .inr (2, [.ref h_cb, .int rd_place_3, .int rd_refusal_4])), (h_cb, .inr (4, [.ref h_cb_bytes, .int cb_count])), (h_cb_bytes, .inl (c_cb_bytes, 2000, .inl cb_bytes))]) hD hS hA [0, 1, 2] rfl
        refine va_calli (va_runV (As := []) (rest := [.int (v2_2 <<< ((1 : Int32) &&& 31))]) ⟨hx, hb, hml, hown, hB⟩ (c_BitReader_nextBit l dC dI h_rd h_cb h_cb_bytes c_cb_bytes rd_place_3 rd_refusal_4 cb_count cb_bytes _ o9 hc9) (cwV 0 hB (goodA (m4 bw_514 bw_516 bs_34 bw_11) (goodB bw_517)) rfl rfl rfl (by decide +kernel) ⟨Nat.le_of_ble_eq_true rfl, Nat.le_of_ble_eq_true rfl⟩) ⟨fb_m, va_recv hK hP (ci := 2) (q0 := 0) rfl rfl, (pre_m hPc hKc hDc hnw [.ref h_rd])⟩ rfl rfl hl.1 rfl (lv_room (Nat.le_of_ble_eq_true rfl)) d_BitReader_nextBits_13 ⟨Nat.zero_le _, Nat.zero_le _⟩) hS (fun q _ h => hFc q h) hFc (fun r_5 u9 t H1 locs ht hvm hw hB hz1 hk1 hS => ?_)
        obtain ⟨rd_place_6, rd_refusal_7⟩ := u9
        subst hw
        obtain ⟨hP1, hK1, hD1⟩ := hB
        rw [ht] at hP1
        obtain ⟨hP, hD⟩ := va_join (wr := []) (w1 := [(h_rd, .inr (2, [.ref h_cb, .int rd_place_6, .int rd_refusal_7])), (h_cb, .inr (4, [.ref h_cb_bytes, .int cb_count])), (h_cb_bytes, .inl (c_cb_bytes, 2000, .inl cb_bytes))]) hP hD [0, 1, 2] [] rfl rfl (by decide) (by decide) hk1 hFc hP1 hD1
        have hP := hP.sub (ws' := [(h_rd, .inr (2, [.ref h_cb, .int rd_place_6, .int rd_refusal_7])), (h_cb, .inr (4, [.ref h_cb_bytes, .int cb_count])), (h_cb_bytes, .inl (c_cb_bytes, 2000, .inl cb_bytes))]) [0, 1, 2] rfl
        have hD := hD.sub (ws' := [(h_rd, .inr (2, [.ref h_cb, .int rd_place_6, .int rd_refusal_7])), (h_cb, .inr (4, [.ref h_cb_bytes, .int cb_count])), (h_cb_bytes, .inl (c_cb_bytes, 2000, .inl cb_bytes))]) [0, 1, 2] (by decide) rfl
        clear hPc hKc hDc hFc hc9 hP1 hK1 hD1 hk1 hz1 hvm ht
        generalize H1 = H at hP hS ⊢
        try dsimp only at h
        refine lv_ior hx hb d_BitReader_nextBits_16 ?_
        refine lv_topi (fun v2_8 e_v2_8 => ?_)
        have h := nl_u e_v2_8 h
        refine lv_istore_n (lv' := [(2, .int v2_8), (3, .int v3_1), (0, .ref h_rd), (1, .int p0)]) hx hb d_BitReader_nextBits_17 rfl hl (by decide) rfl (fun ls hl => ?_)
        obtain ⟨v3_9, e_v3_9⟩ : ∃ y9 : Int32, y9 = (v3_1 + (1 : Int32)) := ⟨_, rfl⟩
        have h := nl_u e_v3_9 h
        refine lv_iinc (v := v3_9) (lv' := [(3, .int v3_9), (2, .int v2_8), (0, .ref h_rd), (1, .int p0)]) hx hb d_BitReader_nextBits_18 hl (k := 1) rfl (by rw [e_v3_9]; rfl) (by decide) rfl (fun ls hl => ?_)
        refine lv_goto (tgt := 4) hx hb d_BitReader_nextBits_21 (by decide) ?_
        exact ih_self4 _ _ _ _ _ _ _ h hP hD hS hl
  exact w_self4 FU _ _ _ _ _ _ _ h hP hD hS hl
set_option maxHeartbeats 4000000 in
set_option maxRecDepth 100000 in
theorem c_BitReader_nextNumber (l : Launch) (dC : Nat → ClassId) (dI : Nat → Nat → Nat) (h_rd : Nat) (h_cb : Nat) (h_cb_bytes : Nat) (c_cb_bytes : ClassId) (rd_place : Int32) (rd_refusal : Int32) (cb_count : Int32) (cb_bytes : (Nat → Int32)) (sz : Nat) (o : Int32 × Int32 × Int32) (hf : f_BitReader_nextNumber rd_place rd_refusal cb_count cb_bytes = some o) :
    Met l y_BitReader_nextNumber ws_BitReader_nextNumber { frames := 1, cells := 0, slots := 0, locals := 21 } (va_Pc [.ref h_rd] (PcM (dC, dI) [(h_rd, .inr (2, [.ref h_cb, .int rd_place, .int rd_refusal])), (h_cb, .inr (4, [.ref h_cb_bytes, .int cb_count])), (h_cb_bytes, .inl (c_cb_bytes, 2000, .inl cb_bytes))] [(c_cb_bytes, .int)] sz))
      (va_Qi (fun (r : Int32) (u : Int32 × Int32) => (r, u) = o) (fun u t => va_P (dC, dI) CL [(h_rd, .inr (2, [.ref h_cb, .int (u.1), .int (u.2)])), (h_cb, .inr (4, [.ref h_cb_bytes, .int cb_count])), (h_cb_bytes, .inl (c_cb_bytes, 2000, .inl cb_bytes))] t.heap ∧ va_K (dC, dI) CL [(c_cb_bytes, .int)] t ∧ va_D (va_A [(h_rd, .inr (2, [.ref h_cb, .int rd_place, .int rd_refusal])), (h_cb, .inr (4, [.ref h_cb_bytes, .int cb_count])), (h_cb_bytes, .inl (c_cb_bytes, 2000, .inl cb_bytes))] sz) [(h_rd, .inr (2, [.ref h_cb, .int (u.1), .int (u.2)])), (h_cb, .inr (4, [.ref h_cb_bytes, .int cb_count])), (h_cb_bytes, .inl (c_cb_bytes, 2000, .inl cb_bytes))]) (va_A [(h_rd, .inr (2, [.ref h_cb, .int rd_place, .int rd_refusal])), (h_cb, .inr (4, [.ref h_cb_bytes, .int cb_count])), (h_cb_bytes, .inl (c_cb_bytes, 2000, .inl cb_bytes))] sz)) 0 0 (va_A [(h_rd, .inr (2, [.ref h_cb, .int rd_place, .int rd_refusal])), (h_cb, .inr (4, [.ref h_cb_bytes, .int cb_count])), (h_cb_bytes, .inl (c_cb_bytes, 2000, .inl cb_bytes))] sz) := by
  refine Met.ofW (cc := b_BitReader_nextNumber) (maxL := 4) (ret := (some .int)) (by decide) rfl ?_
  intro p e s m args below meth c s₁ B hml hv
  obtain ⟨rfl, hsz, hP, hK, hD0, hnw⟩ := hv
  have hx := B.exec
  have hb := B.bytes
  have hr := B.returns
  have hts := atoms_spec (ws := ws_BitReader_nextNumber) B.pre
  have hB : ∀ w ∈ BIG, w.before _ s = true := fun w h => hts w (List.mem_cons_of_mem _ h)
  have hown : s.vm.findClass R_BitReader = some m.cls := findClass_of_methodNamed B.named
  have hlocks := B.notSynchronized
  subst hsz
  have hD := hD0.self (sz := s.heap.size)
  refine W_Q (fun Q9 eQ => ?_)
  generalize hAe : va_A [(h_rd, .inr (2, [.ref h_cb, .int rd_place, .int rd_refusal])), (h_cb, .inr (4, [.ref h_cb_bytes, .int cb_count])), (h_cb_bytes, .inl (c_cb_bytes, 2000, .inl cb_bytes))] s.heap.size = A at hD eQ
  have hA : ∀ q : Nat, s.heap.size ≤ q → A q := fun q h => by rw [← hAe]; exact Or.inr h
  have hS : va_S A s.heap s.heap [] := va_S.rf
  have hl := lv_entry ([.ref h_rd]) (n := 4) (Nat.le_of_ble_eq_true rfl)
  rw [lg_entry_eq]
  generalize (lg_sl ([.ref h_rd]) ++ List.replicate (4 - (lg_sl ([.ref h_rd])).length) Slot.unset).toArray = ls at hl ⊢
  have hl : lv_has ls 4 [(0, .ref h_rd)] := hl
  have h := hf
  unfold f_BitReader_nextNumber at h
  refine lv_iconst (v := 0) hx hb d_BitReader_nextNumber_0 (by decide) ?_
  refine lv_istore_n (lv' := [(1, .int (0 : Int32)), (0, .ref h_rd)]) hx hb d_BitReader_nextNumber_1 rfl hl (by decide) rfl (fun ls hl => ?_)
  obtain ⟨k21, e_k21, h⟩ := abs_k (P := fun k9 => lp (f_BitReader_nextNumber_L2 cb_count cb_bytes k9) FU ((0 : Int32), rd_place, rd_refusal) = some o) h
  have w_k21 : ∀ (v1_4 : Int32) (rd_place_5 : Int32) (rd_refusal_6 : Int32) (H : Heap) (locs : List Loc) (ls : Array Slot), k21 v1_4 rd_place_5 rd_refusal_6 = some o → va_P (dC, dI) CL [(h_rd, .inr (2, [.ref h_cb, .int rd_place_5, .int rd_refusal_6])), (h_cb, .inr (4, [.ref h_cb_bytes, .int cb_count])), (h_cb_bytes, .inl (c_cb_bytes, 2000, .inl cb_bytes))] H → va_D A [(h_rd, .inr (2, [.ref h_cb, .int rd_place_5, .int rd_refusal_6])), (h_cb, .inr (4, [.ref h_cb_bytes, .int cb_count])), (h_cb_bytes, .inl (c_cb_bytes, 2000, .inl cb_bytes))] → va_S A s.heap H locs → lv_has ls 4 [(1, .int v1_4), (0, .ref h_rd)] → W p l e ({ frames := 1, cells := 0, slots := 0, locals := 21 } : Room) s m ([.ref h_rd] : List Value).toArray below meth c H locs 0 0 Q9 (F0 m 21 ls []) := by
    intro v1_4 rd_place_5 rd_refusal_6 H locs ls h hP hD hS hl
    rw [e_k21] at h
    refine lv_iload_n hx hb d_BitReader_nextNumber_21 rfl (lv_at hl 0 rfl) ?_
    refine lv_bipush (v := 12) hx hb d_BitReader_nextNumber_22 (by decide) ?_
    refine lv_icmp_le (tgt := 35) hx hb d_BitReader_nextNumber_24 (by decide) (fun c_1 => ?_) (fun c_1 => ?_)
    · have h := if_t h c_1
      refine lv_iconst (v := 1) hx hb d_BitReader_nextNumber_35 (by decide) ?_
      refine lv_istore_n (lv' := [(2, .int (1 : Int32)), (1, .int v1_4), (0, .ref h_rd)]) hx hb d_BitReader_nextNumber_36 rfl hl (by decide) rfl (fun ls hl => ?_)
      refine lv_iconst (v := 0) hx hb d_BitReader_nextNumber_37 (by decide) ?_
      refine lv_istore_n (lv' := [(3, .int (0 : Int32)), (2, .int (1 : Int32)), (1, .int v1_4), (0, .ref h_rd)]) hx hb d_BitReader_nextNumber_38 rfl hl (by decide) rfl (fun ls hl => ?_)
      have w_self39 : ∀ n9 : Nat, ∀ (v3_11 : Int32) (v2_12 : Int32) (rd_place_13 : Int32) (rd_refusal_14 : Int32) (H : Heap) (locs : List Loc) (ls : Array Slot), lp (f_BitReader_nextNumber_L39 v1_4 cb_count cb_bytes) n9 (v3_11, v2_12, rd_place_13, rd_refusal_14) = some o → va_P (dC, dI) CL [(h_rd, .inr (2, [.ref h_cb, .int rd_place_13, .int rd_refusal_14])), (h_cb, .inr (4, [.ref h_cb_bytes, .int cb_count])), (h_cb_bytes, .inl (c_cb_bytes, 2000, .inl cb_bytes))] H → va_D A [(h_rd, .inr (2, [.ref h_cb, .int rd_place_13, .int rd_refusal_14])), (h_cb, .inr (4, [.ref h_cb_bytes, .int cb_count])), (h_cb_bytes, .inl (c_cb_bytes, 2000, .inl cb_bytes))] → va_S A s.heap H locs → lv_has ls 4 [(3, .int v3_11), (2, .int v2_12), (1, .int v1_4), (0, .ref h_rd)] → W p l e ({ frames := 1, cells := 0, slots := 0, locals := 21 } : Room) s m ([.ref h_rd] : List Value).toArray below meth c H locs 0 0 Q9 (F0 m 39 ls []) := by
        intro n9
        induction n9 with
        | zero =>
          intro v3_11 v2_12 rd_place_13 rd_refusal_14 H locs ls h hP hD hS hl
          exact absurd h (by simp [lp])
        | succ n9 ih_self39 =>
          intro v3_11 v2_12 rd_place_13 rd_refusal_14 H locs ls h hP hD hS hl
          obtain ⟨self39, e_self39, h⟩ := abs_k (P := fun z9 => f_BitReader_nextNumber_L39 v1_4 cb_count cb_bytes z9 (v3_11, v2_12, rd_place_13, rd_refusal_14) = some o) (lp_e h)
          rw [← e_self39] at ih_self39
          unfold f_BitReader_nextNumber_L39 at h
          try dsimp only at h
          refine lv_iload_n hx hb d_BitReader_nextNumber_39 rfl (lv_at hl 0 rfl) ?_
          refine lv_iload_n hx hb d_BitReader_nextNumber_40 rfl (lv_at hl 2 rfl) ?_
          refine lv_icmp_ge (tgt := 59) hx hb d_BitReader_nextNumber_41 (by decide) (fun c_2 => ?_) (fun c_2 => ?_)
          · have h := if_t h c_2
            refine lv_iload_n hx hb d_BitReader_nextNumber_59 rfl (lv_at hl 1 rfl) ?_
            refine lv_iconst (v := 1) hx hb d_BitReader_nextNumber_60 (by decide) ?_
            refine lv_isub hx hb d_BitReader_nextNumber_61 ?_
            subst eQ
            exact W.iret (v := (v2_12 - (1 : Int32))) hx hb hr (fun t ht hW => ⟨⟨_, (rd_place_13, rd_refusal_14), rfl, Option.some.inj h, by rw [ht]; exact hP, va_K.moved hW.alike hK, hD⟩, hS.F ht⟩) hS.2.2 d_BitReader_nextNumber_62
          · have h := if_f h c_2
            refine lv_iload_n hx hb d_BitReader_nextNumber_44 rfl (lv_at hl 1 rfl) ?_
            refine lv_iconst (v := 1) hx hb d_BitReader_nextNumber_45 (by decide) ?_
            refine lv_ishl hx hb d_BitReader_nextNumber_46 ?_
            refine lv_aload_n hx hb d_BitReader_nextNumber_47 rfl (lv_at hl 3 rfl) ?_
            obtain ⟨o9, hc9, h⟩ := bd_e h
            have hPc := hP.sub (ws' := [(h_rd, .inr (2, [.ref h_cb, .int rd_place_13, .int rd_refusal_14])), (h_cb, .inr (4, [.ref h_cb_bytes, .int cb_count])), (h_cb_bytes, .inl (c_cb_bytes, 2000, .inl cb_bytes))]) [0, 1, 2] rfl
            have hKc := hK.sub (tys' := [(c_cb_bytes, .int)]) [0] rfl
            have hDc := hD.sub (ws' := [(h_rd, .inr (2, [.ref h_cb, .int rd_place_13, .int rd_refusal_14])), (h_cb, .inr (4, [.ref h_cb_bytes, .int cb_count])), (h_cb_bytes, .inl (c_cb_bytes, 2000, .inl cb_bytes))]) [0, 1, 2] (by decide) rfl
            have hFc := va_free (wc := [(h_rd, .inr (2, [.ref h_cb, .int rd_place_13, .int rd_refusal_14])), (h_cb, .inr (4, [.ref h_cb_bytes, .int cb_count])), (h_cb_bytes, .inl (c_cb_bytes, 2000, .inl cb_bytes))]) hD hS hA [0, 1, 2] rfl
            refine va_calli (va_runV (As := []) (rest := [.int (v2_12 <<< ((1 : Int32) &&& 31))]) ⟨hx, hb, hml, hown, hB⟩ (c_BitReader_nextBit l dC dI h_rd h_cb h_cb_bytes c_cb_bytes rd_place_13 rd_refusal_14 cb_count cb_bytes _ o9 hc9) (cwV 0 hB (goodA (m4 bw_514 bw_516 bs_34 bw_11) (goodB bw_517)) rfl rfl rfl (by decide +kernel) ⟨Nat.le_of_ble_eq_true rfl, Nat.le_of_ble_eq_true rfl⟩) ⟨fb_m, va_recv hK hP (ci := 2) (q0 := 0) rfl rfl, (pre_m hPc hKc hDc hnw [.ref h_rd])⟩ rfl rfl hl.1 rfl (lv_room (Nat.le_of_ble_eq_true rfl)) d_BitReader_nextNumber_48 ⟨Nat.zero_le _, Nat.zero_le _⟩) hS (fun q _ h => hFc q h) hFc (fun r_15 u9 t H1 locs ht hvm hw hB hz1 hk1 hS => ?_)
            obtain ⟨rd_place_16, rd_refusal_17⟩ := u9
            subst hw
            obtain ⟨hP1, hK1, hD1⟩ := hB
            rw [ht] at hP1
            obtain ⟨hP, hD⟩ := va_join (wr := []) (w1 := [(h_rd, .inr (2, [.ref h_cb, .int rd_place_16, .int rd_refusal_17])), (h_cb, .inr (4, [.ref h_cb_bytes, .int cb_count])), (h_cb_bytes, .inl (c_cb_bytes, 2000, .inl cb_bytes))]) hP hD [0, 1, 2] [] rfl rfl (by decide) (by decide) hk1 hFc hP1 hD1
            have hP := hP.sub (ws' := [(h_rd, .inr (2, [.ref h_cb, .int rd_place_16, .int rd_refusal_17])), (h_cb, .inr (4, [.ref h_cb_bytes, .int cb_count])), (h_cb_bytes, .inl (c_cb_bytes, 2000, .inl cb_bytes))]) [0, 1, 2] rfl
            have hD := hD.sub (ws' := [(h_rd, .inr (2, [.ref h_cb, .int rd_place_16, .int rd_refusal_17])), (h_cb, .inr (4, [.ref h_cb_bytes, .int cb_count])), (h_cb_bytes, .inl (c_cb_bytes, 2000, .inl cb_bytes))]) [0, 1, 2] (by decide) rfl
            clear hPc hKc hDc hFc hc9 hP1 hK1 hD1 hk1 hz1 hvm ht
            generalize H1 = H at hP hS ⊢
            try dsimp only at h
            refine lv_ior hx hb d_BitReader_nextNumber_51 ?_
            refine lv_topi (fun v2_18 e_v2_18 => ?_)
            have h := nl_u e_v2_18 h
            refine lv_istore_n (lv' := [(2, .int v2_18), (3, .int v3_11), (1, .int v1_4), (0, .ref h_rd)]) hx hb d_BitReader_nextNumber_52 rfl hl (by decide) rfl (fun ls hl => ?_)
            obtain ⟨v3_19, e_v3_19⟩ : ∃ y9 : Int32, y9 = (v3_11 + (1 : Int32)) := ⟨_, rfl⟩
            have h := nl_u e_v3_19 h
            refine lv_iinc (v := v3_19) (lv' := [(3, .int v3_19), (2, .int v2_18), (1, .int v1_4), (0, .ref h_rd)]) hx hb d_BitReader_nextNumber_53 hl (k := 1) rfl (by rw [e_v3_19]; rfl) (by decide) rfl (fun ls hl => ?_)
            refine lv_goto (tgt := 39) hx hb d_BitReader_nextNumber_56 (by decide) ?_
            exact ih_self39 _ _ _ _ _ _ _ h hP hD hS hl
      exact w_self39 FU _ _ _ _ _ _ _ h hP hD hS hl
    · have h := if_f h c_1
      refine lv_aload_n hx hb d_BitReader_nextNumber_27 rfl (lv_at hl 1 rfl) ?_
      refine lv_bipush (v := 8) hx hb d_BitReader_nextNumber_28 (by decide) ?_
      obtain ⟨o9, hc9, h⟩ := bd_e h
      have hPc := hP.sub (ws' := [(h_rd, .inr (2, [.ref h_cb, .int rd_place_5, .int rd_refusal_6]))]) [0] rfl
      have hKc := hK.sub (tys' := []) [] rfl
      have hDc := hD.sub (ws' := [(h_rd, .inr (2, [.ref h_cb, .int rd_place_5, .int rd_refusal_6]))]) [0] (by decide) rfl
      have hFc := va_free (wc := [(h_rd, .inr (2, [.ref h_cb, .int rd_place_5, .int rd_refusal_6]))]) hD hS hA [0] rfl
      refine va_callv (va_runV (As := [.int (8 : Int32)]) (rest := []) ⟨hx, hb, hml, hown, hB⟩ (c_BitReader_refuse l dC dI h_rd (.ref h_cb) (.int rd_place_5) rd_refusal_6 (8 : Int32) _ o9 hc9) (cwV 1 hB (goodA (m4 bw_518 bw_520 bs_35 bw_11) (goodB bw_521)) rfl rfl rfl (by decide +kernel) ⟨Nat.le_of_ble_eq_true rfl, Nat.le_of_ble_eq_true rfl⟩) ⟨fb_m, va_recv hK hP (ci := 2) (q0 := 0) rfl rfl, (pre_m hPc hKc hDc hnw [.ref h_rd, .int (8 : Int32)])⟩ rfl rfl hl.1 rfl (lv_room (Nat.le_of_ble_eq_true rfl)) d_BitReader_nextNumber_30 ⟨Nat.zero_le _, Nat.zero_le _⟩) hS (fun q _ h => hFc q h) hFc (fun u9 t H1 locs ht hvm hw hB hz1 hk1 hS => ?_)
      obtain ⟨rd_refusal_20, rfl⟩ : ∃ z9, z9 = u9 := ⟨_, rfl⟩
      subst hw
      obtain ⟨hP1, hK1, hD1⟩ := hB
      rw [ht] at hP1
      obtain ⟨hP, hD⟩ := va_join (wr := [(h_cb, .inr (4, [.ref h_cb_bytes, .int cb_count])), (h_cb_bytes, .inl (c_cb_bytes, 2000, .inl cb_bytes))]) (w1 := [(h_rd, .inr (2, [.ref h_cb, .int rd_place_5, .int rd_refusal_20]))]) hP hD [0] [1, 2] rfl rfl (by decide) (by decide) hk1 hFc hP1 hD1
      have hP := hP.sub (ws' := [(h_rd, .inr (2, [.ref h_cb, .int rd_place_5, .int rd_refusal_20])), (h_cb, .inr (4, [.ref h_cb_bytes, .int cb_count])), (h_cb_bytes, .inl (c_cb_bytes, 2000, .inl cb_bytes))]) [2, 0, 1] rfl
      have hD := hD.sub (ws' := [(h_rd, .inr (2, [.ref h_cb, .int rd_place_5, .int rd_refusal_20])), (h_cb, .inr (4, [.ref h_cb_bytes, .int cb_count])), (h_cb_bytes, .inl (c_cb_bytes, 2000, .inl cb_bytes))]) [2, 0, 1] (by decide) rfl
      clear hPc hKc hDc hFc hc9 hP1 hK1 hD1 hk1 hz1 hvm ht
      generalize H1 = H at hP hS ⊢
      try dsimp only at h
      refine lv_iconst (v := 0) hx hb d_BitReader_nextNumber_33 (by decide) ?_
      subst eQ
      exact W.iret (v := (0 : Int32)) hx hb hr (fun t ht hW => ⟨⟨_, (rd_place_5, rd_refusal_20), rfl, Option.some.inj h, by rw [ht]; exact hP, va_K.moved hW.alike hK, hD⟩, hS.F ht⟩) hS.2.2 d_BitReader_nextNumber_34
  have w_self2 : ∀ n9 : Nat, ∀ (v1_1 : Int32) (rd_place_2 : Int32) (rd_refusal_3 : Int32) (H : Heap) (locs : List Loc) (ls : Array Slot), lp (f_BitReader_nextNumber_L2 cb_count cb_bytes k21) n9 (v1_1, rd_place_2, rd_refusal_3) = some o → va_P (dC, dI) CL [(h_rd, .inr (2, [.ref h_cb, .int rd_place_2, .int rd_refusal_3])), (h_cb, .inr (4, [.ref h_cb_bytes, .int cb_count])), (h_cb_bytes, .inl (c_cb_bytes, 2000, .inl cb_bytes))] H → va_D A [(h_rd, .inr (2, [.ref h_cb, .int rd_place_2, .int rd_refusal_3])), (h_cb, .inr (4, [.ref h_cb_bytes, .int cb_count])), (h_cb_bytes, .inl (c_cb_bytes, 2000, .inl cb_bytes))] → va_S A s.heap H locs → lv_has ls 4 [(1, .int v1_1), (0, .ref h_rd)] → W p l e ({ frames := 1, cells := 0, slots := 0, locals := 21 } : Room) s m ([.ref h_rd] : List Value).toArray below meth c H locs 0 0 Q9 (F0 m 2 ls []) := by
    intro n9
    induction n9 with
    | zero =>
      intro v1_1 rd_place_2 rd_refusal_3 H locs ls h hP hD hS hl
      exact absurd h (by simp [lp])
    | succ n9 ih_self2 =>
      intro v1_1 rd_place_2 rd_refusal_3 H locs ls h hP hD hS hl
      obtain ⟨self2, e_self2, h⟩ := abs_k (P := fun z9 => f_BitReader_nextNumber_L2 cb_count cb_bytes k21 z9 (v1_1, rd_place_2, rd_refusal_3) = some o) (lp_e h)
      rw [← e_self2] at ih_self2
      unfold f_BitReader_nextNumber_L2 at h
      try dsimp only at h
      refine lv_iload_n hx hb d_BitReader_nextNumber_2 rfl (lv_at hl 0 rfl) ?_
      refine lv_bipush (v := 12) hx hb d_BitReader_nextNumber_3 (by decide) ?_
      refine lv_icmp_gt (tgt := 21) hx hb d_BitReader_nextNumber_5 (by decide) (fun c_3 => ?_) (fun c_3 => ?_)
      · have h := if_t h c_3
        exact w_k21 _ _ _ _ _ _ h hP hD hS hl
      · have h := if_f h c_3
        refine lv_aload_n hx hb d_BitReader_nextNumber_8 rfl (lv_at hl 1 rfl) ?_
        obtain ⟨o9, hc9, h⟩ := bd_e h
        have hPc := hP.sub (ws' := [(h_rd, .inr (2, [.ref h_cb, .int rd_place_2, .int rd_refusal_3])), (h_cb, .inr (4, [.ref h_cb_bytes, .int cb_count])), (h_cb_bytes, .inl (c_cb_bytes, 2000, .inl cb_bytes))]) [0, 1, 2] rfl
        have hKc := hK.sub (tys' := [(c_cb_bytes, .int)]) [0] rfl
        have hDc := hD.sub (ws' := [(h_rd, .inr (2, [.ref h_cb, .int rd_place_2, .int rd_refusal_3])), (h_cb, .inr (4, [.ref h_cb_bytes, .int cb_count])), (h_cb_bytes, .inl (c_cb_bytes, 2000, .inl cb_bytes))]) [0, 1, 2] (by decide) rfl
        have hFc := va_free (wc := [(h_rd, .inr (2, [.ref h_cb, .int rd_place_2, .int rd_refusal_3])), (h_cb, .inr (4, [.ref h_cb_bytes, .int cb_count])), (h_cb_bytes, .inl (c_cb_bytes, 2000, .inl cb_bytes))]) hD hS hA [0, 1, 2] rfl
        refine va_calli (va_runV (As := []) (rest := []) ⟨hx, hb, hml, hown, hB⟩ (c_BitReader_nextBit l dC dI h_rd h_cb h_cb_bytes c_cb_bytes rd_place_2 rd_refusal_3 cb_count cb_bytes _ o9 hc9) (cwV 0 hB (goodA (m4 bw_514 bw_516 bs_34 bw_11) (goodB bw_517)) rfl rfl rfl (by decide +kernel) ⟨Nat.le_of_ble_eq_true rfl, Nat.le_of_ble_eq_true rfl⟩) ⟨fb_m, va_recv hK hP (ci := 2) (q0 := 0) rfl rfl, (pre_m hPc hKc hDc hnw [.ref h_rd])⟩ rfl rfl hl.1 rfl (lv_room (Nat.le_of_ble_eq_true rfl)) d_BitReader_nextNumber_9 ⟨Nat.zero_le _, Nat.zero_le _⟩) hS (fun q _ h => hFc q h) hFc (fun r_7 u9 t H1 locs ht hvm hw hB hz1 hk1 hS => ?_)
        obtain ⟨rd_place_8, rd_refusal_9⟩ := u9
        subst hw
        obtain ⟨hP1, hK1, hD1⟩ := hB
        rw [ht] at hP1
        obtain ⟨hP, hD⟩ := va_join (wr := []) (w1 := [(h_rd, .inr (2, [.ref h_cb, .int rd_place_8, .int rd_refusal_9])), (h_cb, .inr (4, [.ref h_cb_bytes, .int cb_count])), (h_cb_bytes, .inl (c_cb_bytes, 2000, .inl cb_bytes))]) hP hD [0, 1, 2] [] rfl rfl (by decide) (by decide) hk1 hFc hP1 hD1
        have hP := hP.sub (ws' := [(h_rd, .inr (2, [.ref h_cb, .int rd_place_8, .int rd_refusal_9])), (h_cb, .inr (4, [.ref h_cb_bytes, .int cb_count])), (h_cb_bytes, .inl (c_cb_bytes, 2000, .inl cb_bytes))]) [0, 1, 2] rfl
        have hD := hD.sub (ws' := [(h_rd, .inr (2, [.ref h_cb, .int rd_place_8, .int rd_refusal_9])), (h_cb, .inr (4, [.ref h_cb_bytes, .int cb_count])), (h_cb_bytes, .inl (c_cb_bytes, 2000, .inl cb_bytes))]) [0, 1, 2] (by decide) rfl
        clear hPc hKc hDc hFc hc9 hP1 hK1 hD1 hk1 hz1 hvm ht
        generalize H1 = H at hP hS ⊢
        try dsimp only at h
        refine lv_if_ne (tgt := 21) hx hb d_BitReader_nextNumber_12 (by decide) (fun c_4 => ?_) (fun c_4 => ?_)
        · have h := if_f h c_4
          exact w_k21 _ _ _ _ _ _ h hP hD hS hl
        · have h := if_t h c_4
          obtain ⟨v1_10, e_v1_10⟩ : ∃ y9 : Int32, y9 = (v1_1 + (1 : Int32)) := ⟨_, rfl⟩
          have h := nl_u e_v1_10 h
          refine lv_iinc (v := v1_10) (lv' := [(1, .int v1_10), (0, .ref h_rd)]) hx hb d_BitReader_nextNumber_15 hl (k := 0) rfl (by rw [e_v1_10]; rfl) (by decide) rfl (fun ls hl => ?_)
          refine lv_goto (tgt := 2) hx hb d_BitReader_nextNumber_18 (by decide) ?_
          exact ih_self2 _ _ _ _ _ _ h hP hD hS hl
  exact w_self2 FU _ _ _ _ _ _ h hP hD hS hl
set_option maxHeartbeats 4000000 in
set_option maxRecDepth 100000 in
theorem c_BitReader_nextSigned (l : Launch) (dC : Nat → ClassId) (dI : Nat → Nat → Nat) (h_rd : Nat) (h_cb : Nat) (h_cb_bytes : Nat) (c_cb_bytes : ClassId) (rd_place : Int32) (rd_refusal : Int32) (cb_count : Int32) (cb_bytes : (Nat → Int32)) (sz : Nat) (o : Int32 × Int32 × Int32) (hf : f_BitReader_nextSigned rd_place rd_refusal cb_count cb_bytes = some o) :
    Met l y_BitReader_nextSigned ws_BitReader_nextSigned { frames := 2, cells := 0, slots := 0, locals := 44 } (va_Pc [.ref h_rd] (PcM (dC, dI) [(h_rd, .inr (2, [.ref h_cb, .int rd_place, .int rd_refusal])), (h_cb, .inr (4, [.ref h_cb_bytes, .int cb_count])), (h_cb_bytes, .inl (c_cb_bytes, 2000, .inl cb_bytes))] [(c_cb_bytes, .int)] sz))
      (va_Qi (fun (r : Int32) (u : Int32 × Int32) => (r, u) = o) (fun u t => va_P (dC, dI) CL [(h_rd, .inr (2, [.ref h_cb, .int (u.1), .int (u.2)])), (h_cb, .inr (4, [.ref h_cb_bytes, .int cb_count])), (h_cb_bytes, .inl (c_cb_bytes, 2000, .inl cb_bytes))] t.heap ∧ va_K (dC, dI) CL [(c_cb_bytes, .int)] t ∧ va_D (va_A [(h_rd, .inr (2, [.ref h_cb, .int rd_place, .int rd_refusal])), (h_cb, .inr (4, [.ref h_cb_bytes, .int cb_count])), (h_cb_bytes, .inl (c_cb_bytes, 2000, .inl cb_bytes))] sz) [(h_rd, .inr (2, [.ref h_cb, .int (u.1), .int (u.2)])), (h_cb, .inr (4, [.ref h_cb_bytes, .int cb_count])), (h_cb_bytes, .inl (c_cb_bytes, 2000, .inl cb_bytes))]) (va_A [(h_rd, .inr (2, [.ref h_cb, .int rd_place, .int rd_refusal])), (h_cb, .inr (4, [.ref h_cb_bytes, .int cb_count])), (h_cb_bytes, .inl (c_cb_bytes, 2000, .inl cb_bytes))] sz)) 0 0 (va_A [(h_rd, .inr (2, [.ref h_cb, .int rd_place, .int rd_refusal])), (h_cb, .inr (4, [.ref h_cb_bytes, .int cb_count])), (h_cb_bytes, .inl (c_cb_bytes, 2000, .inl cb_bytes))] sz) := by
  refine Met.ofW (cc := b_BitReader_nextSigned) (maxL := 2) (ret := (some .int)) (by decide) rfl ?_
  intro p e s m args below meth c s₁ B hml hv
  obtain ⟨rfl, hsz, hP, hK, hD0, hnw⟩ := hv
  have hx := B.exec
  have hb := B.bytes
  have hr := B.returns
  have hts := atoms_spec (ws := ws_BitReader_nextSigned) B.pre
  have hB : ∀ w ∈ BIG, w.before _ s = true := fun w h => hts w (List.mem_cons_of_mem _ h)
  have hown : s.vm.findClass R_BitReader = some m.cls := findClass_of_methodNamed B.named
  have hlocks := B.notSynchronized
  subst hsz
  have hD := hD0.self (sz := s.heap.size)
  refine W_Q (fun Q9 eQ => ?_)
  generalize hAe : va_A [(h_rd, .inr (2, [.ref h_cb, .int rd_place, .int rd_refusal])), (h_cb, .inr (4, [.ref h_cb_bytes, .int cb_count])), (h_cb_bytes, .inl (c_cb_bytes, 2000, .inl cb_bytes))] s.heap.size = A at hD eQ
  have hA : ∀ q : Nat, s.heap.size ≤ q → A q := fun q h => by rw [← hAe]; exact Or.inr h
  have hS : va_S A s.heap s.heap [] := va_S.rf
  have hl := lv_entry ([.ref h_rd]) (n := 2) (Nat.le_of_ble_eq_true rfl)
  rw [lg_entry_eq]
  generalize (lg_sl ([.ref h_rd]) ++ List.replicate (2 - (lg_sl ([.ref h_rd])).length) Slot.unset).toArray = ls at hl ⊢
  have hl : lv_has ls 2 [(0, .ref h_rd)] := hl
  have h := hf
  unfold f_BitReader_nextSigned at h
  refine lv_aload_n hx hb d_BitReader_nextSigned_0 rfl (lv_at hl 0 rfl) ?_
  obtain ⟨o9, hc9, h⟩ := bd_e h
  have hPc := hP.sub (ws' := [(h_rd, .inr (2, [.ref h_cb, .int rd_place, .int rd_refusal])), (h_cb, .inr (4, [.ref h_cb_bytes, .int cb_count])), (h_cb_bytes, .inl (c_cb_bytes, 2000, .inl cb_bytes))]) [0, 1, 2] rfl
  have hKc := hK.sub (tys' := [(c_cb_bytes, .int)]) [0] rfl
  have hDc := hD.sub (ws' := [(h_rd, .inr (2, [.ref h_cb, .int rd_place, .int rd_refusal])), (h_cb, .inr (4, [.ref h_cb_bytes, .int cb_count])), (h_cb_bytes, .inl (c_cb_bytes, 2000, .inl cb_bytes))]) [0, 1, 2] (by decide) rfl
  have hFc := va_free (wc := [(h_rd, .inr (2, [.ref h_cb, .int rd_place, .int rd_refusal])), (h_cb, .inr (4, [.ref h_cb_bytes, .int cb_count])), (h_cb_bytes, .inl (c_cb_bytes, 2000, .inl cb_bytes))]) hD hS hA [0, 1, 2] rfl
  refine va_calli (va_runV (As := []) (rest := []) ⟨hx, hb, hml, hown, hB⟩ (c_BitReader_nextNumber l dC dI h_rd h_cb h_cb_bytes c_cb_bytes rd_place rd_refusal cb_count cb_bytes _ o9 hc9) (cwV 0 hB (goodA (m4 bw_565 bw_512 bs_33 bw_11) (goodB bw_513)) rfl rfl rfl (by decide +kernel) ⟨Nat.le_of_ble_eq_true rfl, Nat.le_of_ble_eq_true rfl⟩) ⟨fb_m, va_recv hK hP (ci := 2) (q0 := 0) rfl rfl, (pre_m hPc hKc hDc hnw [.ref h_rd])⟩ rfl rfl hl.1 rfl (lv_room (Nat.le_of_ble_eq_true rfl)) d_BitReader_nextSigned_1 ⟨Nat.zero_le _, Nat.zero_le _⟩) hS (fun q _ h => hFc q h) hFc (fun r_1 u9 t H1 locs ht hvm hw hB hz1 hk1 hS => ?_)
  obtain ⟨rd_place_2, rd_refusal_3⟩ := u9
  subst hw
  obtain ⟨hP1, hK1, hD1⟩ := hB
  rw [ht] at hP1
  obtain ⟨hP, hD⟩ := va_join (wr := []) (w1 := [(h_rd, .inr (2, [.ref h_cb, .int rd_place_2, .int rd_refusal_3])), (h_cb, .inr (4, [.ref h_cb_bytes, .int cb_count])), (h_cb_bytes, .inl (c_cb_bytes, 2000, .inl cb_bytes))]) hP hD [0, 1, 2] [] rfl rfl (by decide) (by decide) hk1 hFc hP1 hD1
  have hP := hP.sub (ws' := [(h_rd, .inr (2, [.ref h_cb, .int rd_place_2, .int rd_refusal_3])), (h_cb, .inr (4, [.ref h_cb_bytes, .int cb_count])), (h_cb_bytes, .inl (c_cb_bytes, 2000, .inl cb_bytes))]) [0, 1, 2] rfl
  have hD := hD.sub (ws' := [(h_rd, .inr (2, [.ref h_cb, .int rd_place_2, .int rd_refusal_3])), (h_cb, .inr (4, [.ref h_cb_bytes, .int cb_count])), (h_cb_bytes, .inl (c_cb_bytes, 2000, .inl cb_bytes))]) [0, 1, 2] (by decide) rfl
  clear hPc hKc hDc hFc hc9 hP1 hK1 hD1 hk1 hz1 hvm ht
  generalize H1 = H at hP hS ⊢
  try dsimp only at h
  refine lv_istore_n (lv' := [(1, .int r_1), (0, .ref h_rd)]) hx hb d_BitReader_nextSigned_4 rfl hl (by decide) rfl (fun ls hl => ?_)
  refine lv_iload_n hx hb d_BitReader_nextSigned_5 rfl (lv_at hl 0 rfl) ?_
  refine lv_iconst (v := 2) hx hb d_BitReader_nextSigned_6 (by decide) ?_
  refine lv_irem hx hb d_BitReader_nextSigned_7 (by decide) ?_
  refine lv_if_ne (tgt := 17) hx hb d_BitReader_nextSigned_8 (by decide) (fun c_1 => ?_) (fun c_1 => ?_)
  · have h := if_f h c_1
    refine lv_iload_n hx hb d_BitReader_nextSigned_17 rfl (lv_at hl 0 rfl) ?_
    refine lv_iconst (v := 2) hx hb d_BitReader_nextSigned_18 (by decide) ?_
    refine lv_idiv hx hb d_BitReader_nextSigned_19 (by decide) ?_
    refine lv_ineg hx hb d_BitReader_nextSigned_20 ?_
    refine lv_iconst (v := 1) hx hb d_BitReader_nextSigned_21 (by decide) ?_
    refine lv_isub hx hb d_BitReader_nextSigned_22 ?_
    subst eQ
    exact W.iret (v := ((-(r_1 / (2 : Int32))) - (1 : Int32))) hx hb hr (fun t ht hW => ⟨⟨_, (rd_place_2, rd_refusal_3), rfl, Option.some.inj h, by rw [ht]; exact hP, va_K.moved hW.alike hK, hD⟩, hS.F ht⟩) hS.2.2 d_BitReader_nextSigned_23
  · have h := if_t h c_1
    refine lv_iload_n hx hb d_BitReader_nextSigned_11 rfl (lv_at hl 0 rfl) ?_
    refine lv_iconst (v := 2) hx hb d_BitReader_nextSigned_12 (by decide) ?_
    refine lv_idiv hx hb d_BitReader_nextSigned_13 (by decide) ?_
    refine lv_goto (tgt := 23) hx hb d_BitReader_nextSigned_14 (by decide) ?_
    subst eQ
    exact W.iret (v := (r_1 / (2 : Int32))) hx hb hr (fun t ht hW => ⟨⟨_, (rd_place_2, rd_refusal_3), rfl, Option.some.inj h, by rw [ht]; exact hP, va_K.moved hW.alike hK, hD⟩, hS.F ht⟩) hS.2.2 d_BitReader_nextSigned_23
set_option maxHeartbeats 4000000 in
set_option maxRecDepth 100000 in
theorem c_BitReader_readEnd (l : Launch) (dC : Nat → ClassId) (dI : Nat → Nat → Nat) (h_rd : Nat) (h_cb : Nat) (h_cb_bytes : Nat) (c_cb_bytes : ClassId) (rd_place : Int32) (rd_refusal : Int32) (cb_count : Int32) (cb_bytes : (Nat → Int32)) (sz : Nat) (o : Int32 × Int32) (hf : f_BitReader_readEnd rd_place rd_refusal cb_count cb_bytes = some o) :
    Met l y_BitReader_readEnd ws_BitReader_readEnd { frames := 1, cells := 0, slots := 0, locals := 21 } (va_Pc [.ref h_rd] (PcM (dC, dI) [(h_rd, .inr (2, [.ref h_cb, .int rd_place, .int rd_refusal])), (h_cb, .inr (4, [.ref h_cb_bytes, .int cb_count])), (h_cb_bytes, .inl (c_cb_bytes, 2000, .inl cb_bytes))] [(c_cb_bytes, .int)] sz))
      (va_Qv (fun u : Int32 × Int32 => u = o) (fun u t => va_P (dC, dI) CL [(h_rd, .inr (2, [.ref h_cb, .int (u.1), .int (u.2)])), (h_cb, .inr (4, [.ref h_cb_bytes, .int cb_count])), (h_cb_bytes, .inl (c_cb_bytes, 2000, .inl cb_bytes))] t.heap ∧ va_K (dC, dI) CL [(c_cb_bytes, .int)] t ∧ va_D (va_A [(h_rd, .inr (2, [.ref h_cb, .int rd_place, .int rd_refusal])), (h_cb, .inr (4, [.ref h_cb_bytes, .int cb_count])), (h_cb_bytes, .inl (c_cb_bytes, 2000, .inl cb_bytes))] sz) [(h_rd, .inr (2, [.ref h_cb, .int (u.1), .int (u.2)])), (h_cb, .inr (4, [.ref h_cb_bytes, .int cb_count])), (h_cb_bytes, .inl (c_cb_bytes, 2000, .inl cb_bytes))]) (va_A [(h_rd, .inr (2, [.ref h_cb, .int rd_place, .int rd_refusal])), (h_cb, .inr (4, [.ref h_cb_bytes, .int cb_count])), (h_cb_bytes, .inl (c_cb_bytes, 2000, .inl cb_bytes))] sz)) 0 0 (va_A [(h_rd, .inr (2, [.ref h_cb, .int rd_place, .int rd_refusal])), (h_cb, .inr (4, [.ref h_cb_bytes, .int cb_count])), (h_cb_bytes, .inl (c_cb_bytes, 2000, .inl cb_bytes))] sz) := by
  refine Met.ofW (cc := b_BitReader_readEnd) (maxL := 2) (ret := none) (by decide) rfl ?_
  intro p e s m args below meth c s₁ B hml hv
  obtain ⟨rfl, hsz, hP, hK, hD0, hnw⟩ := hv
  have hx := B.exec
  have hb := B.bytes
  have hr := B.returns
  have hts := atoms_spec (ws := ws_BitReader_readEnd) B.pre
  have hB : ∀ w ∈ BIG, w.before _ s = true := fun w h => hts w (List.mem_cons_of_mem _ h)
  have hown : s.vm.findClass R_BitReader = some m.cls := findClass_of_methodNamed B.named
  have hlocks := B.notSynchronized
  subst hsz
  have hD := hD0.self (sz := s.heap.size)
  refine W_Q (fun Q9 eQ => ?_)
  generalize hAe : va_A [(h_rd, .inr (2, [.ref h_cb, .int rd_place, .int rd_refusal])), (h_cb, .inr (4, [.ref h_cb_bytes, .int cb_count])), (h_cb_bytes, .inl (c_cb_bytes, 2000, .inl cb_bytes))] s.heap.size = A at hD eQ
  have hA : ∀ q : Nat, s.heap.size ≤ q → A q := fun q h => by rw [← hAe]; exact Or.inr h
  have hS : va_S A s.heap s.heap [] := va_S.rf
  have hl := lv_entry ([.ref h_rd]) (n := 2) (Nat.le_of_ble_eq_true rfl)
  rw [lg_entry_eq]
  generalize (lg_sl ([.ref h_rd]) ++ List.replicate (2 - (lg_sl ([.ref h_rd])).length) Slot.unset).toArray = ls at hl ⊢
  have hl : lv_has ls 2 [(0, .ref h_rd)] := hl
  have h := hf
  unfold f_BitReader_readEnd at h
  refine lv_iconst (v := 0) hx hb d_BitReader_readEnd_0 (by decide) ?_
  refine lv_istore_n (lv' := [(1, .int (0 : Int32)), (0, .ref h_rd)]) hx hb d_BitReader_readEnd_1 rfl hl (by decide) rfl (fun ls hl => ?_)
  obtain ⟨k38, e_k38, h⟩ := abs_k (P := fun k9 => lp (f_BitReader_readEnd_L2 cb_count cb_bytes k9) FU ((0 : Int32), rd_place, rd_refusal) = some o) h
  have w_k38 : ∀ (rd_place_4 : Int32) (rd_refusal_5 : Int32) (H : Heap) (locs : List Loc) (ls : Array Slot), k38 rd_place_4 rd_refusal_5 = some o → va_P (dC, dI) CL [(h_rd, .inr (2, [.ref h_cb, .int rd_place_4, .int rd_refusal_5])), (h_cb, .inr (4, [.ref h_cb_bytes, .int cb_count])), (h_cb_bytes, .inl (c_cb_bytes, 2000, .inl cb_bytes))] H → va_D A [(h_rd, .inr (2, [.ref h_cb, .int rd_place_4, .int rd_refusal_5])), (h_cb, .inr (4, [.ref h_cb_bytes, .int cb_count])), (h_cb_bytes, .inl (c_cb_bytes, 2000, .inl cb_bytes))] → va_S A s.heap H locs → lv_has ls 2 [(0, .ref h_rd)] → W p l e ({ frames := 1, cells := 0, slots := 0, locals := 21 } : Room) s m ([.ref h_rd] : List Value).toArray below meth c H locs 0 0 Q9 (F0 m 38 ls []) := by
    intro rd_place_4 rd_refusal_5 H locs ls h hP hD hS hl
    rw [e_k38] at h
    refine lv_aload_n hx hb d_BitReader_readEnd_38 rfl (lv_at hl 0 rfl) ?_
    refine va_get (D := (dC, dI)) (ci := 2) (v := .int rd_place_4) (C := R_BitReader) (T := T_BitReader) (N := 3) hx hb hB iw_BitReader hown hK hP 0 rfl rfl 1 (by decide) (hB _ bw_181) (fun _ h9 => h9) rfl d_BitReader_readEnd_39 ?_
    refine lv_bipush (v := 8) hx hb d_BitReader_readEnd_42 (by decide) ?_
    refine lv_idiv hx hb d_BitReader_readEnd_44 (by decide) ?_
    refine lv_aload_n hx hb d_BitReader_readEnd_45 rfl (lv_at hl 0 rfl) ?_
    refine va_get (D := (dC, dI)) (ci := 2) (v := .ref h_cb) (C := R_BitReader) (T := T_BitReader) (N := 3) hx hb hB iw_BitReader hown hK hP 0 rfl rfl 0 (by decide) (hB _ bw_180) (fun _ h9 => h9) rfl d_BitReader_readEnd_46 ?_
    refine va_getN (D := (dC, dI)) (ci := 4) (v := .int cb_count) (C := R_ByteRow) (T := T_ByteRow) (N := 2) hx hb hB iw_ByteRow hown hK hP 1 rfl rfl 1 (by decide) (va_Nw.use rfl (hnw.1 _ bn_100)) (fun _ h9 => h9) rfl d_BitReader_readEnd_49 ?_
    refine lv_icmp_ge (tgt := 61) hx hb d_BitReader_readEnd_52 (by decide) (fun c_1 => ?_) (fun c_1 => ?_)
    · have h := if_t h c_1
      subst eQ
      exact W.vret hx hb hr (fun t ht hW => ⟨⟨(rd_place_4, rd_refusal_5), rfl, Option.some.inj h, by rw [ht]; exact hP, va_K.moved hW.alike hK, hD⟩, hS.F ht⟩) hS.2.2 d_BitReader_readEnd_61
    · have h := if_f h c_1
      refine lv_aload_n hx hb d_BitReader_readEnd_55 rfl (lv_at hl 0 rfl) ?_
      refine lv_bipush (v := 9) hx hb d_BitReader_readEnd_56 (by decide) ?_
      obtain ⟨o9, hc9, h⟩ := bd_e h
      have hPc := hP.sub (ws' := [(h_rd, .inr (2, [.ref h_cb, .int rd_place_4, .int rd_refusal_5]))]) [0] rfl
      have hKc := hK.sub (tys' := []) [] rfl
      have hDc := hD.sub (ws' := [(h_rd, .inr (2, [.ref h_cb, .int rd_place_4, .int rd_refusal_5]))]) [0] (by decide) rfl
      have hFc := va_free (wc := [(h_rd, .inr (2, [.ref h_cb, .int rd_place_4, .int rd_refusal_5]))]) hD hS hA [0] rfl
      refine va_callv (va_runV (As := [.int (9 : Int32)]) (rest := []) ⟨hx, hb, hml, hown, hB⟩ (c_BitReader_refuse l dC dI h_rd (.ref h_cb) (.int rd_place_4) rd_refusal_5 (9 : Int32) _ o9 hc9) (cwV 1 hB (goodA (m4 bw_518 bw_520 bs_35 bw_11) (goodB bw_521)) rfl rfl rfl (by decide +kernel) ⟨Nat.le_of_ble_eq_true rfl, Nat.le_of_ble_eq_true rfl⟩) ⟨fb_m, va_recv hK hP (ci := 2) (q0 := 0) rfl rfl, (pre_m hPc hKc hDc hnw [.ref h_rd, .int (9 : Int32)])⟩ rfl rfl hl.1 rfl (lv_room (Nat.le_of_ble_eq_true rfl)) d_BitReader_readEnd_58 ⟨Nat.zero_le _, Nat.zero_le _⟩) hS (fun q _ h => hFc q h) hFc (fun u9 t H1 locs ht hvm hw hB hz1 hk1 hS => ?_)
      obtain ⟨rd_refusal_12, rfl⟩ : ∃ z9, z9 = u9 := ⟨_, rfl⟩
      subst hw
      obtain ⟨hP1, hK1, hD1⟩ := hB
      rw [ht] at hP1
      obtain ⟨hP, hD⟩ := va_join (wr := [(h_cb, .inr (4, [.ref h_cb_bytes, .int cb_count])), (h_cb_bytes, .inl (c_cb_bytes, 2000, .inl cb_bytes))]) (w1 := [(h_rd, .inr (2, [.ref h_cb, .int rd_place_4, .int rd_refusal_12]))]) hP hD [0] [1, 2] rfl rfl (by decide) (by decide) hk1 hFc hP1 hD1
      have hP := hP.sub (ws' := [(h_rd, .inr (2, [.ref h_cb, .int rd_place_4, .int rd_refusal_12])), (h_cb, .inr (4, [.ref h_cb_bytes, .int cb_count])), (h_cb_bytes, .inl (c_cb_bytes, 2000, .inl cb_bytes))]) [2, 0, 1] rfl
      have hD := hD.sub (ws' := [(h_rd, .inr (2, [.ref h_cb, .int rd_place_4, .int rd_refusal_12])), (h_cb, .inr (4, [.ref h_cb_bytes, .int cb_count])), (h_cb_bytes, .inl (c_cb_bytes, 2000, .inl cb_bytes))]) [2, 0, 1] (by decide) rfl
      clear hPc hKc hDc hFc hc9 hP1 hK1 hD1 hk1 hz1 hvm ht
      generalize H1 = H at hP hS ⊢
      try dsimp only at h
      subst eQ
      exact W.vret hx hb hr (fun t ht hW => ⟨⟨(rd_place_4, rd_refusal_12), rfl, Option.some.inj h, by rw [ht]; exact hP, va_K.moved hW.alike hK, hD⟩, hS.F ht⟩) hS.2.2 d_BitReader_readEnd_61
  have w_self2 : ∀ n9 : Nat, ∀ (v1_1 : Int32) (rd_place_2 : Int32) (rd_refusal_3 : Int32) (H : Heap) (locs : List Loc) (ls : Array Slot), lp (f_BitReader_readEnd_L2 cb_count cb_bytes k38) n9 (v1_1, rd_place_2, rd_refusal_3) = some o → va_P (dC, dI) CL [(h_rd, .inr (2, [.ref h_cb, .int rd_place_2, .int rd_refusal_3])), (h_cb, .inr (4, [.ref h_cb_bytes, .int cb_count])), (h_cb_bytes, .inl (c_cb_bytes, 2000, .inl cb_bytes))] H → va_D A [(h_rd, .inr (2, [.ref h_cb, .int rd_place_2, .int rd_refusal_3])), (h_cb, .inr (4, [.ref h_cb_bytes, .int cb_count])), (h_cb_bytes, .inl (c_cb_bytes, 2000, .inl cb_bytes))] → va_S A s.heap H locs → lv_has ls 2 [(1, .int v1_1), (0, .ref h_rd)] → W p l e ({ frames := 1, cells := 0, slots := 0, locals := 21 } : Room) s m ([.ref h_rd] : List Value).toArray below meth c H locs 0 0 Q9 (F0 m 2 ls []) := by
    intro n9
    induction n9 with
    | zero =>
      intro v1_1 rd_place_2 rd_refusal_3 H locs ls h hP hD hS hl
      exact absurd h (by simp [lp])
    | succ n9 ih_self2 =>
      intro v1_1 rd_place_2 rd_refusal_3 H locs ls h hP hD hS hl
      obtain ⟨self2, e_self2, h⟩ := abs_k (P := fun z9 => f_BitReader_readEnd_L2 cb_count cb_bytes k38 z9 (v1_1, rd_place_2, rd_refusal_3) = some o) (lp_e h)
      rw [← e_self2] at ih_self2
      unfold f_BitReader_readEnd_L2 at h
      try dsimp only at h
      refine lv_iload_n hx hb d_BitReader_readEnd_2 rfl (lv_at hl 0 rfl) ?_
      refine lv_bipush (v := 8) hx hb d_BitReader_readEnd_3 (by decide) ?_
      refine lv_icmp_ge (tgt := 38) hx hb d_BitReader_readEnd_5 (by decide) (fun c_2 => ?_) (fun c_2 => ?_)
      · have h := if_t h c_2
        exact w_k38 _ _ _ _ _ h hP hD hS (lv_sub hl [1] rfl)
      · have h := if_f h c_2
        refine lv_aload_n hx hb d_BitReader_readEnd_8 rfl (lv_at hl 1 rfl) ?_
        refine va_get (D := (dC, dI)) (ci := 2) (v := .int rd_place_2) (C := R_BitReader) (T := T_BitReader) (N := 3) hx hb hB iw_BitReader hown hK hP 0 rfl rfl 1 (by decide) (hB _ bw_181) (fun _ h9 => h9) rfl d_BitReader_readEnd_9 ?_
        refine lv_bipush (v := 8) hx hb d_BitReader_readEnd_12 (by decide) ?_
        refine lv_irem hx hb d_BitReader_readEnd_14 (by decide) ?_
        refine lv_if_eq (tgt := 38) hx hb d_BitReader_readEnd_15 (by decide) (fun c_3 => ?_) (fun c_3 => ?_)
        · have h := if_t h c_3
          exact w_k38 _ _ _ _ _ h hP hD hS (lv_sub hl [1] rfl)
        · have h := if_f h c_3
          refine lv_aload_n hx hb d_BitReader_readEnd_18 rfl (lv_at hl 1 rfl) ?_
          obtain ⟨o9, hc9, h⟩ := bd_e h
          have hPc := hP.sub (ws' := [(h_rd, .inr (2, [.ref h_cb, .int rd_place_2, .int rd_refusal_3])), (h_cb, .inr (4, [.ref h_cb_bytes, .int cb_count])), (h_cb_bytes, .inl (c_cb_bytes, 2000, .inl cb_bytes))]) [0, 1, 2] rfl
          have hKc := hK.sub (tys' := [(c_cb_bytes, .int)]) [0] rfl
          have hDc := hD.sub (ws' := [(h_rd, .inr (2, [.ref h_cb, .int rd_place_2, .int rd_refusal_3])), (h_cb, .inr (4, [.ref h_cb_bytes, .int cb_count])), (h_cb_bytes, .inl (c_cb_bytes, 2000, .inl cb_bytes))]) [0, 1, 2] (by decide) rfl
          have hFc := va_free (wc := [(h_rd, .inr (2, [.ref h_cb, .int rd_place_2, .int rd_refusal_3])), (h_cb, .inr (4, [.ref h_cb_bytes, .int cb_count])), (h_cb_bytes, .inl (c_cb_bytes, 2000, .inl cb_bytes))]) hD hS hA [0, 1, 2] rfl
          refine va_calli (va_runV (As := []) (rest := []) ⟨hx, hb, hml, hown, hB⟩ (c_BitReader_nextBit l dC dI h_rd h_cb h_cb_bytes c_cb_bytes rd_place_2 rd_refusal_3 cb_count cb_bytes _ o9 hc9) (cwV 0 hB (goodA (m4 bw_514 bw_516 bs_34 bw_11) (goodB bw_517)) rfl rfl rfl (by decide +kernel) ⟨Nat.le_of_ble_eq_true rfl, Nat.le_of_ble_eq_true rfl⟩) ⟨fb_m, va_recv hK hP (ci := 2) (q0 := 0) rfl rfl, (pre_m hPc hKc hDc hnw [.ref h_rd])⟩ rfl rfl hl.1 rfl (lv_room (Nat.le_of_ble_eq_true rfl)) d_BitReader_readEnd_19 ⟨Nat.zero_le _, Nat.zero_le _⟩) hS (fun q _ h => hFc q h) hFc (fun r_6 u9 t H1 locs ht hvm hw hB hz1 hk1 hS => ?_)
          obtain ⟨rd_place_7, rd_refusal_8⟩ := u9
          subst hw
          obtain ⟨hP1, hK1, hD1⟩ := hB
          rw [ht] at hP1
          obtain ⟨hP, hD⟩ := va_join (wr := []) (w1 := [(h_rd, .inr (2, [.ref h_cb, .int rd_place_7, .int rd_refusal_8])), (h_cb, .inr (4, [.ref h_cb_bytes, .int cb_count])), (h_cb_bytes, .inl (c_cb_bytes, 2000, .inl cb_bytes))]) hP hD [0, 1, 2] [] rfl rfl (by decide) (by decide) hk1 hFc hP1 hD1
          have hP := hP.sub (ws' := [(h_rd, .inr (2, [.ref h_cb, .int rd_place_7, .int rd_refusal_8])), (h_cb, .inr (4, [.ref h_cb_bytes, .int cb_count])), (h_cb_bytes, .inl (c_cb_bytes, 2000, .inl cb_bytes))]) [0, 1, 2] rfl
          have hD := hD.sub (ws' := [(h_rd, .inr (2, [.ref h_cb, .int rd_place_7, .int rd_refusal_8])), (h_cb, .inr (4, [.ref h_cb_bytes, .int cb_count])), (h_cb_bytes, .inl (c_cb_bytes, 2000, .inl cb_bytes))]) [0, 1, 2] (by decide) rfl
          clear hPc hKc hDc hFc hc9 hP1 hK1 hD1 hk1 hz1 hvm ht
          generalize H1 = H at hP hS ⊢
          try dsimp only at h
          refine lv_iconst (v := 1) hx hb d_BitReader_readEnd_22 (by decide) ?_
          obtain ⟨j32, e_j32, h⟩ := jn_e h
          have w_j32 : ∀ (rd_refusal_9 : Int32) (H : Heap) (locs : List Loc) (ls : Array Slot), j32 rd_refusal_9 = some o → va_P (dC, dI) CL [(h_rd, .inr (2, [.ref h_cb, .int rd_place_7, .int rd_refusal_9])), (h_cb, .inr (4, [.ref h_cb_bytes, .int cb_count])), (h_cb_bytes, .inl (c_cb_bytes, 2000, .inl cb_bytes))] H → va_D A [(h_rd, .inr (2, [.ref h_cb, .int rd_place_7, .int rd_refusal_9])), (h_cb, .inr (4, [.ref h_cb_bytes, .int cb_count])), (h_cb_bytes, .inl (c_cb_bytes, 2000, .inl cb_bytes))] → va_S A s.heap H locs → lv_has ls 2 [(1, .int v1_1), (0, .ref h_rd)] → W p l e ({ frames := 1, cells := 0, slots := 0, locals := 21 } : Room) s m ([.ref h_rd] : List Value).toArray below meth c H locs 0 0 Q9 (F0 m 32 ls []) := by
            intro rd_refusal_9 H locs ls h hP hD hS hl
            rw [e_j32] at h
            obtain ⟨v1_10, e_v1_10⟩ : ∃ y9 : Int32, y9 = (v1_1 + (1 : Int32)) := ⟨_, rfl⟩
            have h := nl_u e_v1_10 h
            refine lv_iinc (v := v1_10) (lv' := [(1, .int v1_10), (0, .ref h_rd)]) hx hb d_BitReader_readEnd_32 hl (k := 0) rfl (by rw [e_v1_10]; rfl) (by decide) rfl (fun ls hl => ?_)
            refine lv_goto (tgt := 2) hx hb d_BitReader_readEnd_35 (by decide) ?_
            exact ih_self2 _ _ _ _ _ _ h hP hD hS hl
          refine lv_icmp_ne (tgt := 32) hx hb d_BitReader_readEnd_23 (by decide) (fun c_4 => ?_) (fun c_4 => ?_)
          · have h := if_f h c_4
            exact w_j32 _ _ _ _ h hP hD hS hl
          · have h := if_t h c_4
            refine lv_aload_n hx hb d_BitReader_readEnd_26 rfl (lv_at hl 1 rfl) ?_
            refine lv_bipush (v := 9) hx hb d_BitReader_readEnd_27 (by decide) ?_
            obtain ⟨o9, hc9, h⟩ := bd_e h
            have hPc := hP.sub (ws' := [(h_rd, .inr (2, [.ref h_cb, .int rd_place_7, .int rd_refusal_8]))]) [0] rfl
            have hKc := hK.sub (tys' := []) [] rfl
            have hDc := hD.sub (ws' := [(h_rd, .inr (2, [.ref h_cb, .int rd_place_7, .int rd_refusal_8]))]) [0] (by decide) rfl
            have hFc := va_free (wc := [(h_rd, .inr (2, [.ref h_cb, .int rd_place_7, .int rd_refusal_8]))]) hD hS hA [0] rfl
            refine va_callv (va_runV (As := [.int (9 : Int32)]) (rest := []) ⟨hx, hb, hml, hown, hB⟩ (c_BitReader_refuse l dC dI h_rd (.ref h_cb) (.int rd_place_7) rd_refusal_8 (9 : Int32) _ o9 hc9) (cwV 1 hB (goodA (m4 bw_518 bw_520 bs_35 bw_11) (goodB bw_521)) rfl rfl rfl (by decide +kernel) ⟨Nat.le_of_ble_eq_true rfl, Nat.le_of_ble_eq_true rfl⟩) ⟨fb_m, va_recv hK hP (ci := 2) (q0 := 0) rfl rfl, (pre_m hPc hKc hDc hnw [.ref h_rd, .int (9 : Int32)])⟩ rfl rfl hl.1 rfl (lv_room (Nat.le_of_ble_eq_true rfl)) d_BitReader_readEnd_29 ⟨Nat.zero_le _, Nat.zero_le _⟩) hS (fun q _ h => hFc q h) hFc (fun u9 t H1 locs ht hvm hw hB hz1 hk1 hS => ?_)
            obtain ⟨rd_refusal_11, rfl⟩ : ∃ z9, z9 = u9 := ⟨_, rfl⟩
            subst hw
            obtain ⟨hP1, hK1, hD1⟩ := hB
            rw [ht] at hP1
            obtain ⟨hP, hD⟩ := va_join (wr := [(h_cb, .inr (4, [.ref h_cb_bytes, .int cb_count])), (h_cb_bytes, .inl (c_cb_bytes, 2000, .inl cb_bytes))]) (w1 := [(h_rd, .inr (2, [.ref h_cb, .int rd_place_7, .int rd_refusal_11]))]) hP hD [0] [1, 2] rfl rfl (by decide) (by decide) hk1 hFc hP1 hD1
            have hP := hP.sub (ws' := [(h_rd, .inr (2, [.ref h_cb, .int rd_place_7, .int rd_refusal_11])), (h_cb, .inr (4, [.ref h_cb_bytes, .int cb_count])), (h_cb_bytes, .inl (c_cb_bytes, 2000, .inl cb_bytes))]) [2, 0, 1] rfl
            have hD := hD.sub (ws' := [(h_rd, .inr (2, [.ref h_cb, .int rd_place_7, .int rd_refusal_11])), (h_cb, .inr (4, [.ref h_cb_bytes, .int cb_count])), (h_cb_bytes, .inl (c_cb_bytes, 2000, .inl cb_bytes))]) [2, 0, 1] (by decide) rfl
            clear hPc hKc hDc hFc hc9 hP1 hK1 hD1 hk1 hz1 hvm ht
            generalize H1 = H at hP hS ⊢
            try dsimp only at h
            exact w_j32 _ _ _ _ h hP hD hS hl
  exact w_self2 FU _ _ _ _ _ _ h hP hD hS hl
