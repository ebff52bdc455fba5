set_option maxHeartbeats 4000000 in
set_option maxRecDepth 100000 in
theorem c_BitWriter_start (l : Launch) (dC : Nat → ClassId) (dI : Nat → Nat → Nat) (h_wr : Nat) (h_tb : Nat) (u_tb_bytes : Value) (wr_keeping : Int32) (wr_count : Int32) (tb_count : Int32) (p0 : Int32) (sz : Nat) (o : Int32 × Int32 × Int32) (hf : f_BitWriter_start tb_count p0 = some o) :
    Met l y_BitWriter_start ws_BitWriter_start { frames := 0, cells := 0, slots := 0, locals := 0 } (va_Pc [.ref h_wr, .int p0] (PcM (dC, dI) [(h_wr, .inr (3, [.ref h_tb, .int wr_keeping, .int wr_count])), (h_tb, .inr (4, [u_tb_bytes, .int tb_count]))] [] sz))
      (va_Qv (fun u : Int32 × Int32 × Int32 => u = o) (fun u t => va_P (dC, dI) CL [(h_wr, .inr (3, [.ref h_tb, .int (u.1), .int (u.2.1)])), (h_tb, .inr (4, [u_tb_bytes, .int (u.2.2)]))] t.heap ∧ va_K (dC, dI) CL [] t ∧ va_D (va_A [(h_wr, .inr (3, [.ref h_tb, .int wr_keeping, .int wr_count])), (h_tb, .inr (4, [u_tb_bytes, .int tb_count]))] sz) [(h_wr, .inr (3, [.ref h_tb, .int (u.1), .int (u.2.1)])), (h_tb, .inr (4, [u_tb_bytes, .int (u.2.2)]))]) (va_A [(h_wr, .inr (3, [.ref h_tb, .int wr_keeping, .int wr_count])), (h_tb, .inr (4, [u_tb_bytes, .int tb_count]))] sz)) 0 0 (va_A [(h_wr, .inr (3, [.ref h_tb, .int wr_keeping, .int wr_count])), (h_tb, .inr (4, [u_tb_bytes, .int tb_count]))] sz) := by
  refine Met.ofW (cc := b_BitWriter_start) (maxL := 2) (ret := none) (by decide) rfl ?_
  intro p e s m args below meth c s₁ B hml hv
  obtain ⟨rfl, hsz, hP, hK, hD0, hnw⟩ := hv
  have hx := B.exec
  have hb := B.bytes
  have hr := B.returns
  have hts := atoms_spec (ws := ws_BitWriter_start) B.pre
  have hB : ∀ w ∈ BIG, w.before _ s = true := fun w h => hts w (List.mem_cons_of_mem _ h)
  have hown : s.vm.findClass R_BitWriter = some m.cls := findClass_of_methodNamed B.named
  have hlocks := B.notSynchronized
  subst hsz
  have hD := hD0.self (sz := s.heap.size)
  refine W_Q (fun Q9 eQ => ?_)
  generalize hAe : va_A [(h_wr, .inr (3, [.ref h_tb, .int wr_keeping, .int wr_count])), (h_tb, .inr (4, [u_tb_bytes, .int tb_count]))] s.heap.size = A at hD eQ
  have hA : ∀ q : Nat, s.heap.size ≤ q → A q := fun q h => by rw [← hAe]; exact Or.inr h
  have hS : va_S A s.heap s.heap [] := va_S.rf
  have hl := lv_entry ([.ref h_wr, .int p0]) (n := 2) (Nat.le_of_ble_eq_true rfl)
  rw [lg_entry_eq]
  generalize (lg_sl ([.ref h_wr, .int p0]) ++ List.replicate (2 - (lg_sl ([.ref h_wr, .int p0])).length) Slot.unset).toArray = ls at hl ⊢
  have hl : lv_has ls 2 [(0, .ref h_wr), (1, .int p0)] := hl
  have h := hf
  unfold f_BitWriter_start at h
  refine lv_aload_n hx hb d_BitWriter_start_0 rfl (lv_at hl 0 rfl) ?_
  refine lv_iload_n hx hb d_BitWriter_start_1 rfl (lv_at hl 1 rfl) ?_
  obtain ⟨hz, h⟩ := bz_e h
  refine va_put (D := (dC, dI)) (ci := 3) (v := .int p0) (ty := .boolean) (C := R_BitWriter) (T := T_BitWriter) (N := 3) hx hb hB iw_BitWriter ty_BitWriter tk_BitWriter n_BitWriter hown hK hP hD hS 0 rfl rfl 1 (by decide) (hB _ bw_151) (fun _ h9 => h9) rfl (by decide +kernel) (bz_n hz) (bz_f hz) (Nat.le_of_ble_eq_true rfl) d_BitWriter_start_2 (fun H locs hP hD hS => ?_)
  have hP : va_P (dC, dI) CL [(h_wr, .inr (3, [.ref h_tb, .int p0, .int wr_count])), (h_tb, .inr (4, [u_tb_bytes, .int tb_count]))] H := hP
  have hD : va_D A [(h_wr, .inr (3, [.ref h_tb, .int p0, .int wr_count])), (h_tb, .inr (4, [u_tb_bytes, .int tb_count]))] := hD
  refine lv_aload_n hx hb d_BitWriter_start_5 rfl (lv_at hl 0 rfl) ?_
  refine lv_iconst (v := 0) hx hb d_BitWriter_start_6 (by decide) ?_
  refine va_put (D := (dC, dI)) (ci := 3) (v := .int (0 : Int32)) (ty := .int) (C := R_BitWriter) (T := T_BitWriter) (N := 3) hx hb hB iw_BitWriter ty_BitWriter tk_BitWriter n_BitWriter hown hK hP hD hS 0 rfl rfl 2 (by decide) (hB _ bw_152) (fun _ h9 => h9) rfl (by decide +kernel) rfl rfl (Nat.le_of_ble_eq_true rfl) d_BitWriter_start_7 (fun H locs hP hD hS => ?_)
  have hP : va_P (dC, dI) CL [(h_wr, .inr (3, [.ref h_tb, .int p0, .int (0 : Int32)])), (h_tb, .inr (4, [u_tb_bytes, .int tb_count]))] H := hP
  have hD : va_D A [(h_wr, .inr (3, [.ref h_tb, .int p0, .int (0 : Int32)])), (h_tb, .inr (4, [u_tb_bytes, .int tb_count]))] := hD
  refine lv_iload_n hx hb d_BitWriter_start_10 rfl (lv_at hl 1 rfl) ?_
  refine lv_if_eq (tgt := 22) hx hb d_BitWriter_start_11 (by decide) (fun c_1 => ?_) (fun c_1 => ?_)
  · have h := if_t h c_1
    subst eQ
    exact W.vret hx hb hr (fun t ht hW => ⟨⟨(p0, (0 : Int32), tb_count), rfl, Option.some.inj h, by rw [ht]; exact hP, va_K.moved hW.alike hK, hD⟩, hS.F ht⟩) hS.2.2 d_BitWriter_start_22
  · have h := if_f h c_1
    refine lv_aload_n hx hb d_BitWriter_start_14 rfl (lv_at hl 0 rfl) ?_
    refine va_get (D := (dC, dI)) (ci := 3) (v := .ref h_tb) (C := R_BitWriter) (T := T_BitWriter) (N := 3) hx hb hB iw_BitWriter hown hK hP 0 rfl rfl 0 (by decide) (hB _ bw_150) (fun _ h9 => h9) rfl d_BitWriter_start_15 ?_
    refine lv_iconst (v := 0) hx hb d_BitWriter_start_18 (by decide) ?_
    refine va_putN (D := (dC, dI)) (ci := 4) (v := .int (0 : Int32)) (ty := .int) (C := R_ByteRow) (T := T_ByteRow) (N := 2) hx hb hB iw_ByteRow ty_ByteRow tk_ByteRow n_ByteRow hown hK hP hD hS 1 rfl rfl 1 (by decide) (va_Nw.use rfl (hnw.1 _ bn_99)) (fun _ h9 => h9) rfl (by decide +kernel) rfl rfl (Nat.le_of_ble_eq_true rfl) d_BitWriter_start_19 (fun H locs hP hD hS => ?_)
    have hP : va_P (dC, dI) CL [(h_wr, .inr (3, [.ref h_tb, .int p0, .int (0 : Int32)])), (h_tb, .inr (4, [u_tb_bytes, .int (0 : Int32)]))] H := hP
    have hD : va_D A [(h_wr, .inr (3, [.ref h_tb, .int p0, .int (0 : Int32)])), (h_tb, .inr (4, [u_tb_bytes, .int (0 : Int32)]))] := hD
    subst eQ
    exact W.vret hx hb hr (fun t ht hW => ⟨⟨(p0, (0 : Int32), (0 : Int32)), rfl, Option.some.inj h, by rw [ht]; exact hP, va_K.moved hW.alike hK, hD⟩, hS.F ht⟩) hS.2.2 d_BitWriter_start_22
set_option maxHeartbeats 4000000 in
set_option maxRecDepth 100000 in
theorem c_BitWriter_tellBits (l : Launch) (dC : Nat → ClassId) (dI : Nat → Nat → Nat) (h_wr : Nat) (h_tb : Nat) (h_tb_bytes : Nat) (c_tb_bytes : ClassId) (wr_keeping : Int32) (wr_count : Int32) (tb_count : Int32) (tb_bytes : (Nat → Int32)) (p0 : Int32) (p1 : Int32) (sz : Nat) (o : Int32 × Int32 × (Nat → Int32)) (hf : f_BitWriter_tellBits wr_keeping wr_count tb_count tb_bytes p0 p1 = some o) :
    Met l y_BitWriter_tellBits ws_BitWriter_tellBits { frames := 1, cells := 0, slots := 0, locals := 21 } (va_Pc [.ref h_wr, .int p0, .int p1] (PcM (dC, dI) [(h_wr, .inr (3, [.ref h_tb, .int wr_keeping, .int wr_count])), (h_tb, .inr (4, [.ref h_tb_bytes, .int tb_count])), (h_tb_bytes, .inl (c_tb_bytes, 2000, .inl tb_bytes))] [(c_tb_bytes, .int)] sz))
      (va_Qv (fun u : Int32 × Int32 × (Nat → Int32) => u = o) (fun u t => va_P (dC, dI) CL [(h_wr, .inr (3, [.ref h_tb, .int wr_keeping, .int (u.1)])), (h_tb, .inr (4, [.ref h_tb_bytes, .int (u.2.1)])), (h_tb_bytes, .inl (c_tb_bytes, 2000, .inl (u.2.2)))] t.heap ∧ va_K (dC, dI) CL [(c_tb_bytes, .int)] t ∧ va_D (va_A [(h_wr, .inr (3, [.ref h_tb, .int wr_keeping, .int wr_count])), (h_tb, .inr (4, [.ref h_tb_bytes, .int tb_count])), (h_tb_bytes, .inl (c_tb_bytes, 2000, .inl tb_bytes))] sz) [(h_wr, .inr (3, [.ref h_tb, .int wr_keeping, .int (u.1)])), (h_tb, .inr (4, [.ref h_tb_bytes, .int (u.2.1)])), (h_tb_bytes, .inl (c_tb_bytes, 2000, .inl (u.2.2)))]) (va_A [(h_wr, .inr (3, [.ref h_tb, .int wr_keeping, .int wr_count])), (h_tb, .inr (4, [.ref h_tb_bytes, .int tb_count])), (h_tb_bytes, .inl (c_tb_bytes, 2000, .inl tb_bytes))] sz)) 0 0 (va_A [(h_wr, .inr (3, [.ref h_tb, .int wr_keeping, .int wr_count])), (h_tb, .inr (4, [.ref h_tb_bytes, .int tb_count])), (h_tb_bytes, .inl (c_tb_bytes, 2000, .inl tb_bytes))] sz) := by
  refine Met.ofW (cc := b_BitWriter_tellBits) (maxL := 4) (ret := none) (by decide) rfl ?_
  intro p e s m args below meth c s₁ B hml hv
  obtain ⟨rfl, hsz, hP, hK, hD0, hnw⟩ := hv
  have hx := B.exec
  have hb := B.bytes
  have hr := B.returns
  have hts := atoms_spec (ws := ws_BitWriter_tellBits) B.pre
  have hB : ∀ w ∈ BIG, w.before _ s = true := fun w h => hts w (List.mem_cons_of_mem _ h)
  have hown : s.vm.findClass R_BitWriter = some m.cls := findClass_of_methodNamed B.named
  have hlocks := B.notSynchronized
  subst hsz
  have hD := hD0.self (sz := s.heap.size)
  refine W_Q (fun Q9 eQ => ?_)
  generalize hAe : va_A [(h_wr, .inr (3, [.ref h_tb, .int wr_keeping, .int wr_count])), (h_tb, .inr (4, [.ref h_tb_bytes, .int tb_count])), (h_tb_bytes, .inl (c_tb_bytes, 2000, .inl tb_bytes))] s.heap.size = A at hD eQ
  have hA : ∀ q : Nat, s.heap.size ≤ q → A q := fun q h => by rw [← hAe]; exact Or.inr h
  have hS : va_S A s.heap s.heap [] := va_S.rf
  have hl := lv_entry ([.ref h_wr, .int p0, .int p1]) (n := 4) (Nat.le_of_ble_eq_true rfl)
  rw [lg_entry_eq]
  generalize (lg_sl ([.ref h_wr, .int p0, .int p1]) ++ List.replicate (4 - (lg_sl ([.ref h_wr, .int p0, .int p1])).length) Slot.unset).toArray = ls at hl ⊢
  have hl : lv_has ls 4 [(0, .ref h_wr), (1, .int p0), (2, .int p1)] := hl
  have h := hf
  unfold f_BitWriter_tellBits at h
  refine lv_aload_n hx hb d_BitWriter_tellBits_0 rfl (lv_at hl 0 rfl) ?_
  refine va_get (D := (dC, dI)) (ci := 3) (v := .int wr_keeping) (C := R_BitWriter) (T := T_BitWriter) (N := 3) hx hb hB iw_BitWriter hown hK hP 0 rfl rfl 1 (by decide) (hB _ bw_151) (fun _ h9 => h9) rfl d_BitWriter_tellBits_1 ?_
  refine lv_if_ne (tgt := 18) hx hb d_BitWriter_tellBits_4 (by decide) (fun c_1 => ?_) (fun c_1 => ?_)
  · have h := if_f h c_1
    refine lv_iload_n hx hb d_BitWriter_tellBits_18 rfl (lv_at hl 2 rfl) ?_
    refine lv_iconst (v := 1) hx hb d_BitWriter_tellBits_19 (by decide) ?_
    refine lv_isub hx hb d_BitWriter_tellBits_20 ?_
    refine lv_topi (fun v3_1 e_v3_1 => ?_)
    have h := nl_u e_v3_1 h
    refine lv_istore_n (lv' := [(3, .int v3_1), (0, .ref h_wr), (1, .int p0), (2, .int p1)]) hx hb d_BitWriter_tellBits_21 rfl hl (by decide) rfl (fun ls hl => ?_)
    have w_self22 : ∀ n9 : Nat, ∀ (v3_2 : Int32) (wr_count_3 : Int32) (tb_count_4 : Int32) (tb_bytes_5 : (Nat → Int32)) (H : Heap) (locs : List Loc) (ls : Array Slot), lp (f_BitWriter_tellBits_L22 p0) n9 (v3_2, wr_count_3, tb_count_4, tb_bytes_5) = some o → va_P (dC, dI) CL [(h_wr, .inr (3, [.ref h_tb, .int wr_keeping, .int wr_count_3])), (h_tb, .inr (4, [.ref h_tb_bytes, .int tb_count_4])), (h_tb_bytes, .inl (c_tb_bytes, 2000, .inl tb_bytes_5))] H → va_D A [(h_wr, .inr (3, [.ref h_tb, .int wr_keeping, .int wr_count_3])), (h_tb, .inr (4, [.ref h_tb_bytes, .int tb_count_4])), (h_tb_bytes, .inl (c_tb_bytes, 2000, .inl tb_bytes_5))] → va_S A s.heap H locs → lv_has ls 4 [(3, .int v3_2), (0, .ref h_wr), (1, .int p0)] → W p l e ({ frames := 1, cells := 0, slots := 0, locals := 21 } : Room) s m ([.ref h_wr, .int p0, .int p1] : List Value).toArray below meth c H locs 0 0 Q9 (F0 m 22 ls []) := by
      intro n9
      induction n9 with
      | zero =>
        intro v3_2 wr_count_3 tb_count_4 tb_bytes_5 H locs ls h hP hD hS hl
        exact absurd h (by simp [lp])
      | succ n9 ih_self22 =>
        intro v3_2 wr_count_3 tb_count_4 tb_bytes_5 H locs ls h hP hD hS hl
        obtain ⟨self22, e_self22, h⟩ := abs_k (P := fun z9 => f_BitWriter_tellBits_L22 p0 z9 (v3_2, wr_count_3, tb_count_4, tb_bytes_5) = some o) (lp_e h)
        rw [← e_self22] at ih_self22
        unfold f_BitWriter_tellBits_L22 at h
        try dsimp only at h
        refine lv_iload_n hx hb d_BitWriter_tellBits_22 rfl (lv_at hl 0 rfl) ?_
        refine lv_if_lt (tgt := 111) hx hb d_BitWriter_tellBits_23 (by decide) (fun c_2 => ?_) (fun c_2 => ?_)
        · have h := if_t h c_2
          subst eQ
          exact W.vret hx hb hr (fun t ht hW => ⟨⟨(wr_count_3, tb_count_4, tb_bytes_5), rfl, Option.some.inj h, by rw [ht]; exact hP, va_K.moved hW.alike hK, hD⟩, hS.F ht⟩) hS.2.2 d_BitWriter_tellBits_111
        · have h := if_f h c_2
          refine lv_aload_n hx hb d_BitWriter_tellBits_26 rfl (lv_at hl 1 rfl) ?_
          refine va_get (D := (dC, dI)) (ci := 3) (v := .int wr_count_3) (C := R_BitWriter) (T := T_BitWriter) (N := 3) hx hb hB iw_BitWriter hown hK hP 0 rfl rfl 2 (by decide) (hB _ bw_152) (fun _ h9 => h9) rfl d_BitWriter_tellBits_27 ?_
          refine lv_bipush (v := 8) hx hb d_BitWriter_tellBits_30 (by decide) ?_
          refine lv_irem hx hb d_BitWriter_tellBits_32 (by decide) ?_
          obtain ⟨j44, e_j44, h⟩ := jn_e h
          have w_j44 : ∀ (tb_count_6 : Int32) (tb_bytes_7 : (Nat → Int32)) (H : Heap) (locs : List Loc) (ls : Array Slot), j44 tb_count_6 tb_bytes_7 = some o → va_P (dC, dI) CL [(h_wr, .inr (3, [.ref h_tb, .int wr_keeping, .int wr_count_3])), (h_tb, .inr (4, [.ref h_tb_bytes, .int tb_count_6])), (h_tb_bytes, .inl (c_tb_bytes, 2000, .inl tb_bytes_7))] H → va_D A [(h_wr, .inr (3, [.ref h_tb, .int wr_keeping, .int wr_count_3])), (h_tb, .inr (4, [.ref h_tb_bytes, .int tb_count_6])), (h_tb_bytes, .inl (c_tb_bytes, 2000, .inl tb_bytes_7))] → va_S A s.heap H locs → lv_has ls 4 [(3, .int v3_2), (0, .ref h_wr), (1, .int p0)] → W p l e ({ frames := 1, cells := 0, slots := 0, locals := 21 } : Room) s m ([.ref h_wr, .int p0, .int p1] : List Value).toArray below meth c H locs 0 0 Q9 (F0 m 44 ls []) := by
            intro tb_count_6 tb_bytes_7 H locs ls h hP hD hS hl
            rw [e_j44] at h
            refine lv_aload_n hx hb d_BitWriter_tellBits_44 rfl (lv_at hl 1 rfl) ?_
            refine va_get (D := (dC, dI)) (ci := 3) (v := .int wr_count_3) (C := R_BitWriter) (T := T_BitWriter) (N := 3) hx hb hB iw_BitWriter hown hK hP 0 rfl rfl 2 (by decide) (hB _ bw_152) (fun _ h9 => h9) rfl d_BitWriter_tellBits_45 ?_
            refine lv_bipush (v := 8) hx hb d_BitWriter_tellBits_48 (by decide) ?_
            refine lv_idiv hx hb d_BitWriter_tellBits_50 (by decide) ?_
            refine lv_aload_n hx hb d_BitWriter_tellBits_51 rfl (lv_at hl 1 rfl) ?_
            refine va_get (D := (dC, dI)) (ci := 3) (v := .ref h_tb) (C := R_BitWriter) (T := T_BitWriter) (N := 3) hx hb hB iw_BitWriter hown hK hP 0 rfl rfl 0 (by decide) (hB _ bw_150) (fun _ h9 => h9) rfl d_BitWriter_tellBits_52 ?_
            refine va_getN (D := (dC, dI)) (ci := 4) (v := .int tb_count_6) (C := R_ByteRow) (T := T_ByteRow) (N := 2) hx hb hB iw_ByteRow hown hK hP 1 rfl rfl 1 (by decide) (va_Nw.use rfl (hnw.1 _ bn_99)) (fun _ h9 => h9) rfl d_BitWriter_tellBits_55 ?_
            obtain ⟨j95, e_j95, h⟩ := jn_e h
            have w_j95 : ∀ (tb_bytes_8 : (Nat → Int32)) (H : Heap) (locs : List Loc) (ls : Array Slot), j95 tb_bytes_8 = some o → va_P (dC, dI) CL [(h_wr, .inr (3, [.ref h_tb, .int wr_keeping, .int wr_count_3])), (h_tb, .inr (4, [.ref h_tb_bytes, .int tb_count_6])), (h_tb_bytes, .inl (c_tb_bytes, 2000, .inl tb_bytes_8))] H → va_D A [(h_wr, .inr (3, [.ref h_tb, .int wr_keeping, .int wr_count_3])), (h_tb, .inr (4, [.ref h_tb_bytes, .int tb_count_6])), (h_tb_bytes, .inl (c_tb_bytes, 2000, .inl tb_bytes_8))] → va_S A s.heap H locs → lv_has ls 4 [(3, .int v3_2), (0, .ref h_wr), (1, .int p0)] → W p l e ({ frames := 1, cells := 0, slots := 0, locals := 21 } : Room) s m ([.ref h_wr, .int p0, .int p1] : List Value).toArray below meth c H locs 0 0 Q9 (F0 m 95 ls []) := by
              intro tb_bytes_8 H locs ls h hP hD hS hl
              rw [e_j95] at h
              refine lv_aload_n hx hb d_BitWriter_tellBits_95 rfl (lv_at hl 1 rfl) ?_
              refine lv_dup hx hb d_BitWriter_tellBits_96 rfl ?_
              refine va_get (D := (dC, dI)) (ci := 3) (v := .int wr_count_3) (C := R_BitWriter) (T := T_BitWriter) (N := 3) hx hb hB iw_BitWriter hown hK hP 0 rfl rfl 2 (by decide) (hB _ bw_152) (fun _ h9 => h9) rfl d_BitWriter_tellBits_97 ?_
              refine lv_iconst (v := 1) hx hb d_BitWriter_tellBits_100 (by decide) ?_
              refine lv_iadd hx hb d_BitWriter_tellBits_101 ?_
              refine lv_topi (fun count_9 e_count_9 => ?_)
              have h := nl_u e_count_9 h
              refine va_put (D := (dC, dI)) (ci := 3) (v := .int count_9) (ty := .int) (C := R_BitWriter) (T := T_BitWriter) (N := 3) hx hb hB iw_BitWriter ty_BitWriter tk_BitWriter n_BitWriter hown hK hP hD hS 0 rfl rfl 2 (by decide) (hB _ bw_152) (fun _ h9 => h9) rfl (by decide +kernel) rfl rfl (Nat.le_of_ble_eq_true rfl) d_BitWriter_tellBits_102 (fun H locs hP hD hS => ?_)
              have hP : va_P (dC, dI) CL [(h_wr, .inr (3, [.ref h_tb, .int wr_keeping, .int count_9])), (h_tb, .inr (4, [.ref h_tb_bytes, .int tb_count_6])), (h_tb_bytes, .inl (c_tb_bytes, 2000, .inl tb_bytes_8))] H := hP
              have hD : va_D A [(h_wr, .inr (3, [.ref h_tb, .int wr_keeping, .int count_9])), (h_tb, .inr (4, [.ref h_tb_bytes, .int tb_count_6])), (h_tb_bytes, .inl (c_tb_bytes, 2000, .inl tb_bytes_8))] := hD
              obtain ⟨v3_10, e_v3_10⟩ : ∃ y9 : Int32, y9 = (v3_2 + (-1 : Int32)) := ⟨_, rfl⟩
              have h := nl_u e_v3_10 h
              refine lv_iinc (v := v3_10) (lv' := [(3, .int v3_10), (0, .ref h_wr), (1, .int p0)]) hx hb d_BitWriter_tellBits_105 hl (k := 0) rfl (by rw [e_v3_10]; rfl) (by decide) rfl (fun ls hl => ?_)
              refine lv_goto (tgt := 22) hx hb d_BitWriter_tellBits_108 (by decide) ?_
              exact ih_self22 _ _ _ _ _ _ _ h hP hD hS hl
            refine lv_icmp_ge (tgt := 95) hx hb d_BitWriter_tellBits_58 (by decide) (fun c_3 => ?_) (fun c_3 => ?_)
            · have h := if_t h c_3
              exact w_j95 _ _ _ _ h hP hD hS hl
            · have h := if_f h c_3
              refine lv_aload_n hx hb d_BitWriter_tellBits_61 rfl (lv_at hl 1 rfl) ?_
              refine va_get (D := (dC, dI)) (ci := 3) (v := .ref h_tb) (C := R_BitWriter) (T := T_BitWriter) (N := 3) hx hb hB iw_BitWriter hown hK hP 0 rfl rfl 0 (by decide) (hB _ bw_150) (fun _ h9 => h9) rfl d_BitWriter_tellBits_62 ?_
              refine va_getN (D := (dC, dI)) (ci := 4) (v := .ref h_tb_bytes) (C := R_ByteRow) (T := T_ByteRow) (N := 2) hx hb hB iw_ByteRow hown hK hP 1 rfl rfl 0 (by decide) (va_Nw.use rfl (hnw.1 _ bn_95)) (fun _ h9 => h9) rfl d_BitWriter_tellBits_65 ?_
              refine lv_aload_n hx hb d_BitWriter_tellBits_68 rfl (lv_at hl 1 rfl) ?_
              refine va_get (D := (dC, dI)) (ci := 3) (v := .int wr_count_3) (C := R_BitWriter) (T := T_BitWriter) (N := 3) hx hb hB iw_BitWriter hown hK hP 0 rfl rfl 2 (by decide) (hB _ bw_152) (fun _ h9 => h9) rfl d_BitWriter_tellBits_69 ?_
              refine lv_bipush (v := 8) hx hb d_BitWriter_tellBits_72 (by decide) ?_
              refine lv_idiv hx hb d_BitWriter_tellBits_74 (by decide) ?_
              refine lv_dup2_11 hx hb d_BitWriter_tellBits_75 rfl rfl ?_
              obtain ⟨hin, h⟩ := gq_e h
              refine va_iald hx hb hK hP 2 0 rfl rfl hin d_BitWriter_tellBits_76 ?_
              refine lv_iload_n hx hb d_BitWriter_tellBits_77 rfl (lv_at hl 2 rfl) ?_
              refine lv_iload_n hx hb d_BitWriter_tellBits_78 rfl (lv_at hl 0 rfl) ?_
              refine lv_ishr hx hb d_BitWriter_tellBits_79 ?_
              refine lv_iconst (v := 1) hx hb d_BitWriter_tellBits_80 (by decide) ?_
              refine lv_iand hx hb d_BitWriter_tellBits_81 ?_
              refine lv_bipush (v := 7) hx hb d_BitWriter_tellBits_82 (by decide) ?_
              refine lv_aload_n hx hb d_BitWriter_tellBits_84 rfl (lv_at hl 1 rfl) ?_
              refine va_get (D := (dC, dI)) (ci := 3) (v := .int wr_count_3) (C := R_BitWriter) (T := T_BitWriter) (N := 3) hx hb hB iw_BitWriter hown hK hP 0 rfl rfl 2 (by decide) (hB _ bw_152) (fun _ h9 => h9) rfl d_BitWriter_tellBits_85 ?_
              refine lv_bipush (v := 8) hx hb d_BitWriter_tellBits_88 (by decide) ?_
              refine lv_irem hx hb d_BitWriter_tellBits_90 (by decide) ?_
              refine lv_isub hx hb d_BitWriter_tellBits_91 ?_
              refine lv_ishl hx hb d_BitWriter_tellBits_92 ?_
              refine lv_ior hx hb d_BitWriter_tellBits_93 ?_
              refine lv_topi (fun w_11 e_w_11 => ?_)
              have h := nl_u e_w_11 h
              obtain ⟨hin, h⟩ := gq_e h
              refine va_iast hx hb hK hP hD hS 2 0 rfl rfl hin d_BitWriter_tellBits_94 (fun H locs hP hD hS => ?_)
              have hP : va_P (dC, dI) CL [(h_wr, .inr (3, [.ref h_tb, .int wr_keeping, .int wr_count_3])), (h_tb, .inr (4, [.ref h_tb_bytes, .int tb_count_6])), (h_tb_bytes, .inl (c_tb_bytes, 2000, .inl (upd tb_bytes_7 ((wr_count_3 / (8 : Int32))).toNatClampNeg w_11)))] H := hP
              have hD : va_D A [(h_wr, .inr (3, [.ref h_tb, .int wr_keeping, .int wr_count_3])), (h_tb, .inr (4, [.ref h_tb_bytes, .int tb_count_6])), (h_tb_bytes, .inl (c_tb_bytes, 2000, .inl (upd tb_bytes_7 ((wr_count_3 / (8 : Int32))).toNatClampNeg w_11)))] := hD
              exact w_j95 _ _ _ _ h hP hD hS hl
          refine lv_if_ne (tgt := 44) hx hb d_BitWriter_tellBits_33 (by decide) (fun c_4 => ?_) (fun c_4 => ?_)
          · have h := if_f h c_4
            exact w_j44 _ _ _ _ _ h hP hD hS hl
          · have h := if_t h c_4
            refine lv_aload_n hx hb d_BitWriter_tellBits_36 rfl (lv_at hl 1 rfl) ?_
            refine va_get (D := (dC, dI)) (ci := 3) (v := .ref h_tb) (C := R_BitWriter) (T := T_BitWriter) (N := 3) hx hb hB iw_BitWriter hown hK hP 0 rfl rfl 0 (by decide) (hB _ bw_150) (fun _ h9 => h9) rfl d_BitWriter_tellBits_37 ?_
            refine lv_iconst (v := 0) hx hb d_BitWriter_tellBits_40 (by decide) ?_
            obtain ⟨o9, hc9, h⟩ := bd_e h
            have hPc := hP.sub (ws' := [(h_tb, .inr (4, [.ref h_tb_bytes, .int tb_count_4])), (h_tb_bytes, .inl (c_tb_bytes, 2000, .inl tb_bytes_5))]) [1, 2] rfl
            have hKc := hK.sub (tys' := [(c_tb_bytes, .int)]) [0] rfl
            have hDc := hD.sub (ws' := [(h_tb, .inr (4, [.ref h_tb_bytes, .int tb_count_4])), (h_tb_bytes, .inl (c_tb_bytes, 2000, .inl tb_bytes_5))]) [1, 2] (by decide) rfl
            have hFc := va_free (wc := [(h_tb, .inr (4, [.ref h_tb_bytes, .int tb_count_4])), (h_tb_bytes, .inl (c_tb_bytes, 2000, .inl tb_bytes_5))]) hD hS hA [1, 2] rfl
            refine va_callv (va_runVN (As := [.int (0 : Int32)]) (rest := []) ⟨hx, hb, hml, hown, hB⟩ (c_ByteRow_append l dC dI h_tb h_tb_bytes c_tb_bytes tb_count_4 tb_bytes_5 (0 : Int32) _ o9 hc9) ⟨va_cnB 1 hB (goodB bw_412) rfl rfl rfl (hnw.1 _ bn_409) (hB _ bw_5) (by decide +kernel) ⟨Nat.le_of_ble_eq_true rfl, Nat.le_of_ble_eq_true rfl⟩, hB _ bw_411, hB _ bs_21⟩ ⟨fb_m, va_recv hK hP (ci := 4) (q0 := 1) rfl rfl, (pre_m hPc hKc hDc hnw [.ref h_tb, .int (0 : Int32)])⟩ rfl rfl hl.1 rfl (lv_room (Nat.le_of_ble_eq_true rfl)) d_BitWriter_tellBits_41 ⟨Nat.zero_le _, Nat.zero_le _⟩) hS (fun q _ h => hFc q h) hFc (fun u9 t H1 locs ht hvm hw hB hz1 hk1 hS => ?_)
            obtain ⟨tb_count_12, tb_bytes_13⟩ := u9
            subst hw
            obtain ⟨hP1, hK1, hD1⟩ := hB
            rw [ht] at hP1
            obtain ⟨hP, hD⟩ := va_join (wr := [(h_wr, .inr (3, [.ref h_tb, .int wr_keeping, .int wr_count_3]))]) (w1 := [(h_tb, .inr (4, [.ref h_tb_bytes, .int tb_count_12])), (h_tb_bytes, .inl (c_tb_bytes, 2000, .inl tb_bytes_13))]) hP hD [1, 2] [0] rfl rfl (by decide) (by decide) hk1 hFc hP1 hD1
            have hP := hP.sub (ws' := [(h_wr, .inr (3, [.ref h_tb, .int wr_keeping, .int wr_count_3])), (h_tb, .inr (4, [.ref h_tb_bytes, .int tb_count_12])), (h_tb_bytes, .inl (c_tb_bytes, 2000, .inl tb_bytes_13))]) [0, 1, 2] rfl
            have hD := hD.sub (ws' := [(h_wr, .inr (3, [.ref h_tb, .int wr_keeping, .int wr_count_3])), (h_tb, .inr (4, [.ref h_tb_bytes, .int tb_count_12])), (h_tb_bytes, .inl (c_tb_bytes, 2000, .inl tb_bytes_13))]) [0, 1, 2] (by decide) rfl
            clear hPc hKc hDc hFc hc9 hP1 hK1 hD1 hk1 hz1 hvm ht
            generalize H1 = H at hP hS ⊢
            try dsimp only at h
            exact w_j44 _ _ _ _ _ h hP hD hS hl
    exact w_self22 FU _ _ _ _ _ _ _ h hP hD hS (lv_sub hl [0, 1, 2] rfl)
  · have h := if_t h c_1
    refine lv_aload_n hx hb d_BitWriter_tellBits_7 rfl (lv_at hl 0 rfl) ?_
    refine lv_dup hx hb d_BitWriter_tellBits_8 rfl ?_
    refine va_get (D := (dC, dI)) (ci := 3) (v := .int wr_count) (C := R_BitWriter) (T := T_BitWriter) (N := 3) hx hb hB iw_BitWriter hown hK hP 0 rfl rfl 2 (by decide) (hB _ bw_152) (fun _ h9 => h9) rfl d_BitWriter_tellBits_9 ?_
    refine lv_iload_n hx hb d_BitWriter_tellBits_12 rfl (lv_at hl 2 rfl) ?_
    refine lv_iadd hx hb d_BitWriter_tellBits_13 ?_
    refine lv_topi (fun count_14 e_count_14 => ?_)
    have h := nl_u e_count_14 h
    refine va_put (D := (dC, dI)) (ci := 3) (v := .int count_14) (ty := .int) (C := R_BitWriter) (T := T_BitWriter) (N := 3) hx hb hB iw_BitWriter ty_BitWriter tk_BitWriter n_BitWriter hown hK hP hD hS 0 rfl rfl 2 (by decide) (hB _ bw_152) (fun _ h9 => h9) rfl (by decide +kernel) rfl rfl (Nat.le_of_ble_eq_true rfl) d_BitWriter_tellBits_14 (fun H locs hP hD hS => ?_)
    have hP : va_P (dC, dI) CL [(h_wr, .inr (3, [.ref h_tb, .int wr_keeping, .int count_14])), (h_tb, .inr (4, [.ref h_tb_bytes, .int tb_count])), (h_tb_bytes, .inl (c_tb_bytes, 2000, .inl tb_bytes))] H := hP
    have hD : va_D A [(h_wr, .inr (3, [.ref h_tb, .int wr_keeping, .int count_14])), (h_tb, .inr (4, [.ref h_tb_bytes, .int tb_count])), (h_tb_bytes, .inl (c_tb_bytes, 2000, .inl tb_bytes))] := hD
    subst eQ
    exact W.vret hx hb hr (fun t ht hW => ⟨⟨(count_14, tb_count, tb_bytes), rfl, Option.some.inj h, by rw [ht]; exact hP, va_K.moved hW.alike hK, hD⟩, hS.F ht⟩) hS.2.2 d_BitWriter_tellBits_17
set_option maxHeartbeats 4000000 in
set_option maxRecDepth 100000 in
theorem c_BitWriter_tellNumber (l : Launch) (dC : Nat → ClassId) (dI : Nat → Nat → Nat) (h_wr : Nat) (h_tb : Nat) (h_tb_bytes : Nat) (c_tb_bytes : ClassId) (wr_keeping : Int32) (wr_count : Int32) (tb_count : Int32) (tb_bytes : (Nat → Int32)) (p0 : Int32) (sz : Nat) (o : Int32 × Int32 × (Nat → Int32)) (hf : f_BitWriter_tellNumber wr_keeping wr_count tb_count tb_bytes p0 = some o) :
    Met l y_BitWriter_tellNumber ws_BitWriter_tellNumber { frames := 2, cells := 0, slots := 0, locals := 44 } (va_Pc [.ref h_wr, .int p0] (PcM (dC, dI) [(h_wr, .inr (3, [.ref h_tb, .int wr_keeping, .int wr_count])), (h_tb, .inr (4, [.ref h_tb_bytes, .int tb_count])), (h_tb_bytes, .inl (c_tb_bytes, 2000, .inl tb_bytes))] [(c_tb_bytes, .int)] sz))
      (va_Qv (fun u : Int32 × Int32 × (Nat → Int32) => u = o) (fun u t => va_P (dC, dI) CL [(h_wr, .inr (3, [.ref h_tb, .int wr_keeping, .int (u.1)])), (h_tb, .inr (4, [.ref h_tb_bytes, .int (u.2.1)])), (h_tb_bytes, .inl (c_tb_bytes, 2000, .inl (u.2.2)))] t.heap ∧ va_K (dC, dI) CL [(c_tb_bytes, .int)] t ∧ va_D (va_A [(h_wr, .inr (3, [.ref h_tb, .int wr_keeping, .int wr_count])), (h_tb, .inr (4, [.ref h_tb_bytes, .int tb_count])), (h_tb_bytes, .inl (c_tb_bytes, 2000, .inl tb_bytes))] sz) [(h_wr, .inr (3, [.ref h_tb, .int wr_keeping, .int (u.1)])), (h_tb, .inr (4, [.ref h_tb_bytes, .int (u.2.1)])), (h_tb_bytes, .inl (c_tb_bytes, 2000, .inl (u.2.2)))]) (va_A [(h_wr, .inr (3, [.ref h_tb, .int wr_keeping, .int wr_count])), (h_tb, .inr (4, [.ref h_tb_bytes, .int tb_count])), (h_tb_bytes, .inl (c_tb_bytes, 2000, .inl tb_bytes))] sz)) 0 0 (va_A [(h_wr, .inr (3, [.ref h_tb, .int wr_keeping, .int wr_count])), (h_tb, .inr (4, [.ref h_tb_bytes, .int tb_count])), (h_tb_bytes, .inl (c_tb_bytes, 2000, .inl tb_bytes))] sz) := by
  refine Met.ofW (cc := b_BitWriter_tellNumber) (maxL := 3) (ret := none) (by decide) rfl ?_
  intro p e s m args below meth c s₁ B hml hv
  obtain ⟨rfl, hsz, hP, hK, hD0, hnw⟩ := hv
  have hx := B.exec
  have hb := B.bytes
  have hr := B.returns
  have hts := atoms_spec (ws := ws_BitWriter_tellNumber) B.pre
  have hB : ∀ w ∈ BIG, w.before _ s = true := fun w h => hts w (List.mem_cons_of_mem _ h)
  have hown : s.vm.findClass R_BitWriter = some m.cls := findClass_of_methodNamed B.named
  have hlocks := B.notSynchronized
  subst hsz
  have hD := hD0.self (sz := s.heap.size)
  refine W_Q (fun Q9 eQ => ?_)
  generalize hAe : va_A [(h_wr, .inr (3, [.ref h_tb, .int wr_keeping, .int wr_count])), (h_tb, .inr (4, [.ref h_tb_bytes, .int tb_count])), (h_tb_bytes, .inl (c_tb_bytes, 2000, .inl tb_bytes))] s.heap.size = A at hD eQ
  have hA : ∀ q : Nat, s.heap.size ≤ q → A q := fun q h => by rw [← hAe]; exact Or.inr h
  have hS : va_S A s.heap s.heap [] := va_S.rf
  have hl := lv_entry ([.ref h_wr, .int p0]) (n := 3) (Nat.le_of_ble_eq_true rfl)
  rw [lg_entry_eq]
  generalize (lg_sl ([.ref h_wr, .int p0]) ++ List.replicate (3 - (lg_sl ([.ref h_wr, .int p0])).length) Slot.unset).toArray = ls at hl ⊢
  have hl : lv_has ls 3 [(0, .ref h_wr), (1, .int p0)] := hl
  have h := hf
  unfold f_BitWriter_tellNumber at h
  refine lv_iconst (v := 0) hx hb d_BitWriter_tellNumber_0 (by decide) ?_
  refine lv_istore_n (lv' := [(2, .int (0 : Int32)), (0, .ref h_wr), (1, .int p0)]) hx hb d_BitWriter_tellNumber_1 rfl hl (by decide) rfl (fun ls hl => ?_)
  obtain ⟨k24, e_k24, h⟩ := abs_k (P := fun k9 => lp (f_BitWriter_tellNumber_L2 p0 k9) FU (0 : Int32) = some o) h
  have w_k24 : ∀ (v2_2 : Int32) (H : Heap) (locs : List Loc) (ls : Array Slot), k24 v2_2 = some o → va_P (dC, dI) CL [(h_wr, .inr (3, [.ref h_tb, .int wr_keeping, .int wr_count])), (h_tb, .inr (4, [.ref h_tb_bytes, .int tb_count])), (h_tb_bytes, .inl (c_tb_bytes, 2000, .inl tb_bytes))] H → va_D A [(h_wr, .inr (3, [.ref h_tb, .int wr_keeping, .int wr_count])), (h_tb, .inr (4, [.ref h_tb_bytes, .int tb_count])), (h_tb_bytes, .inl (c_tb_bytes, 2000, .inl tb_bytes))] → va_S A s.heap H locs → lv_has ls 3 [(2, .int v2_2), (0, .ref h_wr), (1, .int p0)] → W p l e ({ frames := 2, cells := 0, slots := 0, locals := 44 } : Room) s m ([.ref h_wr, .int p0] : List Value).toArray below meth c H locs 0 0 Q9 (F0 m 24 ls []) := by
    intro v2_2 H locs ls h hP hD hS hl
    rw [e_k24] at h
    refine lv_aload_n hx hb d_BitWriter_tellNumber_24 rfl (lv_at hl 1 rfl) ?_
    refine lv_iload_n hx hb d_BitWriter_tellNumber_25 rfl (lv_at hl 2 rfl) ?_
    refine lv_iconst (v := 1) hx hb d_BitWriter_tellNumber_26 (by decide) ?_
    refine lv_iadd hx hb d_BitWriter_tellNumber_27 ?_
    refine lv_iconst (v := 2) hx hb d_BitWriter_tellNumber_28 (by decide) ?_
    refine lv_iload_n hx hb d_BitWriter_tellNumber_29 rfl (lv_at hl 0 rfl) ?_
    refine lv_imul hx hb d_BitWriter_tellNumber_30 ?_
    refine lv_iconst (v := 1) hx hb d_BitWriter_tellNumber_31 (by decide) ?_
    refine lv_iadd hx hb d_BitWriter_tellNumber_32 ?_
    obtain ⟨o9, hc9, h⟩ := bd_e h
    have hPc := hP.sub (ws' := [(h_wr, .inr (3, [.ref h_tb, .int wr_keeping, .int wr_count])), (h_tb, .inr (4, [.ref h_tb_bytes, .int tb_count])), (h_tb_bytes, .inl (c_tb_bytes, 2000, .inl tb_bytes))]) [0, 1, 2] rfl
    have hKc := hK.sub (tys' := [(c_tb_bytes, .int)]) [0] rfl
    have hDc := hD.sub (ws' := [(h_wr, .inr (3, [.ref h_tb, .int wr_keeping, .int wr_count])), (h_tb, .inr (4, [.ref h_tb_bytes, .int tb_count])), (h_tb_bytes, .inl (c_tb_bytes, 2000, .inl tb_bytes))]) [0, 1, 2] (by decide) rfl
    have hFc := va_free (wc := [(h_wr, .inr (3, [.ref h_tb, .int wr_keeping, .int wr_count])), (h_tb, .inr (4, [.ref h_tb_bytes, .int tb_count])), (h_tb_bytes, .inl (c_tb_bytes, 2000, .inl tb_bytes))]) hD hS hA [0, 1, 2] rfl
    refine va_callv (va_runV (As := [.int (p0 + (1 : Int32)), .int (((2 : Int32) * v2_2) + (1 : Int32))]) (rest := []) ⟨hx, hb, hml, hown, hB⟩ (c_BitWriter_tellBits l dC dI h_wr h_tb h_tb_bytes c_tb_bytes wr_keeping wr_count tb_count tb_bytes (p0 + (1 : Int32)) (((2 : Int32) * v2_2) + (1 : Int32)) _ o9 hc9) (cwV 2 hB (goodA (m4 bw_405 bw_407 bs_20 bw_9) (goodB bw_408)) rfl rfl rfl (by decide +kernel) ⟨Nat.le_of_ble_eq_true rfl, Nat.le_of_ble_eq_true rfl⟩) ⟨fb_m, va_recv hK hP (ci := 3) (q0 := 0) rfl rfl, (pre_m hPc hKc hDc hnw [.ref h_wr, .int (p0 + (1 : Int32)), .int (((2 : Int32) * v2_2) + (1 : Int32))])⟩ rfl rfl hl.1 rfl (lv_room (Nat.le_of_ble_eq_true rfl)) d_BitWriter_tellNumber_33 ⟨Nat.zero_le _, Nat.zero_le _⟩) hS (fun q _ h => hFc q h) hFc (fun u9 t H1 locs ht hvm hw hB hz1 hk1 hS => ?_)
    obtain ⟨wr_count_4, tb_count_5, tb_bytes_6⟩ := u9
    subst hw
    obtain ⟨hP1, hK1, hD1⟩ := hB
    rw [ht] at hP1
    obtain ⟨hP, hD⟩ := va_join (wr := []) (w1 := [(h_wr, .inr (3, [.ref h_tb, .int wr_keeping, .int wr_count_4])), (h_tb, .inr (4, [.ref h_tb_bytes, .int tb_count_5])), (h_tb_bytes, .inl (c_tb_bytes, 2000, .inl tb_bytes_6))]) hP hD [0, 1, 2] [] rfl rfl (by decide) (by decide) hk1 hFc hP1 hD1
    have hP := hP.sub (ws' := [(h_wr, .inr (3, [.ref h_tb, .int wr_keeping, .int wr_count_4])), (h_tb, .inr (4, [.ref h_tb_bytes, .int tb_count_5])), (h_tb_bytes, .inl (c_tb_bytes, 2000, .inl tb_bytes_6))]) [0, 1, 2] rfl
    have hD := hD.sub (ws' := [(h_wr, .inr (3, [.ref h_tb, .int wr_keeping, .int wr_count_4])), (h_tb, .inr (4, [.ref h_tb_bytes, .int tb_count_5])), (h_tb_bytes, .inl (c_tb_bytes, 2000, .inl tb_bytes_6))]) [0, 1, 2] (by decide) rfl
    clear hPc hKc hDc hFc hc9 hP1 hK1 hD1 hk1 hz1 hvm ht
    generalize H1 = H at hP hS ⊢
    try dsimp only at h
    subst eQ
    exact W.vret hx hb hr (fun t ht hW => ⟨⟨(wr_count_4, tb_count_5, tb_bytes_6), rfl, Option.some.inj h, by rw [ht]; exact hP, va_K.moved hW.alike hK, hD⟩, hS.F ht⟩) hS.2.2 d_BitWriter_tellNumber_36
  have w_self2 : ∀ n9 : Nat, ∀ (v2_1 : Int32) (H : Heap) (locs : List Loc) (ls : Array Slot), lp (f_BitWriter_tellNumber_L2 p0 k24) n9 v2_1 = some o → va_P (dC, dI) CL [(h_wr, .inr (3, [.ref h_tb, .int wr_keeping, .int wr_count])), (h_tb, .inr (4, [.ref h_tb_bytes, .int tb_count])), (h_tb_bytes, .inl (c_tb_bytes, 2000, .inl tb_bytes))] H → va_D A [(h_wr, .inr (3, [.ref h_tb, .int wr_keeping, .int wr_count])), (h_tb, .inr (4, [.ref h_tb_bytes, .int tb_count])), (h_tb_bytes, .inl (c_tb_bytes, 2000, .inl tb_bytes))] → va_S A s.heap H locs → lv_has ls 3 [(2, .int v2_1), (0, .ref h_wr), (1, .int p0)] → W p l e ({ frames := 2, cells := 0, slots := 0, locals := 44 } : Room) s m ([.ref h_wr, .int p0] : List Value).toArray below meth c H locs 0 0 Q9 (F0 m 2 ls []) := by
    intro n9
    induction n9 with
    | zero =>
      intro v2_1 H locs ls h hP hD hS hl
      exact absurd h (by simp [lp])
    | succ n9 ih_self2 =>
      intro v2_1 H locs ls h hP hD hS hl
      obtain ⟨self2, e_self2, h⟩ := abs_k (P := fun z9 => f_BitWriter_tellNumber_L2 p0 k24 z9 v2_1 = some o) (lp_e h)
      rw [← e_self2] at ih_self2
      unfold f_BitWriter_tellNumber_L2 at h
      try dsimp only at h
      refine lv_iload_n hx hb d_BitWriter_tellNumber_2 rfl (lv_at hl 0 rfl) ?_
      refine lv_bipush (v := 12) hx hb d_BitWriter_tellNumber_3 (by decide) ?_
      refine lv_icmp_ge (tgt := 24) hx hb d_BitWriter_tellNumber_5 (by decide) (fun c_1 => ?_) (fun c_1 => ?_)
      · have h := if_t h c_1
        exact w_k24 _ _ _ _ h hP hD hS hl
      · have h := if_f h c_1
        refine lv_iload_n hx hb d_BitWriter_tellNumber_8 rfl (lv_at hl 2 rfl) ?_
        refine lv_iconst (v := 1) hx hb d_BitWriter_tellNumber_9 (by decide) ?_
        refine lv_iadd hx hb d_BitWriter_tellNumber_10 ?_
        refine lv_iload_n hx hb d_BitWriter_tellNumber_11 rfl (lv_at hl 0 rfl) ?_
        refine lv_iconst (v := 1) hx hb d_BitWriter_tellNumber_12 (by decide) ?_
        refine lv_iadd hx hb d_BitWriter_tellNumber_13 ?_
        refine lv_ishr hx hb d_BitWriter_tellNumber_14 ?_
        refine lv_if_eq (tgt := 24) hx hb d_BitWriter_tellNumber_15 (by decide) (fun c_2 => ?_) (fun c_2 => ?_)
        · have h := if_t h c_2
          exact w_k24 _ _ _ _ h hP hD hS hl
        · have h := if_f h c_2
          obtain ⟨v2_3, e_v2_3⟩ : ∃ y9 : Int32, y9 = (v2_1 + (1 : Int32)) := ⟨_, rfl⟩
          have h := nl_u e_v2_3 h
          refine lv_iinc (v := v2_3) (lv' := [(2, .int v2_3), (0, .ref h_wr), (1, .int p0)]) hx hb d_BitWriter_tellNumber_18 hl (k := 0) rfl (by rw [e_v2_3]; rfl) (by decide) rfl (fun ls hl => ?_)
          refine lv_goto (tgt := 2) hx hb d_BitWriter_tellNumber_21 (by decide) ?_
          exact ih_self2 _ _ _ _ h hP hD hS hl
  exact w_self2 FU _ _ _ _ h hP hD hS hl
set_option maxHeartbeats 4000000 in
set_option maxRecDepth 100000 in
theorem c_BitWriter_tellSigned (l : Launch) (dC : Nat → ClassId) (dI : Nat → Nat → Nat) (h_wr : Nat) (h_tb : Nat) (h_tb_bytes : Nat) (c_tb_bytes : ClassId) (wr_keeping : Int32) (wr_count : Int32) (tb_count : Int32) (tb_bytes : (Nat → Int32)) (p0 : Int32) (sz : Nat) (o : Int32 × Int32 × (Nat → Int32)) (hf : f_BitWriter_tellSigned wr_keeping wr_count tb_count tb_bytes p0 = some o) :
    Met l y_BitWriter_tellSigned ws_BitWriter_tellSigned { frames := 3, cells := 0, slots := 0, locals := 66 } (va_Pc [.ref h_wr, .int p0] (PcM (dC, dI) [(h_wr, .inr (3, [.ref h_tb, .int wr_keeping, .int wr_count])), (h_tb, .inr (4, [.ref h_tb_bytes, .int tb_count])), (h_tb_bytes, .inl (c_tb_bytes, 2000, .inl tb_bytes))] [(c_tb_bytes, .int)] sz))
      (va_Qv (fun u : Int32 × Int32 × (Nat → Int32) => u = o) (fun u t => va_P (dC, dI) CL [(h_wr, .inr (3, [.ref h_tb, .int wr_keeping, .int (u.1)])), (h_tb, .inr (4, [.ref h_tb_bytes, .int (u.2.1)])), (h_tb_bytes, .inl (c_tb_bytes, 2000, .inl (u.2.2)))] t.heap ∧ va_K (dC, dI) CL [(c_tb_bytes, .int)] t ∧ va_D (va_A [(h_wr, .inr (3, [.ref h_tb, .int wr_keeping, .int wr_count])), (h_tb, .inr (4, [.ref h_tb_bytes, .int tb_count])), (h_tb_bytes, .inl (c_tb_bytes, 2000, .inl tb_bytes))] sz) [(h_wr, .inr (3, [.ref h_tb, .int wr_keeping, .int (u.1)])), (h_tb, .inr (4, [.ref h_tb_bytes, .int (u.2.1)])), (h_tb_bytes, .inl (c_tb_bytes, 2000, .inl (u.2.2)))]) (va_A [(h_wr, .inr (3, [.ref h_tb, .int wr_keeping, .int wr_count])), (h_tb, .inr (4, [.ref h_tb_bytes, .int tb_count])), (h_tb_bytes, .inl (c_tb_bytes, 2000, .inl tb_bytes))] sz)) 0 0 (va_A [(h_wr, .inr (3, [.ref h_tb, .int wr_keeping, .int wr_count])), (h_tb, .inr (4, [.ref h_tb_bytes, .int tb_count])), (h_tb_bytes, .inl (c_tb_bytes, 2000, .inl tb_bytes))] sz) := by
  refine Met.ofW (cc := b_BitWriter_tellSigned) (maxL := 2) (ret := none) (by decide) rfl ?_
  intro p e s m args below meth c s₁ B hml hv
  obtain ⟨rfl, hsz, hP, hK, hD0, hnw⟩ := hv
  have hx := B.exec
  have hb := B.bytes
  have hr := B.returns
  have hts := atoms_spec (ws := ws_BitWriter_tellSigned) B.pre
  have hB : ∀ w ∈ BIG, w.before _ s = true := fun w h => hts w (List.mem_cons_of_mem _ h)
  have hown : s.vm.findClass R_BitWriter = some m.cls := findClass_of_methodNamed B.named
  have hlocks := B.notSynchronized
  subst hsz
  have hD := hD0.self (sz := s.heap.size)
  refine W_Q (fun Q9 eQ => ?_)
  generalize hAe : va_A [(h_wr, .inr (3, [.ref h_tb, .int wr_keeping, .int wr_count])), (h_tb, .inr (4, [.ref h_tb_bytes, .int tb_count])), (h_tb_bytes, .inl (c_tb_bytes, 2000, .inl tb_bytes))] s.heap.size = A at hD eQ
  have hA : ∀ q : Nat, s.heap.size ≤ q → A q := fun q h => by rw [← hAe]; exact Or.inr h
  have hS : va_S A s.heap s.heap [] := va_S.rf
  have hl := lv_entry ([.ref h_wr, .int p0]) (n := 2) (Nat.le_of_ble_eq_true rfl)
  rw [lg_entry_eq]
  generalize (lg_sl ([.ref h_wr, .int p0]) ++ List.replicate (2 - (lg_sl ([.ref h_wr, .int p0])).length) Slot.unset).toArray = ls at hl ⊢
  have hl : lv_has ls 2 [(0, .ref h_wr), (1, .int p0)] := hl
  have h := hf
  unfold f_BitWriter_tellSigned at h
  refine lv_aload_n hx hb d_BitWriter_tellSigned_0 rfl (lv_at hl 0 rfl) ?_
  refine lv_iload_n hx hb d_BitWriter_tellSigned_1 rfl (lv_at hl 1 rfl) ?_
  obtain ⟨j17, e_j17, h⟩ := jn_e h
  have w_j17 : ∀ (s_1 : Int32) (H : Heap) (locs : List Loc) (ls : Array Slot), j17 s_1 = some o → va_P (dC, dI) CL [(h_wr, .inr (3, [.ref h_tb, .int wr_keeping, .int wr_count])), (h_tb, .inr (4, [.ref h_tb_bytes, .int tb_count])), (h_tb_bytes, .inl (c_tb_bytes, 2000, .inl tb_bytes))] H → va_D A [(h_wr, .inr (3, [.ref h_tb, .int wr_keeping, .int wr_count])), (h_tb, .inr (4, [.ref h_tb_bytes, .int tb_count])), (h_tb_bytes, .inl (c_tb_bytes, 2000, .inl tb_bytes))] → va_S A s.heap H locs → lv_has ls 2 [] → W p l e ({ frames := 3, cells := 0, slots := 0, locals := 66 } : Room) s m ([.ref h_wr, .int p0] : List Value).toArray below meth c H locs 0 0 Q9 (F0 m 17 ls [.int s_1, .ref h_wr]) := by
    intro s_1 H locs ls h hP hD hS hl
    rw [e_j17] at h
    obtain ⟨o9, hc9, h⟩ := bd_e h
    have hPc := hP.sub (ws' := [(h_wr, .inr (3, [.ref h_tb, .int wr_keeping, .int wr_count])), (h_tb, .inr (4, [.ref h_tb_bytes, .int tb_count])), (h_tb_bytes, .inl (c_tb_bytes, 2000, .inl tb_bytes))]) [0, 1, 2] rfl
    have hKc := hK.sub (tys' := [(c_tb_bytes, .int)]) [0] rfl
    have hDc := hD.sub (ws' := [(h_wr, .inr (3, [.ref h_tb, .int wr_keeping, .int wr_count])), (h_tb, .inr (4, [.ref h_tb_bytes, .int tb_count])), (h_tb_bytes, .inl (c_tb_bytes, 2000, .inl tb_bytes))]) [0, 1, 2] (by decide) rfl
    have hFc := va_free (wc := [(h_wr, .inr (3, [.ref h_tb, .int wr_keeping, .int wr_count])), (h_tb, .inr (4, [.ref h_tb_bytes, .int tb_count])), (h_tb_bytes, .inl (c_tb_bytes, 2000, .inl tb_bytes))]) hD hS hA [0, 1, 2] rfl
    refine va_callv (va_runV (As := [.int s_1]) (rest := []) ⟨hx, hb, hml, hown, hB⟩ (c_BitWriter_tellNumber l dC dI h_wr h_tb h_tb_bytes c_tb_bytes wr_keeping wr_count tb_count tb_bytes s_1 _ o9 hc9) (cwV 1 hB (goodA (m4 bw_450 bw_403 bs_19 bw_9) (goodB bw_404)) rfl rfl rfl (by decide +kernel) ⟨Nat.le_of_ble_eq_true rfl, Nat.le_of_ble_eq_true rfl⟩) ⟨fb_m, va_recv hK hP (ci := 3) (q0 := 0) rfl rfl, (pre_m hPc hKc hDc hnw [.ref h_wr, .int s_1])⟩ rfl rfl hl.1 rfl (lv_room (Nat.le_of_ble_eq_true rfl)) d_BitWriter_tellSigned_17 ⟨Nat.zero_le _, Nat.zero_le _⟩) hS (fun q _ h => hFc q h) hFc (fun u9 t H1 locs ht hvm hw hB hz1 hk1 hS => ?_)
    obtain ⟨wr_count_2, tb_count_3, tb_bytes_4⟩ := u9
    subst hw
    obtain ⟨hP1, hK1, hD1⟩ := hB
    rw [ht] at hP1
    obtain ⟨hP, hD⟩ := va_join (wr := []) (w1 := [(h_wr, .inr (3, [.ref h_tb, .int wr_keeping, .int wr_count_2])), (h_tb, .inr (4, [.ref h_tb_bytes, .int tb_count_3])), (h_tb_bytes, .inl (c_tb_bytes, 2000, .inl tb_bytes_4))]) hP hD [0, 1, 2] [] rfl rfl (by decide) (by decide) hk1 hFc hP1 hD1
    have hP := hP.sub (ws' := [(h_wr, .inr (3, [.ref h_tb, .int wr_keeping, .int wr_count_2])), (h_tb, .inr (4, [.ref h_tb_bytes, .int tb_count_3])), (h_tb_bytes, .inl (c_tb_bytes, 2000, .inl tb_bytes_4))]) [0, 1, 2] rfl
    have hD := hD.sub (ws' := [(h_wr, .inr (3, [.ref h_tb, .int wr_keeping, .int wr_count_2])), (h_tb, .inr (4, [.ref h_tb_bytes, .int tb_count_3])), (h_tb_bytes, .inl (c_tb_bytes, 2000, .inl tb_bytes_4))]) [0, 1, 2] (by decide) rfl
    clear hPc hKc hDc hFc hc9 hP1 hK1 hD1 hk1 hz1 hvm ht
    generalize H1 = H at hP hS ⊢
    try dsimp only at h
    subst eQ
    exact W.vret hx hb hr (fun t ht hW => ⟨⟨(wr_count_2, tb_count_3, tb_bytes_4), rfl, Option.some.inj h, by rw [ht]; exact hP, va_K.moved hW.alike hK, hD⟩, hS.F ht⟩) hS.2.2 d_BitWriter_tellSigned_20
  refine lv_if_lt (tgt := 11) hx hb d_BitWriter_tellSigned_2 (by decide) (fun c_1 => ?_) (fun c_1 => ?_)
  · have h := if_t h c_1
    refine lv_bipush (v := -2) hx hb d_BitWriter_tellSigned_11 (by decide) ?_
    refine lv_iload_n hx hb d_BitWriter_tellSigned_13 rfl (lv_at hl 1 rfl) ?_
    refine lv_imul hx hb d_BitWriter_tellSigned_14 ?_
    refine lv_iconst (v := 1) hx hb d_BitWriter_tellSigned_15 (by decide) ?_
    refine lv_isub hx hb d_BitWriter_tellSigned_16 ?_
    exact w_j17 _ _ _ _ h hP hD hS (lv_sub hl [] rfl)
  · have h := if_f h c_1
    refine lv_iconst (v := 2) hx hb d_BitWriter_tellSigned_5 (by decide) ?_
    refine lv_iload_n hx hb d_BitWriter_tellSigned_6 rfl (lv_at hl 1 rfl) ?_
    refine lv_imul hx hb d_BitWriter_tellSigned_7 ?_
    refine lv_goto (tgt := 17) hx hb d_BitWriter_tellSigned_8 (by decide) ?_
    exact w_j17 _ _ _ _ h hP hD hS (lv_sub hl [] rfl)
