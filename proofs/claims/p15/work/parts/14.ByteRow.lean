set_option maxHeartbeats 4000000 in
set_option maxRecDepth 100000 in
theorem c_ByteRow_append (l : Launch) (dC : Nat → ClassId) (dI : Nat → Nat → Nat) (h_br : Nat) (h_br_bytes : Nat) (c_br_bytes : ClassId) (br_count : Int32) (br_bytes : (Nat → Int32)) (p0 : Int32) (sz : Nat) (o : Int32 × (Nat → Int32)) (hf : f_ByteRow_append br_count br_bytes p0 = some o) :
    Met l y_ByteRow_append ws_ByteRow_append { frames := 0, cells := 0, slots := 0, locals := 0 } (va_Pc [.ref h_br, .int p0] (PcM (dC, dI) [(h_br, .inr (4, [.ref h_br_bytes, .int br_count])), (h_br_bytes, .inl (c_br_bytes, 2000, .inl br_bytes))] [(c_br_bytes, .int)] sz))
      (va_Qv (fun u : Int32 × (Nat → Int32) => u = o) (fun u t => va_P (dC, dI) CL [(h_br, .inr (4, [.ref h_br_bytes, .int (u.1)])), (h_br_bytes, .inl (c_br_bytes, 2000, .inl (u.2)))] t.heap ∧ va_K (dC, dI) CL [(c_br_bytes, .int)] t ∧ va_D (va_A [(h_br, .inr (4, [.ref h_br_bytes, .int br_count])), (h_br_bytes, .inl (c_br_bytes, 2000, .inl br_bytes))] sz) [(h_br, .inr (4, [.ref h_br_bytes, .int (u.1)])), (h_br_bytes, .inl (c_br_bytes, 2000, .inl (u.2)))]) (va_A [(h_br, .inr (4, [.ref h_br_bytes, .int br_count])), (h_br_bytes, .inl (c_br_bytes, 2000, .inl br_bytes))] sz)) 0 0 (va_A [(h_br, .inr (4, [.ref h_br_bytes, .int br_count])), (h_br_bytes, .inl (c_br_bytes, 2000, .inl br_bytes))] sz) := by
  refine Met.ofW (cc := b_ByteRow_append) (maxL := 2) (ret := none) (by decide) rfl ?_
  intro p e s m args below meth c s₁ B hml hv
  obtain ⟨rfl, hsz, hP, hK, hD0, hnw⟩ := hv
  have hx := B.exec
  have hb := B.bytes
  have hr := B.returns
  have hts := atoms_spec (ws := ws_ByteRow_append) B.pre
  have hB : ∀ w ∈ BIG, w.before _ s = true := fun w h => hts w (List.mem_cons_of_mem _ h)
  have hown : s.vm.findClass R_ByteRow = some m.cls := findClass_of_methodNamed B.named
  have hlocks := B.notSynchronized
  subst hsz
  have hD := hD0.self (sz := s.heap.size)
  refine W_Q (fun Q9 eQ => ?_)
  generalize hAe : va_A [(h_br, .inr (4, [.ref h_br_bytes, .int br_count])), (h_br_bytes, .inl (c_br_bytes, 2000, .inl br_bytes))] s.heap.size = A at hD eQ
  have hA : ∀ q : Nat, s.heap.size ≤ q → A q := fun q h => by rw [← hAe]; exact Or.inr h
  have hS : va_S A s.heap s.heap [] := va_S.rf
  have hl := lv_entry ([.ref h_br, .int p0]) (n := 2) (Nat.le_of_ble_eq_true rfl)
  rw [lg_entry_eq]
  generalize (lg_sl ([.ref h_br, .int p0]) ++ List.replicate (2 - (lg_sl ([.ref h_br, .int p0])).length) Slot.unset).toArray = ls at hl ⊢
  have hl : lv_has ls 2 [(0, .ref h_br), (1, .int p0)] := hl
  have h := hf
  unfold f_ByteRow_append at h
  refine lv_aload_n hx hb d_ByteRow_append_0 rfl (lv_at hl 0 rfl) ?_
  refine va_get (D := (dC, dI)) (ci := 4) (v := .int br_count) (C := R_ByteRow) (T := T_ByteRow) (N := 2) hx hb hB iw_ByteRow hown hK hP 0 rfl rfl 1 (by decide) (hB _ bw_98) (fun _ h9 => h9) rfl d_ByteRow_append_1 ?_
  refine lv_sipush (v := 2000) hx hb d_ByteRow_append_4 (by decide) ?_
  refine lv_icmp_ge (tgt := 30) hx hb d_ByteRow_append_7 (by decide) (fun c_1 => ?_) (fun c_1 => ?_)
  · have h := if_t h c_1
    subst eQ
    exact W.vret hx hb hr (fun t ht hW => ⟨⟨(br_count, br_bytes), rfl, Option.some.inj h, by rw [ht]; exact hP, va_K.moved hW.alike hK, hD⟩, hS.F ht⟩) hS.2.2 d_ByteRow_append_30
  · have h := if_f h c_1
    refine lv_aload_n hx hb d_ByteRow_append_10 rfl (lv_at hl 0 rfl) ?_
    refine va_get (D := (dC, dI)) (ci := 4) (v := .ref h_br_bytes) (C := R_ByteRow) (T := T_ByteRow) (N := 2) hx hb hB iw_ByteRow hown hK hP 0 rfl rfl 0 (by decide) (hB _ bw_94) (fun _ h9 => h9) rfl d_ByteRow_append_11 ?_
    refine lv_aload_n hx hb d_ByteRow_append_14 rfl (lv_at hl 0 rfl) ?_
    refine va_get (D := (dC, dI)) (ci := 4) (v := .int br_count) (C := R_ByteRow) (T := T_ByteRow) (N := 2) hx hb hB iw_ByteRow hown hK hP 0 rfl rfl 1 (by decide) (hB _ bw_98) (fun _ h9 => h9) rfl d_ByteRow_append_15 ?_
    refine lv_iload_n hx hb d_ByteRow_append_18 rfl (lv_at hl 1 rfl) ?_
    obtain ⟨hin, h⟩ := gq_e h
    refine va_iast hx hb hK hP hD hS 1 0 rfl rfl hin d_ByteRow_append_19 (fun H locs hP hD hS => ?_)
    have hP : va_P (dC, dI) CL [(h_br, .inr (4, [.ref h_br_bytes, .int br_count])), (h_br_bytes, .inl (c_br_bytes, 2000, .inl (upd br_bytes (br_count).toNatClampNeg p0)))] H := hP
    have hD : va_D A [(h_br, .inr (4, [.ref h_br_bytes, .int br_count])), (h_br_bytes, .inl (c_br_bytes, 2000, .inl (upd br_bytes (br_count).toNatClampNeg p0)))] := hD
    refine lv_aload_n hx hb d_ByteRow_append_20 rfl (lv_at hl 0 rfl) ?_
    refine lv_dup hx hb d_ByteRow_append_21 rfl ?_
    refine va_get (D := (dC, dI)) (ci := 4) (v := .int br_count) (C := R_ByteRow) (T := T_ByteRow) (N := 2) hx hb hB iw_ByteRow hown hK hP 0 rfl rfl 1 (by decide) (hB _ bw_98) (fun _ h9 => h9) rfl d_ByteRow_append_22 ?_
    refine lv_iconst (v := 1) hx hb d_ByteRow_append_25 (by decide) ?_
    refine lv_iadd hx hb d_ByteRow_append_26 ?_
    refine lv_topi (fun count_1 e_count_1 => ?_)
    have h := nl_u e_count_1 h
    refine va_put (D := (dC, dI)) (ci := 4) (v := .int count_1) (ty := .int) (C := R_ByteRow) (T := T_ByteRow) (N := 2) hx hb hB iw_ByteRow ty_ByteRow tk_ByteRow n_ByteRow hown hK hP hD hS 0 rfl rfl 1 (by decide) (hB _ bw_98) (fun _ h9 => h9) rfl (by decide +kernel) rfl rfl (Nat.le_of_ble_eq_true rfl) d_ByteRow_append_27 (fun H locs hP hD hS => ?_)
    have hP : va_P (dC, dI) CL [(h_br, .inr (4, [.ref h_br_bytes, .int count_1])), (h_br_bytes, .inl (c_br_bytes, 2000, .inl (upd br_bytes (br_count).toNatClampNeg p0)))] H := hP
    have hD : va_D A [(h_br, .inr (4, [.ref h_br_bytes, .int count_1])), (h_br_bytes, .inl (c_br_bytes, 2000, .inl (upd br_bytes (br_count).toNatClampNeg p0)))] := hD
    subst eQ
    exact W.vret hx hb hr (fun t ht hW => ⟨⟨(count_1, (upd br_bytes (br_count).toNatClampNeg p0)), rfl, Option.some.inj h, by rw [ht]; exact hP, va_K.moved hW.alike hK, hD⟩, hS.F ht⟩) hS.2.2 d_ByteRow_append_30
