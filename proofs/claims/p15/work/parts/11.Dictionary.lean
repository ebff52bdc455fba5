set_option maxHeartbeats 4000000 in
set_option maxRecDepth 100000 in
theorem c_Dictionary_add (l : Launch) (dC : Nat → ClassId) (dI : Nat → Nat → Nat) (h_di : Nat) (h_di_widths : Nat) (h_di_heights : Nat) (h_di_samples : Nat) (c_di_widths : ClassId) (c_di_heights : ClassId) (c_di_samples : ClassId) (di_count : Int32) (di_widths : (Nat → Int32)) (di_heights : (Nat → Int32)) (di_samples : (Nat → Int64)) (p0 : Int32) (p1 : Int32) (sz : Nat) (o : Int32 × Int32 × (Nat → Int32) × (Nat → Int32) × (Nat → Int64)) (hf : f_Dictionary_add di_count di_widths di_heights di_samples p0 p1 = some o) :
    Met l y_Dictionary_add ws_Dictionary_add { frames := 0, cells := 0, slots := 0, locals := 0 } (va_Pc [.ref h_di, .int p0, .int p1] (PcM (dC, dI) [(h_di, .inr (6, [.ref h_di_widths, .ref h_di_heights, .ref h_di_samples, .int di_count])), (h_di_widths, .inl (c_di_widths, 16, .inl di_widths)), (h_di_heights, .inl (c_di_heights, 16, .inl di_heights)), (h_di_samples, .inl (c_di_samples, 16, .inr (.inl di_samples)))] [(c_di_widths, .int), (c_di_heights, .int), (c_di_samples, .long)] sz))
      (va_Qi (fun (r : Int32) (u : Int32 × (Nat → Int32) × (Nat → Int32) × (Nat → Int64)) => (r, u) = o) (fun u t => va_P (dC, dI) CL [(h_di, .inr (6, [.ref h_di_widths, .ref h_di_heights, .ref h_di_samples, .int (u.1)])), (h_di_widths, .inl (c_di_widths, 16, .inl (u.2.1))), (h_di_heights, .inl (c_di_heights, 16, .inl (u.2.2.1))), (h_di_samples, .inl (c_di_samples, 16, .inr (.inl (u.2.2.2))))] t.heap ∧ va_K (dC, dI) CL [(c_di_widths, .int), (c_di_heights, .int), (c_di_samples, .long)] t ∧ va_D (va_A [(h_di, .inr (6, [.ref h_di_widths, .ref h_di_heights, .ref h_di_samples, .int di_count])), (h_di_widths, .inl (c_di_widths, 16, .inl di_widths)), (h_di_heights, .inl (c_di_heights, 16, .inl di_heights)), (h_di_samples, .inl (c_di_samples, 16, .inr (.inl di_samples)))] sz) [(h_di, .inr (6, [.ref h_di_widths, .ref h_di_heights, .ref h_di_samples, .int (u.1)])), (h_di_widths, .inl (c_di_widths, 16, .inl (u.2.1))), (h_di_heights, .inl (c_di_heights, 16, .inl (u.2.2.1))), (h_di_samples, .inl (c_di_samples, 16, .inr (.inl (u.2.2.2))))]) (va_A [(h_di, .inr (6, [.ref h_di_widths, .ref h_di_heights, .ref h_di_samples, .int di_count])), (h_di_widths, .inl (c_di_widths, 16, .inl di_widths)), (h_di_heights, .inl (c_di_heights, 16, .inl di_heights)), (h_di_samples, .inl (c_di_samples, 16, .inr (.inl di_samples)))] sz)) 0 0 (va_A [(h_di, .inr (6, [.ref h_di_widths, .ref h_di_heights, .ref h_di_samples, .int di_count])), (h_di_widths, .inl (c_di_widths, 16, .inl di_widths)), (h_di_heights, .inl (c_di_heights, 16, .inl di_heights)), (h_di_samples, .inl (c_di_samples, 16, .inr (.inl di_samples)))] sz) := by
  refine Met.ofW (cc := b_Dictionary_add) (maxL := 3) (ret := (some .int)) (by decide) rfl ?_
  intro p e s m args below meth c s₁ B hml hv
  obtain ⟨rfl, hsz, hP, hK, hD0, hnw⟩ := hv
  have hx := B.exec
  have hb := B.bytes
  have hr := B.returns
  have hts := atoms_spec (ws := ws_Dictionary_add) B.pre
  have hB : ∀ w ∈ BIG, w.before _ s = true := fun w h => hts w (List.mem_cons_of_mem _ h)
  have hown : s.vm.findClass R_Dictionary = some m.cls := findClass_of_methodNamed B.named
  have hlocks := B.notSynchronized
  subst hsz
  have hD := hD0.self (sz := s.heap.size)
  refine W_Q (fun Q9 eQ => ?_)
  generalize hAe : va_A [(h_di, .inr (6, [.ref h_di_widths, .ref h_di_heights, .ref h_di_samples, .int di_count])), (h_di_widths, .inl (c_di_widths, 16, .inl di_widths)), (h_di_heights, .inl (c_di_heights, 16, .inl di_heights)), (h_di_samples, .inl (c_di_samples, 16, .inr (.inl di_samples)))] s.heap.size = A at hD eQ
  have hA : ∀ q : Nat, s.heap.size ≤ q → A q := fun q h => by rw [← hAe]; exact Or.inr h
  have hS : va_S A s.heap s.heap [] := va_S.rf
  have hl := lv_entry ([.ref h_di, .int p0, .int p1]) (n := 3) (Nat.le_of_ble_eq_true rfl)
  rw [lg_entry_eq]
  generalize (lg_sl ([.ref h_di, .int p0, .int p1]) ++ List.replicate (3 - (lg_sl ([.ref h_di, .int p0, .int p1])).length) Slot.unset).toArray = ls at hl ⊢
  have hl : lv_has ls 3 [(0, .ref h_di), (1, .int p0), (2, .int p1)] := hl
  have h := hf
  unfold f_Dictionary_add at h
  refine lv_aload_n hx hb d_Dictionary_add_0 rfl (lv_at hl 0 rfl) ?_
  refine va_get (D := (dC, dI)) (ci := 6) (v := .ref h_di_widths) (C := R_Dictionary) (T := T_Dictionary) (N := 4) hx hb hB iw_Dictionary hown hK hP 0 rfl rfl 0 (by decide) (hB _ bw_44) (fun _ h9 => h9) rfl d_Dictionary_add_1 ?_
  refine lv_aload_n hx hb d_Dictionary_add_4 rfl (lv_at hl 0 rfl) ?_
  refine va_get (D := (dC, dI)) (ci := 6) (v := .int di_count) (C := R_Dictionary) (T := T_Dictionary) (N := 4) hx hb hB iw_Dictionary hown hK hP 0 rfl rfl 3 (by decide) (hB _ bw_53) (fun _ h9 => h9) rfl d_Dictionary_add_5 ?_
  refine lv_iload_n hx hb d_Dictionary_add_8 rfl (lv_at hl 1 rfl) ?_
  obtain ⟨hin, h⟩ := gq_e h
  refine va_iast hx hb hK hP hD hS 1 0 rfl rfl hin d_Dictionary_add_9 (fun H locs hP hD hS => ?_)
  have hP : va_P (dC, dI) CL [(h_di, .inr (6, [.ref h_di_widths, .ref h_di_heights, .ref h_di_samples, .int di_count])), (h_di_widths, .inl (c_di_widths, 16, .inl (upd di_widths (di_count).toNatClampNeg p0))), (h_di_heights, .inl (c_di_heights, 16, .inl di_heights)), (h_di_samples, .inl (c_di_samples, 16, .inr (.inl di_samples)))] H := hP
  have hD : va_D A [(h_di, .inr (6, [.ref h_di_widths, .ref h_di_heights, .ref h_di_samples, .int di_count])), (h_di_widths, .inl (c_di_widths, 16, .inl (upd di_widths (di_count).toNatClampNeg p0))), (h_di_heights, .inl (c_di_heights, 16, .inl di_heights)), (h_di_samples, .inl (c_di_samples, 16, .inr (.inl di_samples)))] := hD
  refine lv_aload_n hx hb d_Dictionary_add_10 rfl (lv_at hl 0 rfl) ?_
  refine va_get (D := (dC, dI)) (ci := 6) (v := .ref h_di_heights) (C := R_Dictionary) (T := T_Dictionary) (N := 4) hx hb hB iw_Dictionary hown hK hP 0 rfl rfl 1 (by decide) (hB _ bw_47) (fun _ h9 => h9) rfl d_Dictionary_add_11 ?_
  refine lv_aload_n hx hb d_Dictionary_add_14 rfl (lv_at hl 0 rfl) ?_
  refine va_get (D := (dC, dI)) (ci := 6) (v := .int di_count) (C := R_Dictionary) (T := T_Dictionary) (N := 4) hx hb hB iw_Dictionary hown hK hP 0 rfl rfl 3 (by decide) (hB _ bw_53) (fun _ h9 => h9) rfl d_Dictionary_add_15 ?_
  refine lv_iload_n hx hb d_Dictionary_add_18 rfl (lv_at hl 2 rfl) ?_
  obtain ⟨hin, h⟩ := gq_e h
  refine va_iast hx hb hK hP hD hS 2 1 rfl rfl hin d_Dictionary_add_19 (fun H locs hP hD hS => ?_)
  have hP : va_P (dC, dI) CL [(h_di, .inr (6, [.ref h_di_widths, .ref h_di_heights, .ref h_di_samples, .int di_count])), (h_di_widths, .inl (c_di_widths, 16, .inl (upd di_widths (di_count).toNatClampNeg p0))), (h_di_heights, .inl (c_di_heights, 16, .inl (upd di_heights (di_count).toNatClampNeg p1))), (h_di_samples, .inl (c_di_samples, 16, .inr (.inl di_samples)))] H := hP
  have hD : va_D A [(h_di, .inr (6, [.ref h_di_widths, .ref h_di_heights, .ref h_di_samples, .int di_count])), (h_di_widths, .inl (c_di_widths, 16, .inl (upd di_widths (di_count).toNatClampNeg p0))), (h_di_heights, .inl (c_di_heights, 16, .inl (upd di_heights (di_count).toNatClampNeg p1))), (h_di_samples, .inl (c_di_samples, 16, .inr (.inl di_samples)))] := hD
  refine lv_aload_n hx hb d_Dictionary_add_20 rfl (lv_at hl 0 rfl) ?_
  refine va_get (D := (dC, dI)) (ci := 6) (v := .ref h_di_samples) (C := R_Dictionary) (T := T_Dictionary) (N := 4) hx hb hB iw_Dictionary hown hK hP 0 rfl rfl 2 (by decide) (hB _ bw_50) (fun _ h9 => h9) rfl d_Dictionary_add_21 ?_
  refine lv_aload_n hx hb d_Dictionary_add_24 rfl (lv_at hl 0 rfl) ?_
  refine va_get (D := (dC, dI)) (ci := 6) (v := .int di_count) (C := R_Dictionary) (T := T_Dictionary) (N := 4) hx hb hB iw_Dictionary hown hK hP 0 rfl rfl 3 (by decide) (hB _ bw_53) (fun _ h9 => h9) rfl d_Dictionary_add_25 ?_
  refine lv_lconst (v := 0) hx hb d_Dictionary_add_28 (by decide) ?_
  obtain ⟨hin, h⟩ := gq_e h
  refine va_last hx hb hK hP hD hS 3 2 rfl rfl hin d_Dictionary_add_29 (fun H locs hP hD hS => ?_)
  have hP : va_P (dC, dI) CL [(h_di, .inr (6, [.ref h_di_widths, .ref h_di_heights, .ref h_di_samples, .int di_count])), (h_di_widths, .inl (c_di_widths, 16, .inl (upd di_widths (di_count).toNatClampNeg p0))), (h_di_heights, .inl (c_di_heights, 16, .inl (upd di_heights (di_count).toNatClampNeg p1))), (h_di_samples, .inl (c_di_samples, 16, .inr (.inl (vp_updL di_samples (di_count).toNatClampNeg (0 : Int64)))))] H := hP
  have hD : va_D A [(h_di, .inr (6, [.ref h_di_widths, .ref h_di_heights, .ref h_di_samples, .int di_count])), (h_di_widths, .inl (c_di_widths, 16, .inl (upd di_widths (di_count).toNatClampNeg p0))), (h_di_heights, .inl (c_di_heights, 16, .inl (upd di_heights (di_count).toNatClampNeg p1))), (h_di_samples, .inl (c_di_samples, 16, .inr (.inl (vp_updL di_samples (di_count).toNatClampNeg (0 : Int64)))))] := hD
  refine lv_aload_n hx hb d_Dictionary_add_30 rfl (lv_at hl 0 rfl) ?_
  refine lv_dup hx hb d_Dictionary_add_31 rfl ?_
  refine va_get (D := (dC, dI)) (ci := 6) (v := .int di_count) (C := R_Dictionary) (T := T_Dictionary) (N := 4) hx hb hB iw_Dictionary hown hK hP 0 rfl rfl 3 (by decide) (hB _ bw_53) (fun _ h9 => h9) rfl d_Dictionary_add_32 ?_
  refine lv_iconst (v := 1) hx hb d_Dictionary_add_35 (by decide) ?_
  refine lv_iadd hx hb d_Dictionary_add_36 ?_
  refine lv_topi (fun count_1 e_count_1 => ?_)
  have h := nl_u e_count_1 h
  refine va_put (D := (dC, dI)) (ci := 6) (v := .int count_1) (ty := .int) (C := R_Dictionary) (T := T_Dictionary) (N := 4) hx hb hB iw_Dictionary ty_Dictionary tk_Dictionary n_Dictionary hown hK hP hD hS 0 rfl rfl 3 (by decide) (hB _ bw_53) (fun _ h9 => h9) rfl (by decide +kernel) rfl rfl (Nat.le_of_ble_eq_true rfl) d_Dictionary_add_37 (fun H locs hP hD hS => ?_)
  have hP : va_P (dC, dI) CL [(h_di, .inr (6, [.ref h_di_widths, .ref h_di_heights, .ref h_di_samples, .int count_1])), (h_di_widths, .inl (c_di_widths, 16, .inl (upd di_widths (di_count).toNatClampNeg p0))), (h_di_heights, .inl (c_di_heights, 16, .inl (upd di_heights (di_count).toNatClampNeg p1))), (h_di_samples, .inl (c_di_samples, 16, .inr (.inl (vp_updL di_samples (di_count).toNatClampNeg (0 : Int64)))))] H := hP
  have hD : va_D A [(h_di, .inr (6, [.ref h_di_widths, .ref h_di_heights, .ref h_di_samples, .int count_1])), (h_di_widths, .inl (c_di_widths, 16, .inl (upd di_widths (di_count).toNatClampNeg p0))), (h_di_heights, .inl (c_di_heights, 16, .inl (upd di_heights (di_count).toNatClampNeg p1))), (h_di_samples, .inl (c_di_samples, 16, .inr (.inl (vp_updL di_samples (di_count).toNatClampNeg (0 : Int64)))))] := hD
  refine lv_aload_n hx hb d_Dictionary_add_40 rfl (lv_at hl 0 rfl) ?_
  refine va_get (D := (dC, dI)) (ci := 6) (v := .int count_1) (C := R_Dictionary) (T := T_Dictionary) (N := 4) hx hb hB iw_Dictionary hown hK hP 0 rfl rfl 3 (by decide) (hB _ bw_53) (fun _ h9 => h9) rfl d_Dictionary_add_41 ?_
  refine lv_iconst (v := 1) hx hb d_Dictionary_add_44 (by decide) ?_
  refine lv_isub hx hb d_Dictionary_add_45 ?_
  subst eQ
  exact W.iret (v := (count_1 - (1 : Int32))) hx hb hr (fun t ht hW => ⟨⟨_, (count_1, (upd di_widths (di_count).toNatClampNeg p0), (upd di_heights (di_count).toNatClampNeg p1), (vp_updL di_samples (di_count).toNatClampNeg (0 : Int64))), rfl, Option.some.inj h, by rw [ht]; exact hP, va_K.moved hW.alike hK, hD⟩, hS.F ht⟩) hS.2.2 d_Dictionary_add_46
set_option maxHeartbeats 4000000 in
set_option maxRecDepth 100000 in
theorem c_Dictionary_has (l : Launch) (dC : Nat → ClassId) (dI : Nat → Nat → Nat) (h_di : Nat) (u_di_widths : Value) (u_di_heights : Value) (u_di_samples : Value) (di_count : Int32) (p0 : Int32) (o : Int32) (hf : f_Dictionary_has di_count p0 = some o) :
    Met l y_Dictionary_has ws_Dictionary_has { frames := 1, cells := 0, slots := 0, locals := 22 } (va_Pc [.ref h_di, .int p0] (PcP (dC, dI) [(h_di, .inr (6, [u_di_widths, u_di_heights, u_di_samples, .int di_count]))] []))
      (vp_Si (fun r => r = o)) 0 0 (fun _ => False) := by
  refine Met.ofW (cc := b_Dictionary_has) (maxL := 2) (ret := (some .boolean)) (by decide) rfl ?_
  intro p e s m args below meth c s₁ B hml hv
  obtain ⟨rfl, hP, hK, hnw⟩ := hv
  have hx := B.exec
  have hb := B.bytes
  have hr := B.returns
  have hts := atoms_spec (ws := ws_Dictionary_has) B.pre
  have hB : ∀ w ∈ BIG, w.before _ s = true := fun w h => hts w (List.mem_cons_of_mem _ h)
  have hown : s.vm.findClass R_Dictionary = some m.cls := findClass_of_methodNamed B.named
  have hlocks := B.notSynchronized
  refine W_Q (fun Q9 eQ => ?_)
  have hl := lv_entry ([.ref h_di, .int p0]) (n := 2) (Nat.le_of_ble_eq_true rfl)
  rw [lg_entry_eq]
  generalize (lg_sl ([.ref h_di, .int p0]) ++ List.replicate (2 - (lg_sl ([.ref h_di, .int p0])).length) Slot.unset).toArray = ls at hl ⊢
  have hl : lv_has ls 2 [(0, .ref h_di), (1, .int p0)] := hl
  have h := hf
  unfold f_Dictionary_has at h
  refine lv_iload_n hx hb d_Dictionary_has_0 rfl (lv_at hl 1 rfl) ?_
  refine lv_iconst (v := 0) hx hb d_Dictionary_has_1 (by decide) ?_
  refine lv_aload_n hx hb d_Dictionary_has_2 rfl (lv_at hl 0 rfl) ?_
  refine va_get (D := (dC, dI)) (ci := 6) (v := .int di_count) (C := R_Dictionary) (T := T_Dictionary) (N := 4) hx hb hB iw_Dictionary hown hK hP 0 rfl rfl 3 (by decide) (hB _ bw_53) (fun _ h9 => h9) rfl d_Dictionary_has_3 ?_
  refine lv_iconst (v := 1) hx hb d_Dictionary_has_6 (by decide) ?_
  refine lv_isub hx hb d_Dictionary_has_7 ?_
  obtain ⟨o9, hc9, h⟩ := bd_e h
  have hPc := hP.sub (ws' := []) [] rfl
  have hKc := hK.sub (tys' := []) [] rfl
  refine vp_callSi (va_Run.run (va_runSN (As := [.int p0, .int (0 : Int32), .int (di_count - (1 : Int32))]) (rest := []) ⟨hx, hb, hml, hown, hB⟩ (c_Top_isWithin l dC dI p0 (0 : Int32) (di_count - (1 : Int32)) o9 hc9) ⟨va_cnB 3 hB (goodB bw_344) rfl rfl rfl (hnw.1 _ bn_744) (hB _ bw_1) (by decide +kernel) ⟨Nat.le_of_ble_eq_true rfl, Nat.le_of_ble_eq_true rfl⟩, hB _ bw_343, trivial⟩ ⟨fb_p, (pre_p hPc hKc hnw [.int p0, .int (0 : Int32), .int (di_count - (1 : Int32))])⟩ rfl rfl hl.1 rfl (lv_room (Nat.le_of_ble_eq_true rfl)) d_Dictionary_has_8 ⟨Nat.zero_le _, Nat.zero_le _⟩)) (fun r_1 e_r_1 => ?_)
  subst e_r_1
  clear hPc hKc hc9
  subst eQ
  obtain ⟨hz, h⟩ := bz_e h
  exact W.zret (v := r_1) hx hb hr (bz_n hz) (fun t ht hW => ⟨_, rfl, Option.some.inj h, ht⟩) (fun _ h9 => absurd h9 List.not_mem_nil) d_Dictionary_has_11
set_option maxHeartbeats 4000000 in
set_option maxRecDepth 100000 in
theorem c_Dictionary_hasSample (l : Launch) (dC : Nat → ClassId) (dI : Nat → Nat → Nat) (h_di : Nat) (h_di_widths : Nat) (h_di_heights : Nat) (c_di_widths : ClassId) (c_di_heights : ClassId) (u_di_samples : Value) (u_di_count : Value) (di_widths : (Nat → Int32)) (di_heights : (Nat → Int32)) (p0 : Int32) (p1 : Int32) (p2 : Int32) (o : Int32) (hf : f_Dictionary_hasSample di_widths di_heights p0 p1 p2 = some o) :
    Met l y_Dictionary_hasSample ws_Dictionary_hasSample { frames := 1, cells := 0, slots := 0, locals := 22 } (va_Pc [.ref h_di, .int p0, .int p1, .int p2] (PcP (dC, dI) [(h_di, .inr (6, [.ref h_di_widths, .ref h_di_heights, u_di_samples, u_di_count])), (h_di_widths, .inl (c_di_widths, 16, .inl di_widths)), (h_di_heights, .inl (c_di_heights, 16, .inl di_heights))] [(c_di_widths, .int), (c_di_heights, .int)]))
      (vp_Si (fun r => r = o)) 0 0 (fun _ => False) := by
  refine Met.ofW (cc := b_Dictionary_hasSample) (maxL := 4) (ret := (some .boolean)) (by decide) rfl ?_
  intro p e s m args below meth c s₁ B hml hv
  obtain ⟨rfl, hP, hK, hnw⟩ := hv
  have hx := B.exec
  have hb := B.bytes
  have hr := B.returns
  have hts := atoms_spec (ws := ws_Dictionary_hasSample) B.pre
  have hB : ∀ w ∈ BIG, w.before _ s = true := fun w h => hts w (List.mem_cons_of_mem _ h)
  have hown : s.vm.findClass R_Dictionary = some m.cls := findClass_of_methodNamed B.named
  have hlocks := B.notSynchronized
  refine W_Q (fun Q9 eQ => ?_)
  have hl := lv_entry ([.ref h_di, .int p0, .int p1, .int p2]) (n := 4) (Nat.le_of_ble_eq_true rfl)
  rw [lg_entry_eq]
  generalize (lg_sl ([.ref h_di, .int p0, .int p1, .int p2]) ++ List.replicate (4 - (lg_sl ([.ref h_di, .int p0, .int p1, .int p2])).length) Slot.unset).toArray = ls at hl ⊢
  have hl : lv_has ls 4 [(0, .ref h_di), (1, .int p0), (2, .int p1), (3, .int p2)] := hl
  have h := hf
  unfold f_Dictionary_hasSample at h
  refine lv_iload_n hx hb d_Dictionary_hasSample_0 rfl (lv_at hl 2 rfl) ?_
  refine lv_iconst (v := 0) hx hb d_Dictionary_hasSample_1 (by decide) ?_
  refine lv_aload_n hx hb d_Dictionary_hasSample_2 rfl (lv_at hl 0 rfl) ?_
  refine va_get (D := (dC, dI)) (ci := 6) (v := .ref h_di_widths) (C := R_Dictionary) (T := T_Dictionary) (N := 4) hx hb hB iw_Dictionary hown hK hP 0 rfl rfl 0 (by decide) (hB _ bw_44) (fun _ h9 => h9) rfl d_Dictionary_hasSample_3 ?_
  refine lv_iload_n hx hb d_Dictionary_hasSample_6 rfl (lv_at hl 1 rfl) ?_
  obtain ⟨hin, h⟩ := gq_e h
  refine va_iald hx hb hK hP 1 0 rfl rfl hin d_Dictionary_hasSample_7 ?_
  refine lv_iconst (v := 1) hx hb d_Dictionary_hasSample_8 (by decide) ?_
  refine lv_isub hx hb d_Dictionary_hasSample_9 ?_
  obtain ⟨o9, hc9, h⟩ := bd_e h
  have hPc := hP.sub (ws' := []) [] rfl
  have hKc := hK.sub (tys' := []) [] rfl
  refine vp_callSi (va_Run.run (va_runSN (As := [.int p1, .int (0 : Int32), .int ((di_widths (p0).toNatClampNeg) - (1 : Int32))]) (rest := []) ⟨hx, hb, hml, hown, hB⟩ (c_Top_isWithin l dC dI p1 (0 : Int32) ((di_widths (p0).toNatClampNeg) - (1 : Int32)) o9 hc9) ⟨va_cnB 3 hB (goodB bw_344) rfl rfl rfl (hnw.1 _ bn_744) (hB _ bw_1) (by decide +kernel) ⟨Nat.le_of_ble_eq_true rfl, Nat.le_of_ble_eq_true rfl⟩, hB _ bw_343, trivial⟩ ⟨fb_p, (pre_p hPc hKc hnw [.int p1, .int (0 : Int32), .int ((di_widths (p0).toNatClampNeg) - (1 : Int32))])⟩ rfl rfl hl.1 rfl (lv_room (Nat.le_of_ble_eq_true rfl)) d_Dictionary_hasSample_10 ⟨Nat.zero_le _, Nat.zero_le _⟩)) (fun r_1 e_r_1 => ?_)
  subst e_r_1
  clear hPc hKc hc9
  refine lv_if_eq (tgt := 36) hx hb d_Dictionary_hasSample_13 (by decide) (fun c_1 => ?_) (fun c_1 => ?_)
  · have h := if_t h c_1
    refine lv_iconst (v := 0) hx hb d_Dictionary_hasSample_36 (by decide) ?_
    subst eQ
    exact W.zret (v := (0 : Int32)) hx hb hr rfl (fun t ht hW => ⟨_, rfl, Option.some.inj h, ht⟩) (fun _ h9 => absurd h9 List.not_mem_nil) d_Dictionary_hasSample_37
  · have h := if_f h c_1
    refine lv_iload_n hx hb d_Dictionary_hasSample_16 rfl (lv_at hl 3 rfl) ?_
    refine lv_iconst (v := 0) hx hb d_Dictionary_hasSample_17 (by decide) ?_
    refine lv_aload_n hx hb d_Dictionary_hasSample_18 rfl (lv_at hl 0 rfl) ?_
    refine va_get (D := (dC, dI)) (ci := 6) (v := .ref h_di_heights) (C := R_Dictionary) (T := T_Dictionary) (N := 4) hx hb hB iw_Dictionary hown hK hP 0 rfl rfl 1 (by decide) (hB _ bw_47) (fun _ h9 => h9) rfl d_Dictionary_hasSample_19 ?_
    refine lv_iload_n hx hb d_Dictionary_hasSample_22 rfl (lv_at hl 1 rfl) ?_
    obtain ⟨hin, h⟩ := gq_e h
    refine va_iald hx hb hK hP 2 1 rfl rfl hin d_Dictionary_hasSample_23 ?_
    refine lv_iconst (v := 1) hx hb d_Dictionary_hasSample_24 (by decide) ?_
    refine lv_isub hx hb d_Dictionary_hasSample_25 ?_
    obtain ⟨o9, hc9, h⟩ := bd_e h
    have hPc := hP.sub (ws' := []) [] rfl
    have hKc := hK.sub (tys' := []) [] rfl
    refine vp_callSi (va_Run.run (va_runSN (As := [.int p2, .int (0 : Int32), .int ((di_heights (p0).toNatClampNeg) - (1 : Int32))]) (rest := []) ⟨hx, hb, hml, hown, hB⟩ (c_Top_isWithin l dC dI p2 (0 : Int32) ((di_heights (p0).toNatClampNeg) - (1 : Int32)) o9 hc9) ⟨va_cnB 3 hB (goodB bw_344) rfl rfl rfl (hnw.1 _ bn_744) (hB _ bw_1) (by decide +kernel) ⟨Nat.le_of_ble_eq_true rfl, Nat.le_of_ble_eq_true rfl⟩, hB _ bw_343, trivial⟩ ⟨fb_p, (pre_p hPc hKc hnw [.int p2, .int (0 : Int32), .int ((di_heights (p0).toNatClampNeg) - (1 : Int32))])⟩ rfl rfl hl.1 rfl (lv_room (Nat.le_of_ble_eq_true rfl)) d_Dictionary_hasSample_26 ⟨Nat.zero_le _, Nat.zero_le _⟩)) (fun r_2 e_r_2 => ?_)
    subst e_r_2
    clear hPc hKc hc9
    refine lv_if_eq (tgt := 36) hx hb d_Dictionary_hasSample_29 (by decide) (fun c_2 => ?_) (fun c_2 => ?_)
    · have h := if_t h c_2
      refine lv_iconst (v := 0) hx hb d_Dictionary_hasSample_36 (by decide) ?_
      subst eQ
      exact W.zret (v := (0 : Int32)) hx hb hr rfl (fun t ht hW => ⟨_, rfl, Option.some.inj h, ht⟩) (fun _ h9 => absurd h9 List.not_mem_nil) d_Dictionary_hasSample_37
    · have h := if_f h c_2
      refine lv_iconst (v := 1) hx hb d_Dictionary_hasSample_32 (by decide) ?_
      refine lv_goto (tgt := 37) hx hb d_Dictionary_hasSample_33 (by decide) ?_
      subst eQ
      exact W.zret (v := (1 : Int32)) hx hb hr rfl (fun t ht hW => ⟨_, rfl, Option.some.inj h, ht⟩) (fun _ h9 => absurd h9 List.not_mem_nil) d_Dictionary_hasSample_37
set_option maxHeartbeats 4000000 in
set_option maxRecDepth 100000 in
theorem c_Dictionary_sampleNumber (l : Launch) (dC : Nat → ClassId) (dI : Nat → Nat → Nat) (h_di : Nat) (h_di_widths : Nat) (c_di_widths : ClassId) (u_di_heights : Value) (u_di_samples : Value) (u_di_count : Value) (di_widths : (Nat → Int32)) (p0 : Int32) (p1 : Int32) (p2 : Int32) (o : Int32) (hf : f_Dictionary_sampleNumber di_widths p0 p1 p2 = some o) :
    Met l y_Dictionary_sampleNumber ws_Dictionary_sampleNumber { frames := 0, cells := 0, slots := 0, locals := 0 } (va_Pc [.ref h_di, .int p0, .int p1, .int p2] (PcP (dC, dI) [(h_di, .inr (6, [.ref h_di_widths, u_di_heights, u_di_samples, u_di_count])), (h_di_widths, .inl (c_di_widths, 16, .inl di_widths))] [(c_di_widths, .int)]))
      (vp_Si (fun r => r = o)) 0 0 (fun _ => False) := by
  refine Met.ofW (cc := b_Dictionary_sampleNumber) (maxL := 4) (ret := (some .int)) (by decide) rfl ?_
  intro p e s m args below meth c s₁ B hml hv
  obtain ⟨rfl, hP, hK, hnw⟩ := hv
  have hx := B.exec
  have hb := B.bytes
  have hr := B.returns
  have hts := atoms_spec (ws := ws_Dictionary_sampleNumber) B.pre
  have hB : ∀ w ∈ BIG, w.before _ s = true := fun w h => hts w (List.mem_cons_of_mem _ h)
  have hown : s.vm.findClass R_Dictionary = some m.cls := findClass_of_methodNamed B.named
  have hlocks := B.notSynchronized
  refine W_Q (fun Q9 eQ => ?_)
  have hl := lv_entry ([.ref h_di, .int p0, .int p1, .int p2]) (n := 4) (Nat.le_of_ble_eq_true rfl)
  rw [lg_entry_eq]
  generalize (lg_sl ([.ref h_di, .int p0, .int p1, .int p2]) ++ List.replicate (4 - (lg_sl ([.ref h_di, .int p0, .int p1, .int p2])).length) Slot.unset).toArray = ls at hl ⊢
  have hl : lv_has ls 4 [(0, .ref h_di), (1, .int p0), (2, .int p1), (3, .int p2)] := hl
  have h := hf
  unfold f_Dictionary_sampleNumber at h
  refine lv_iload_n hx hb d_Dictionary_sampleNumber_0 rfl (lv_at hl 3 rfl) ?_
  refine lv_aload_n hx hb d_Dictionary_sampleNumber_1 rfl (lv_at hl 0 rfl) ?_
  refine va_get (D := (dC, dI)) (ci := 6) (v := .ref h_di_widths) (C := R_Dictionary) (T := T_Dictionary) (N := 4) hx hb hB iw_Dictionary hown hK hP 0 rfl rfl 0 (by decide) (hB _ bw_44) (fun _ h9 => h9) rfl d_Dictionary_sampleNumber_2 ?_
  refine lv_iload_n hx hb d_Dictionary_sampleNumber_5 rfl (lv_at hl 1 rfl) ?_
  obtain ⟨hin, h⟩ := gq_e h
  refine va_iald hx hb hK hP 1 0 rfl rfl hin d_Dictionary_sampleNumber_6 ?_
  refine lv_imul hx hb d_Dictionary_sampleNumber_7 ?_
  refine lv_iload_n hx hb d_Dictionary_sampleNumber_8 rfl (lv_at hl 2 rfl) ?_
  refine lv_iadd hx hb d_Dictionary_sampleNumber_9 ?_
  subst eQ
  exact W.iret (v := ((p2 * (di_widths (p0).toNatClampNeg)) + p1)) hx hb hr (fun t ht hW => ⟨_, rfl, Option.some.inj h, ht⟩) (fun _ h9 => absurd h9 List.not_mem_nil) d_Dictionary_sampleNumber_10
set_option maxHeartbeats 4000000 in
set_option maxRecDepth 100000 in
theorem c_Dictionary_sampleCount (l : Launch) (dC : Nat → ClassId) (dI : Nat → Nat → Nat) (h_di : Nat) (h_di_widths : Nat) (h_di_heights : Nat) (c_di_widths : ClassId) (c_di_heights : ClassId) (u_di_samples : Value) (u_di_count : Value) (di_widths : (Nat → Int32)) (di_heights : (Nat → Int32)) (p0 : Int32) (o : Int32) (hf : f_Dictionary_sampleCount di_widths di_heights p0 = some o) :
    Met l y_Dictionary_sampleCount ws_Dictionary_sampleCount { frames := 0, cells := 0, slots := 0, locals := 0 } (va_Pc [.ref h_di, .int p0] (PcP (dC, dI) [(h_di, .inr (6, [.ref h_di_widths, .ref h_di_heights, u_di_samples, u_di_count])), (h_di_widths, .inl (c_di_widths, 16, .inl di_widths)), (h_di_heights, .inl (c_di_heights, 16, .inl di_heights))] [(c_di_widths, .int), (c_di_heights, .int)]))
      (vp_Si (fun r => r = o)) 0 0 (fun _ => False) := by
  refine Met.ofW (cc := b_Dictionary_sampleCount) (maxL := 2) (ret := (some .int)) (by decide) rfl ?_
  intro p e s m args below meth c s₁ B hml hv
  obtain ⟨rfl, hP, hK, hnw⟩ := hv
  have hx := B.exec
  have hb := B.bytes
  have hr := B.returns
  have hts := atoms_spec (ws := ws_Dictionary_sampleCount) B.pre
  have hB : ∀ w ∈ BIG, w.before _ s = true := fun w h => hts w (List.mem_cons_of_mem _ h)
  have hown : s.vm.findClass R_Dictionary = some m.cls := findClass_of_methodNamed B.named
  have hlocks := B.notSynchronized
  refine W_Q (fun Q9 eQ => ?_)
  have hl := lv_entry ([.ref h_di, .int p0]) (n := 2) (Nat.le_of_ble_eq_true rfl)
  rw [lg_entry_eq]
  generalize (lg_sl ([.ref h_di, .int p0]) ++ List.replicate (2 - (lg_sl ([.ref h_di, .int p0])).length) Slot.unset).toArray = ls at hl ⊢
  have hl : lv_has ls 2 [(0, .ref h_di), (1, .int p0)] := hl
  have h := hf
  unfold f_Dictionary_sampleCount at h
  refine lv_aload_n hx hb d_Dictionary_sampleCount_0 rfl (lv_at hl 0 rfl) ?_
  refine va_get (D := (dC, dI)) (ci := 6) (v := .ref h_di_widths) (C := R_Dictionary) (T := T_Dictionary) (N := 4) hx hb hB iw_Dictionary hown hK hP 0 rfl rfl 0 (by decide) (hB _ bw_44) (fun _ h9 => h9) rfl d_Dictionary_sampleCount_1 ?_
  refine lv_iload_n hx hb d_Dictionary_sampleCount_4 rfl (lv_at hl 1 rfl) ?_
  obtain ⟨hin, h⟩ := gq_e h
  refine va_iald hx hb hK hP 1 0 rfl rfl hin d_Dictionary_sampleCount_5 ?_
  refine lv_aload_n hx hb d_Dictionary_sampleCount_6 rfl (lv_at hl 0 rfl) ?_
  refine va_get (D := (dC, dI)) (ci := 6) (v := .ref h_di_heights) (C := R_Dictionary) (T := T_Dictionary) (N := 4) hx hb hB iw_Dictionary hown hK hP 0 rfl rfl 1 (by decide) (hB _ bw_47) (fun _ h9 => h9) rfl d_Dictionary_sampleCount_7 ?_
  refine lv_iload_n hx hb d_Dictionary_sampleCount_10 rfl (lv_at hl 1 rfl) ?_
  obtain ⟨hin, h⟩ := gq_e h
  refine va_iald hx hb hK hP 2 1 rfl rfl hin d_Dictionary_sampleCount_11 ?_
  refine lv_imul hx hb d_Dictionary_sampleCount_12 ?_
  subst eQ
  exact W.iret (v := ((di_widths (p0).toNatClampNeg) * (di_heights (p0).toNatClampNeg))) hx hb hr (fun t ht hW => ⟨_, rfl, Option.some.inj h, ht⟩) (fun _ h9 => absurd h9 List.not_mem_nil) d_Dictionary_sampleCount_13
