set_option maxHeartbeats 4000000 in
set_option maxRecDepth 100000 in
theorem c_Top_symbol (l : Launch) (dC : Nat → ClassId) (dI : Nat → Nat → Nat) (h_tr : Nat) (h_di : Nat) (h_di_widths : Nat) (h_di_heights : Nat) (h_di_samples : Nat) (c_di_widths : ClassId) (c_di_heights : ClassId) (c_di_samples : ClassId) (u_tr_kind : Value) (u_tr_page : Value) (u_tr_toldBytes : Value) (u_tr_cameBytes : Value) (u_tr_teller : Value) (u_tr_reader : Value) (u_tr_layout : Value) (u_tr_spare : Value) (u_tr_refusedAt : Value) (di_count : Int32) (di_widths : (Nat → Int32)) (di_heights : (Nat → Int32)) (di_samples : (Nat → Int64)) (p0 : Int32) (p1 : Int32) (sz : Nat) (hlt : l.stackTraces = false) (o : String ⊕ (Int32 × Int32 × (Nat → Int32) × (Nat → Int32) × (Nat → Int64))) (hf : f_Top_symbol di_count di_widths di_heights di_samples p0 p1 = some o) :
    XMet l y_Top_symbol ws_Top_symbol { frames := 6, cells := 1, slots := 6, locals := 110 } (va_Pc [.ref h_tr, .int p0, .int p1] (fun U => (PcM (dC, dI) [(h_tr, .inr (0, [u_tr_kind, .ref h_di, u_tr_page, u_tr_toldBytes, u_tr_cameBytes, u_tr_teller, u_tr_reader, u_tr_layout, u_tr_spare, u_tr_refusedAt])), (h_di, .inr (6, [.ref h_di_widths, .ref h_di_heights, .ref h_di_samples, .int di_count])), (h_di_widths, .inl (c_di_widths, 16, .inl di_widths)), (h_di_heights, .inl (c_di_heights, 16, .inl di_heights)), (h_di_samples, .inl (c_di_samples, 16, .inr (.inl di_samples)))] [(c_di_widths, .int), (c_di_heights, .int), (c_di_samples, .long)] sz) U ∧ xw U))
      (va_Qi (fun (r : Int32) (u : Int32 × (Nat → Int32) × (Nat → Int32) × (Nat → Int64)) => (.inr (r, u) : String ⊕ (Int32 × Int32 × (Nat → Int32) × (Nat → Int32) × (Nat → Int64))) = o) (fun u t => va_P (dC, dI) CL [(h_tr, .inr (0, [u_tr_kind, .ref h_di, u_tr_page, u_tr_toldBytes, u_tr_cameBytes, u_tr_teller, u_tr_reader, u_tr_layout, u_tr_spare, u_tr_refusedAt])), (h_di, .inr (6, [.ref h_di_widths, .ref h_di_heights, .ref h_di_samples, .int (u.1)])), (h_di_widths, .inl (c_di_widths, 16, .inl (u.2.1))), (h_di_heights, .inl (c_di_heights, 16, .inl (u.2.2.1))), (h_di_samples, .inl (c_di_samples, 16, .inr (.inl (u.2.2.2))))] t.heap ∧ va_K (dC, dI) CL [(c_di_widths, .int), (c_di_heights, .int), (c_di_samples, .long)] t ∧ va_D (va_A [(h_tr, .inr (0, [u_tr_kind, .ref h_di, u_tr_page, u_tr_toldBytes, u_tr_cameBytes, u_tr_teller, u_tr_reader, u_tr_layout, u_tr_spare, u_tr_refusedAt])), (h_di, .inr (6, [.ref h_di_widths, .ref h_di_heights, .ref h_di_samples, .int di_count])), (h_di_widths, .inl (c_di_widths, 16, .inl di_widths)), (h_di_heights, .inl (c_di_heights, 16, .inl di_heights)), (h_di_samples, .inl (c_di_samples, 16, .inr (.inl di_samples)))] sz) [(h_tr, .inr (0, [u_tr_kind, .ref h_di, u_tr_page, u_tr_toldBytes, u_tr_cameBytes, u_tr_teller, u_tr_reader, u_tr_layout, u_tr_spare, u_tr_refusedAt])), (h_di, .inr (6, [.ref h_di_widths, .ref h_di_heights, .ref h_di_samples, .int (u.1)])), (h_di_widths, .inl (c_di_widths, 16, .inl (u.2.1))), (h_di_heights, .inl (c_di_heights, 16, .inl (u.2.2.1))), (h_di_samples, .inl (c_di_samples, 16, .inr (.inl (u.2.2.2))))]) (va_A [(h_tr, .inr (0, [u_tr_kind, .ref h_di, u_tr_page, u_tr_toldBytes, u_tr_cameBytes, u_tr_teller, u_tr_reader, u_tr_layout, u_tr_spare, u_tr_refusedAt])), (h_di, .inr (6, [.ref h_di_widths, .ref h_di_heights, .ref h_di_samples, .int di_count])), (h_di_widths, .inl (c_di_widths, 16, .inl di_widths)), (h_di_heights, .inl (c_di_heights, 16, .inl di_heights)), (h_di_samples, .inl (c_di_samples, 16, .inr (.inl di_samples)))] sz)) (fun cls => (.inl cls : String ⊕ (Int32 × Int32 × (Nat → Int32) × (Nat → Int32) × (Nat → Int64))) = o) 1 6 (va_A [(h_tr, .inr (0, [u_tr_kind, .ref h_di, u_tr_page, u_tr_toldBytes, u_tr_cameBytes, u_tr_teller, u_tr_reader, u_tr_layout, u_tr_spare, u_tr_refusedAt])), (h_di, .inr (6, [.ref h_di_widths, .ref h_di_heights, .ref h_di_samples, .int di_count])), (h_di_widths, .inl (c_di_widths, 16, .inl di_widths)), (h_di_heights, .inl (c_di_heights, 16, .inl di_heights)), (h_di_samples, .inl (c_di_samples, 16, .inr (.inl di_samples)))] sz) := by
  refine XMet.ofW (cc := b_Top_symbol) (maxL := 3) (ret := (some .int)) (by decide) rfl ?_
  intro p e s m args below meth c s₁ B hml hnt hv
  obtain ⟨e9, hv, hxw⟩ := hv
  have hv := And.intro e9 hv
  clear e9
  obtain ⟨rfl, hsz, hP, hK, hD0, hnw⟩ := hv
  have hx := B.exec
  have hb := B.bytes
  have hr := B.returns
  have hts := atoms_spec (ws := ws_Top_symbol) B.pre
  have hB : ∀ w ∈ BIG, w.before _ s = true := fun w h => hts w (List.mem_cons_of_mem _ h)
  have hown : s.vm.findClass R_Top = some m.cls := findClass_of_methodNamed B.named
  have hlocks := B.notSynchronized
  subst hsz
  have hD := hD0.self (sz := s.heap.size)
  refine W_Q (fun Q9 eQ => ?_)
  generalize hAe : va_A [(h_tr, .inr (0, [u_tr_kind, .ref h_di, u_tr_page, u_tr_toldBytes, u_tr_cameBytes, u_tr_teller, u_tr_reader, u_tr_layout, u_tr_spare, u_tr_refusedAt])), (h_di, .inr (6, [.ref h_di_widths, .ref h_di_heights, .ref h_di_samples, .int di_count])), (h_di_widths, .inl (c_di_widths, 16, .inl di_widths)), (h_di_heights, .inl (c_di_heights, 16, .inl di_heights)), (h_di_samples, .inl (c_di_samples, 16, .inr (.inl di_samples)))] s.heap.size = A at hD eQ
  have hA : ∀ q : Nat, s.heap.size ≤ q → A q := fun q h => by rw [← hAe]; exact Or.inr h
  have hS : va_S A s.heap s.heap [] := va_S.rf
  have hl := lv_entry ([.ref h_tr, .int p0, .int p1]) (n := 3) (Nat.le_of_ble_eq_true rfl)
  rw [lg_entry_eq]
  generalize (lg_sl ([.ref h_tr, .int p0, .int p1]) ++ List.replicate (3 - (lg_sl ([.ref h_tr, .int p0, .int p1])).length) Slot.unset).toArray = ls at hl ⊢
  have hl : lv_has ls 3 [(0, .ref h_tr), (1, .int p0), (2, .int p1)] := hl
  have h := hf
  unfold f_Top_symbol at h
  refine lv_iload_n hx hb d_Top_symbol_0 rfl (lv_at hl 1 rfl) ?_
  refine lv_iconst (v := 1) hx hb d_Top_symbol_1 (by decide) ?_
  refine lv_bipush (v := 8) hx hb d_Top_symbol_2 (by decide) ?_
  obtain ⟨o9, hc9, h⟩ := bd_e h
  have hPc := hP.sub (ws' := []) [] rfl
  have hKc := hK.sub (tys' := []) [] rfl
  refine vp_callSi (va_Run.run (va_runS (As := [.int p0, .int (1 : Int32), .int (8 : Int32)]) (rest := []) ⟨hx, hb, hml, hown, hB⟩ (c_Top_isWithin l dC dI p0 (1 : Int32) (8 : Int32) o9 hc9) (va_cwS 3 hB (goodA (m3 bw_600 bw_343 bw_1) (goodB bw_344)) rfl rfl rfl (by decide +kernel) ⟨Nat.le_of_ble_eq_true rfl, Nat.le_of_ble_eq_true rfl⟩) ⟨fb_p, (pre_p hPc hKc hnw [.int p0, .int (1 : Int32), .int (8 : Int32)])⟩ rfl rfl hl.1 rfl (lv_room (Nat.le_of_ble_eq_true rfl)) d_Top_symbol_4 ⟨Nat.zero_le _, Nat.zero_le _⟩)) (fun r_1 e_r_1 => ?_)
  subst e_r_1
  clear hPc hKc hc9
  obtain ⟨j20, e_j20, h⟩ := jn_e h
  have w_j20 : ∀ (ls : Array Slot), j20 () = some o → lv_has ls 3 [] → W p l e ({ frames := 6, cells := 1, slots := 6, locals := 110 } : Room) s m ([.ref h_tr, .int p0, .int p1] : List Value).toArray below meth c s.heap [] 0 0 Q9 (F0 m 20 ls []) := by
    intro ls h hl
    rw [e_j20] at h
    subst eQ
    refine th_new (names := ["java/lang/RuntimeException", "java/lang/Exception"]) hx hb hlt hown (by decide +kernel) (by decide +kernel) (hB _ bw_644) (hB _ bw_17) (x_str hxw bx_685) (x_own hB hxw ow_98) (hl.1.trans hml.symm) d_Top_symbol_20 d_Top_symbol_23 d_Top_symbol_24 d_Top_symbol_26 d_Top_symbol_29 (fun x hx9 => (hnt x hx9).elim) (Nat.le_of_ble_eq_true rfl) (Nat.le_of_ble_eq_true rfl) (Nat.le_of_ble_eq_true rfl) (Nat.le_of_ble_eq_true rfl) hlocks (fun U hU => x_out (cls := "java/lang/IllegalArgumentException") ?_ hU)
    exact Option.some.inj h
  refine lv_if_eq (tgt := 20) hx hb d_Top_symbol_7 (by decide) (fun c_1 => ?_) (fun c_1 => ?_)
  · have h := if_t h c_1
    exact w_j20 _ h (lv_sub hl [] rfl)
  · have h := if_f h c_1
    refine lv_iload_n hx hb d_Top_symbol_10 rfl (lv_at hl 2 rfl) ?_
    refine lv_iconst (v := 1) hx hb d_Top_symbol_11 (by decide) ?_
    refine lv_bipush (v := 8) hx hb d_Top_symbol_12 (by decide) ?_
    obtain ⟨o9, hc9, h⟩ := bd_e h
    have hPc := hP.sub (ws' := []) [] rfl
    have hKc := hK.sub (tys' := []) [] rfl
    refine vp_callSi (va_Run.run (va_runS (As := [.int p1, .int (1 : Int32), .int (8 : Int32)]) (rest := []) ⟨hx, hb, hml, hown, hB⟩ (c_Top_isWithin l dC dI p1 (1 : Int32) (8 : Int32) o9 hc9) (va_cwS 3 hB (goodA (m3 bw_600 bw_343 bw_1) (goodB bw_344)) rfl rfl rfl (by decide +kernel) ⟨Nat.le_of_ble_eq_true rfl, Nat.le_of_ble_eq_true rfl⟩) ⟨fb_p, (pre_p hPc hKc hnw [.int p1, .int (1 : Int32), .int (8 : Int32)])⟩ rfl rfl hl.1 rfl (lv_room (Nat.le_of_ble_eq_true rfl)) d_Top_symbol_14 ⟨Nat.zero_le _, Nat.zero_le _⟩)) (fun r_2 e_r_2 => ?_)
    subst e_r_2
    clear hPc hKc hc9
    refine lv_if_ne (tgt := 30) hx hb d_Top_symbol_17 (by decide) (fun c_2 => ?_) (fun c_2 => ?_)
    · have h := if_f h c_2
      refine lv_aload_n hx hb d_Top_symbol_30 rfl (lv_at hl 0 rfl) ?_
      refine va_get (D := (dC, dI)) (ci := 0) (v := .ref h_di) (C := R_Top) (T := T_Top) (N := 10) hx hb hB iw_Top hown hK hP 0 rfl rfl 1 (by decide) (hB _ bw_261) (fun _ h9 => h9) rfl d_Top_symbol_31 ?_
      refine va_getN (D := (dC, dI)) (ci := 6) (v := .int di_count) (C := R_Dictionary) (T := T_Dictionary) (N := 4) hx hb hB iw_Dictionary hown hK hP 1 rfl rfl 3 (by decide) (va_Nw.use rfl (hnw.1 _ bn_55)) (fun _ h9 => h9) rfl d_Top_symbol_34 ?_
      refine lv_bipush (v := 16) hx hb d_Top_symbol_37 (by decide) ?_
      refine lv_icmp_lt (tgt := 52) hx hb d_Top_symbol_39 (by decide) (fun c_3 => ?_) (fun c_3 => ?_)
      · have h := if_t h c_3
        refine lv_aload_n hx hb d_Top_symbol_52 rfl (lv_at hl 0 rfl) ?_
        refine va_get (D := (dC, dI)) (ci := 0) (v := .ref h_di) (C := R_Top) (T := T_Top) (N := 10) hx hb hB iw_Top hown hK hP 0 rfl rfl 1 (by decide) (hB _ bw_261) (fun _ h9 => h9) rfl d_Top_symbol_53 ?_
        refine lv_iload_n hx hb d_Top_symbol_56 rfl (lv_at hl 1 rfl) ?_
        refine lv_iload_n hx hb d_Top_symbol_57 rfl (lv_at hl 2 rfl) ?_
        obtain ⟨o9, hc9, h⟩ := bd_e h
        have hPc := hP.sub (ws' := [(h_di, .inr (6, [.ref h_di_widths, .ref h_di_heights, .ref h_di_samples, .int di_count])), (h_di_widths, .inl (c_di_widths, 16, .inl di_widths)), (h_di_heights, .inl (c_di_heights, 16, .inl di_heights)), (h_di_samples, .inl (c_di_samples, 16, .inr (.inl di_samples)))]) [1, 2, 3, 4] rfl
        have hKc := hK.sub (tys' := [(c_di_widths, .int), (c_di_heights, .int), (c_di_samples, .long)]) [0, 1, 2] rfl
        have hDc := hD.sub (ws' := [(h_di, .inr (6, [.ref h_di_widths, .ref h_di_heights, .ref h_di_samples, .int di_count])), (h_di_widths, .inl (c_di_widths, 16, .inl di_widths)), (h_di_heights, .inl (c_di_heights, 16, .inl di_heights)), (h_di_samples, .inl (c_di_samples, 16, .inr (.inl di_samples)))]) [1, 2, 3, 4] (by decide) rfl
        have hFc := va_free (wc := [(h_di, .inr (6, [.ref h_di_widths, .ref h_di_heights, .ref h_di_samples, .int di_count])), (h_di_widths, .inl (c_di_widths, 16, .inl di_widths)), (h_di_heights, .inl (c_di_heights, 16, .inl di_heights)), (h_di_samples, .inl (c_di_samples, 16, .inr (.inl di_samples)))]) hD hS hA [1, 2, 3, 4] rfl
        refine va_calli (va_runVN (As := [.int p0, .int p1]) (rest := []) ⟨hx, hb, hml, hown, hB⟩ (c_Dictionary_add l dC dI h_di h_di_widths h_di_heights h_di_samples c_di_widths c_di_heights c_di_samples di_count di_widths di_heights di_samples p0 p1 _ o9 hc9) ⟨va_cnB 2 hB (goodB bw_731) rfl rfl rfl (hnw.1 _ bn_728) (hB _ bw_3) (by decide +kernel) ⟨Nat.le_of_ble_eq_true rfl, Nat.le_of_ble_eq_true rfl⟩, hB _ bw_730, hB _ bs_49⟩ ⟨fb_m, va_recv hK hP (ci := 6) (q0 := 1) rfl rfl, (pre_m hPc hKc hDc hnw [.ref h_di, .int p0, .int p1])⟩ rfl rfl hl.1 rfl (lv_room (Nat.le_of_ble_eq_true rfl)) d_Top_symbol_58 ⟨Nat.zero_le _, Nat.zero_le _⟩) hS (fun q _ h => hFc q h) hFc (fun r_3 u9 t H1 locs ht hvm hw hB hz1 hk1 hS => ?_)
        obtain ⟨di_count_4, di_widths_5, di_heights_6, di_samples_7⟩ := u9
        subst hw
        obtain ⟨hP1, hK1, hD1⟩ := hB
        rw [ht] at hP1
        obtain ⟨hP, hD⟩ := va_join (wr := [(h_tr, .inr (0, [u_tr_kind, .ref h_di, u_tr_page, u_tr_toldBytes, u_tr_cameBytes, u_tr_teller, u_tr_reader, u_tr_layout, u_tr_spare, u_tr_refusedAt]))]) (w1 := [(h_di, .inr (6, [.ref h_di_widths, .ref h_di_heights, .ref h_di_samples, .int di_count_4])), (h_di_widths, .inl (c_di_widths, 16, .inl di_widths_5)), (h_di_heights, .inl (c_di_heights, 16, .inl di_heights_6)), (h_di_samples, .inl (c_di_samples, 16, .inr (.inl di_samples_7)))]) hP hD [1, 2, 3, 4] [0] rfl rfl (by decide) (by decide) hk1 hFc hP1 hD1
        have hP := hP.sub (ws' := [(h_tr, .inr (0, [u_tr_kind, .ref h_di, u_tr_page, u_tr_toldBytes, u_tr_cameBytes, u_tr_teller, u_tr_reader, u_tr_layout, u_tr_spare, u_tr_refusedAt])), (h_di, .inr (6, [.ref h_di_widths, .ref h_di_heights, .ref h_di_samples, .int di_count_4])), (h_di_widths, .inl (c_di_widths, 16, .inl di_widths_5)), (h_di_heights, .inl (c_di_heights, 16, .inl di_heights_6)), (h_di_samples, .inl (c_di_samples, 16, .inr (.inl di_samples_7)))]) [0, 1, 2, 3, 4] rfl
        have hD := hD.sub (ws' := [(h_tr, .inr (0, [u_tr_kind, .ref h_di, u_tr_page, u_tr_toldBytes, u_tr_cameBytes, u_tr_teller, u_tr_reader, u_tr_layout, u_tr_spare, u_tr_refusedAt])), (h_di, .inr (6, [.ref h_di_widths, .ref h_di_heights, .ref h_di_samples, .int di_count_4])), (h_di_widths, .inl (c_di_widths, 16, .inl di_widths_5)), (h_di_heights, .inl (c_di_heights, 16, .inl di_heights_6)), (h_di_samples, .inl (c_di_samples, 16, .inr (.inl di_samples_7)))]) [0, 1, 2, 3, 4] (by decide) rfl
        clear hPc hKc hDc hFc hc9 hP1 hK1 hD1 hk1 hz1 hvm ht
        generalize H1 = H at hP hS ⊢
        try dsimp only at h
        subst eQ
        refine x_ret ?_
        refine W.widen (k := 1) (n := 6) (by omega) (by omega) ?_
        exact W.iret (v := r_3) hx hb hr (fun t ht hW => ⟨⟨_, (di_count_4, di_widths_5, di_heights_6, di_samples_7), rfl, Option.some.inj h, by rw [ht]; exact hP, va_K.moved hW.alike hK, hD⟩, hS.F ht⟩) hS.2.2 d_Top_symbol_61
      · have h := if_f h c_3
        subst eQ
        refine th_new (names := ["java/lang/RuntimeException", "java/lang/Exception"]) hx hb hlt hown (by decide +kernel) (by decide +kernel) (hB _ bw_712) (hB _ bw_18) (x_str hxw bx_721) (x_own hB hxw ow_108) (hl.1.trans hml.symm) d_Top_symbol_42 d_Top_symbol_45 d_Top_symbol_46 d_Top_symbol_48 d_Top_symbol_51 (fun x hx9 => (hnt x hx9).elim) (Nat.le_of_ble_eq_true rfl) (Nat.le_of_ble_eq_true rfl) (Nat.le_of_ble_eq_true rfl) (Nat.le_of_ble_eq_true rfl) hlocks (fun U hU => x_out (cls := "java/lang/UnsupportedOperationException") ?_ hU)
        exact Option.some.inj h
    · have h := if_t h c_2
      exact w_j20 _ h (lv_sub hl [] rfl)
set_option maxHeartbeats 4000000 in
set_option maxRecDepth 100000 in
theorem c_Top_put (l : Launch) (dC : Nat → ClassId) (dI : Nat → Nat → Nat) (h_tr : Nat) (h_di : Nat) (h_di_widths : Nat) (h_di_heights : Nat) (h_di_samples : Nat) (c_di_widths : ClassId) (c_di_heights : ClassId) (c_di_samples : ClassId) (u_tr_kind : Value) (u_tr_page : Value) (u_tr_toldBytes : Value) (u_tr_cameBytes : Value) (u_tr_teller : Value) (u_tr_reader : Value) (u_tr_layout : Value) (u_tr_spare : Value) (u_tr_refusedAt : Value) (di_count : Int32) (di_widths : (Nat → Int32)) (di_heights : (Nat → Int32)) (di_samples : (Nat → Int64)) (p0 : Int32) (p1 : Int32) (p2 : Int32) (p3 : Int32) (sz : Nat) (hlt : l.stackTraces = false) (o : String ⊕ (Int32 × (Nat → Int64))) (hf : f_Top_put di_count di_widths di_heights di_samples p0 p1 p2 p3 = some o) :
    XMet l y_Top_put ws_Top_put { frames := 6, cells := 1, slots := 6, locals := 110 } (va_Pc [.ref h_tr, .int p0, .int p1, .int p2, .int p3] (fun U => (PcM (dC, dI) [(h_tr, .inr (0, [u_tr_kind, .ref h_di, u_tr_page, u_tr_toldBytes, u_tr_cameBytes, u_tr_teller, u_tr_reader, u_tr_layout, u_tr_spare, u_tr_refusedAt])), (h_di, .inr (6, [.ref h_di_widths, .ref h_di_heights, .ref h_di_samples, .int di_count])), (h_di_widths, .inl (c_di_widths, 16, .inl di_widths)), (h_di_heights, .inl (c_di_heights, 16, .inl di_heights)), (h_di_samples, .inl (c_di_samples, 16, .inr (.inl di_samples)))] [(c_di_widths, .int), (c_di_heights, .int), (c_di_samples, .long)] sz) U ∧ xw U))
      (va_Qi (fun (r : Int32) (u : (Nat → Int64)) => (.inr (r, u) : String ⊕ (Int32 × (Nat → Int64))) = o) (fun u t => va_P (dC, dI) CL [(h_tr, .inr (0, [u_tr_kind, .ref h_di, u_tr_page, u_tr_toldBytes, u_tr_cameBytes, u_tr_teller, u_tr_reader, u_tr_layout, u_tr_spare, u_tr_refusedAt])), (h_di, .inr (6, [.ref h_di_widths, .ref h_di_heights, .ref h_di_samples, .int di_count])), (h_di_widths, .inl (c_di_widths, 16, .inl di_widths)), (h_di_heights, .inl (c_di_heights, 16, .inl di_heights)), (h_di_samples, .inl (c_di_samples, 16, .inr (.inl u)))] t.heap ∧ va_K (dC, dI) CL [(c_di_widths, .int), (c_di_heights, .int), (c_di_samples, .long)] t ∧ va_D (va_A [(h_tr, .inr (0, [u_tr_kind, .ref h_di, u_tr_page, u_tr_toldBytes, u_tr_cameBytes, u_tr_teller, u_tr_reader, u_tr_layout, u_tr_spare, u_tr_refusedAt])), (h_di, .inr (6, [.ref h_di_widths, .ref h_di_heights, .ref h_di_samples, .int di_count])), (h_di_widths, .inl (c_di_widths, 16, .inl di_widths)), (h_di_heights, .inl (c_di_heights, 16, .inl di_heights)), (h_di_samples, .inl (c_di_samples, 16, .inr (.inl di_samples)))] sz) [(h_tr, .inr (0, [u_tr_kind, .ref h_di, u_tr_page, u_tr_toldBytes, u_tr_cameBytes, u_tr_teller, u_tr_reader, u_tr_layout, u_tr_spare, u_tr_refusedAt])), (h_di, .inr (6, [.ref h_di_widths, .ref h_di_heights, .ref h_di_samples, .int di_count])), (h_di_widths, .inl (c_di_widths, 16, .inl di_widths)), (h_di_heights, .inl (c_di_heights, 16, .inl di_heights)), (h_di_samples, .inl (c_di_samples, 16, .inr (.inl u)))]) (va_A [(h_tr, .inr (0, [u_tr_kind, .ref h_di, u_tr_page, u_tr_toldBytes, u_tr_cameBytes, u_tr_teller, u_tr_reader, u_tr_layout, u_tr_spare, u_tr_refusedAt])), (h_di, .inr (6, [.ref h_di_widths, .ref h_di_heights, .ref h_di_samples, .int di_count])), (h_di_widths, .inl (c_di_widths, 16, .inl di_widths)), (h_di_heights, .inl (c_di_heights, 16, .inl di_heights)), (h_di_samples, .inl (c_di_samples, 16, .inr (.inl di_samples)))] sz)) (fun cls => (.inl cls : String ⊕ (Int32 × (Nat → Int64))) = o) 1 6 (va_A [(h_tr, .inr (0, [u_tr_kind, .ref h_di, u_tr_page, u_tr_toldBytes, u_tr_cameBytes, u_tr_teller, u_tr_reader, u_tr_layout, u_tr_spare, u_tr_refusedAt])), (h_di, .inr (6, [.ref h_di_widths, .ref h_di_heights, .ref h_di_samples, .int di_count])), (h_di_widths, .inl (c_di_widths, 16, .inl di_widths)), (h_di_heights, .inl (c_di_heights, 16, .inl di_heights)), (h_di_samples, .inl (c_di_samples, 16, .inr (.inl di_samples)))] sz) := by
  refine XMet.ofW (cc := b_Top_put) (maxL := 7) (ret := (some .boolean)) (by decide) rfl ?_
  intro p e s m args below meth c s₁ B hml hnt hv
  obtain ⟨e9, hv, hxw⟩ := hv
  have hv := And.intro e9 hv
  clear e9
  obtain ⟨rfl, hsz, hP, hK, hD0, hnw⟩ := hv
  have hx := B.exec
  have hb := B.bytes
  have hr := B.returns
  have hts := atoms_spec (ws := ws_Top_put) B.pre
  have hB : ∀ w ∈ BIG, w.before _ s = true := fun w h => hts w (List.mem_cons_of_mem _ h)
  have hown : s.vm.findClass R_Top = some m.cls := findClass_of_methodNamed B.named
  have hlocks := B.notSynchronized
  subst hsz
  have hD := hD0.self (sz := s.heap.size)
  refine W_Q (fun Q9 eQ => ?_)
  generalize hAe : va_A [(h_tr, .inr (0, [u_tr_kind, .ref h_di, u_tr_page, u_tr_toldBytes, u_tr_cameBytes, u_tr_teller, u_tr_reader, u_tr_layout, u_tr_spare, u_tr_refusedAt])), (h_di, .inr (6, [.ref h_di_widths, .ref h_di_heights, .ref h_di_samples, .int di_count])), (h_di_widths, .inl (c_di_widths, 16, .inl di_widths)), (h_di_heights, .inl (c_di_heights, 16, .inl di_heights)), (h_di_samples, .inl (c_di_samples, 16, .inr (.inl di_samples)))] s.heap.size = A at hD eQ
  have hA : ∀ q : Nat, s.heap.size ≤ q → A q := fun q h => by rw [← hAe]; exact Or.inr h
  have hS : va_S A s.heap s.heap [] := va_S.rf
  have hl := lv_entry ([.ref h_tr, .int p0, .int p1, .int p2, .int p3]) (n := 7) (Nat.le_of_ble_eq_true rfl)
  rw [lg_entry_eq]
  generalize (lg_sl ([.ref h_tr, .int p0, .int p1, .int p2, .int p3]) ++ List.replicate (7 - (lg_sl ([.ref h_tr, .int p0, .int p1, .int p2, .int p3])).length) Slot.unset).toArray = ls at hl ⊢
  have hl : lv_has ls 7 [(0, .ref h_tr), (1, .int p0), (2, .int p1), (3, .int p2), (4, .int p3)] := hl
  have h := hf
  unfold f_Top_put at h
  refine lv_aload_n hx hb d_Top_put_0 rfl (lv_at hl 0 rfl) ?_
  refine va_get (D := (dC, dI)) (ci := 0) (v := .ref h_di) (C := R_Top) (T := T_Top) (N := 10) hx hb hB iw_Top hown hK hP 0 rfl rfl 1 (by decide) (hB _ bw_261) (fun _ h9 => h9) rfl d_Top_put_1 ?_
  refine lv_iload_n hx hb d_Top_put_4 rfl (lv_at hl 1 rfl) ?_
  obtain ⟨o9, hc9, h⟩ := bd_e h
  have hPc := hP.sub (ws' := [(h_di, .inr (6, [.ref h_di_widths, .ref h_di_heights, .ref h_di_samples, .int di_count]))]) [1] rfl
  have hKc := hK.sub (tys' := []) [] rfl
  refine vp_callSi (va_Run.run (va_runVN (As := [.int p0]) (rest := []) ⟨hx, hb, hml, hown, hB⟩ (c_Dictionary_has l dC dI h_di (.ref h_di_widths) (.ref h_di_heights) (.ref h_di_samples) di_count p0 o9 hc9) ⟨va_cnB 1 hB (goodB bw_743) rfl rfl rfl (hnw.1 _ bn_740) (hB _ bw_3) (by decide +kernel) ⟨Nat.le_of_ble_eq_true rfl, Nat.le_of_ble_eq_true rfl⟩, hB _ bw_742, hB _ bs_50⟩ ⟨fb_p, va_recv hK hP (ci := 6) (q0 := 1) rfl rfl, (pre_p hPc hKc hnw [.ref h_di, .int p0])⟩ rfl rfl hl.1 rfl (lv_room (Nat.le_of_ble_eq_true rfl)) d_Top_put_5 ⟨Nat.zero_le _, Nat.zero_le _⟩)) (fun r_1 e_r_1 => ?_)
  subst e_r_1
  clear hPc hKc hc9
  obtain ⟨j24, e_j24, h⟩ := jn_e h
  have w_j24 : ∀ (ls : Array Slot), j24 () = some o → lv_has ls 7 [] → W p l e ({ frames := 6, cells := 1, slots := 6, locals := 110 } : Room) s m ([.ref h_tr, .int p0, .int p1, .int p2, .int p3] : List Value).toArray below meth c s.heap [] 0 0 Q9 (F0 m 24 ls []) := by
    intro ls h hl
    rw [e_j24] at h
    subst eQ
    refine th_new (names := ["java/lang/RuntimeException", "java/lang/Exception"]) hx hb hlt hown (by decide +kernel) (by decide +kernel) (hB _ bw_749) (hB _ bw_19) (x_str hxw bx_758) (x_own hB hxw ow_124) (hl.1.trans hml.symm) d_Top_put_24 d_Top_put_27 d_Top_put_28 d_Top_put_30 d_Top_put_33 (fun x hx9 => (hnt x hx9).elim) (Nat.le_of_ble_eq_true rfl) (Nat.le_of_ble_eq_true rfl) (Nat.le_of_ble_eq_true rfl) (Nat.le_of_ble_eq_true rfl) hlocks (fun U hU => x_out (cls := "java/lang/IndexOutOfBoundsException") ?_ hU)
    exact Option.some.inj h
  refine lv_if_eq (tgt := 24) hx hb d_Top_put_8 (by decide) (fun c_1 => ?_) (fun c_1 => ?_)
  · have h := if_t h c_1
    exact w_j24 _ h (lv_sub hl [] rfl)
  · have h := if_f h c_1
    refine lv_aload_n hx hb d_Top_put_11 rfl (lv_at hl 0 rfl) ?_
    refine va_get (D := (dC, dI)) (ci := 0) (v := .ref h_di) (C := R_Top) (T := T_Top) (N := 10) hx hb hB iw_Top hown hK hP 0 rfl rfl 1 (by decide) (hB _ bw_261) (fun _ h9 => h9) rfl d_Top_put_12 ?_
    refine lv_iload_n hx hb d_Top_put_15 rfl (lv_at hl 1 rfl) ?_
    refine lv_iload_n hx hb d_Top_put_16 rfl (lv_at hl 2 rfl) ?_
    refine lv_iload_n hx hb d_Top_put_17 rfl (lv_at hl 3 rfl) ?_
    obtain ⟨o9, hc9, h⟩ := bd_e h
    have hPc := hP.sub (ws' := [(h_di, .inr (6, [.ref h_di_widths, .ref h_di_heights, .ref h_di_samples, .int di_count])), (h_di_widths, .inl (c_di_widths, 16, .inl di_widths)), (h_di_heights, .inl (c_di_heights, 16, .inl di_heights))]) [1, 2, 3] rfl
    have hKc := hK.sub (tys' := [(c_di_widths, .int), (c_di_heights, .int)]) [0, 1] rfl
    refine vp_callSi (va_Run.run (va_runVN (As := [.int p0, .int p1, .int p2]) (rest := []) ⟨hx, hb, hml, hown, hB⟩ (c_Dictionary_hasSample l dC dI h_di h_di_widths h_di_heights c_di_widths c_di_heights (.ref h_di_samples) (.int di_count) di_widths di_heights p0 p1 p2 o9 hc9) ⟨va_cnB 3 hB (goodB bw_748) rfl rfl rfl (hnw.1 _ bn_745) (hB _ bw_3) (by decide +kernel) ⟨Nat.le_of_ble_eq_true rfl, Nat.le_of_ble_eq_true rfl⟩, hB _ bw_747, hB _ bs_51⟩ ⟨fb_p, va_recv hK hP (ci := 6) (q0 := 1) rfl rfl, (pre_p hPc hKc hnw [.ref h_di, .int p0, .int p1, .int p2])⟩ rfl rfl hl.1 rfl (lv_room (Nat.le_of_ble_eq_true rfl)) d_Top_put_18 ⟨Nat.zero_le _, Nat.zero_le _⟩)) (fun r_2 e_r_2 => ?_)
    subst e_r_2
    clear hPc hKc hc9
    refine lv_if_ne (tgt := 34) hx hb d_Top_put_21 (by decide) (fun c_2 => ?_) (fun c_2 => ?_)
    · have h := if_f h c_2
      refine lv_aload_n hx hb d_Top_put_34 rfl (lv_at hl 0 rfl) ?_
      refine va_get (D := (dC, dI)) (ci := 0) (v := .ref h_di) (C := R_Top) (T := T_Top) (N := 10) hx hb hB iw_Top hown hK hP 0 rfl rfl 1 (by decide) (hB _ bw_261) (fun _ h9 => h9) rfl d_Top_put_35 ?_
      refine va_getN (D := (dC, dI)) (ci := 6) (v := .ref h_di_samples) (C := R_Dictionary) (T := T_Dictionary) (N := 4) hx hb hB iw_Dictionary hown hK hP 1 rfl rfl 2 (by decide) (va_Nw.use rfl (hnw.1 _ bn_51)) (fun _ h9 => h9) rfl d_Top_put_38 ?_
      refine lv_iload_n hx hb d_Top_put_41 rfl (lv_at hl 1 rfl) ?_
      obtain ⟨hin, h⟩ := gq_e h
      refine va_lald hx hb hK hP 4 2 rfl rfl hin d_Top_put_42 ?_
      refine lv_topl (fun v5_3 e_v5_3 => ?_)
      have h := nl_u e_v5_3 h
      refine lv_lstore (lv' := [(5, .long v5_3), (0, .ref h_tr), (1, .int p0), (2, .int p1), (3, .int p2), (4, .int p3)]) hx hb d_Top_put_43 hl (by decide) rfl (fun ls hl => ?_)
      refine lv_aload_n hx hb d_Top_put_45 rfl (lv_at hl 1 rfl) ?_
      refine va_get (D := (dC, dI)) (ci := 0) (v := .ref h_di) (C := R_Top) (T := T_Top) (N := 10) hx hb hB iw_Top hown hK hP 0 rfl rfl 1 (by decide) (hB _ bw_261) (fun _ h9 => h9) rfl d_Top_put_46 ?_
      refine va_getN (D := (dC, dI)) (ci := 6) (v := .ref h_di_samples) (C := R_Dictionary) (T := T_Dictionary) (N := 4) hx hb hB iw_Dictionary hown hK hP 1 rfl rfl 2 (by decide) (va_Nw.use rfl (hnw.1 _ bn_51)) (fun _ h9 => h9) rfl d_Top_put_49 ?_
      refine lv_iload_n hx hb d_Top_put_52 rfl (lv_at hl 2 rfl) ?_
      refine lv_lload hx hb d_Top_put_53 (lv_at hl 0 rfl) ?_
      refine lv_aload_n hx hb d_Top_put_55 rfl (lv_at hl 1 rfl) ?_
      refine va_get (D := (dC, dI)) (ci := 0) (v := .ref h_di) (C := R_Top) (T := T_Top) (N := 10) hx hb hB iw_Top hown hK hP 0 rfl rfl 1 (by decide) (hB _ bw_261) (fun _ h9 => h9) rfl d_Top_put_56 ?_
      refine lv_iload_n hx hb d_Top_put_59 rfl (lv_at hl 2 rfl) ?_
      refine lv_iload_n hx hb d_Top_put_60 rfl (lv_at hl 3 rfl) ?_
      refine lv_iload_n hx hb d_Top_put_61 rfl (lv_at hl 4 rfl) ?_
      obtain ⟨o9, hc9, h⟩ := bd_e h
      have hPc := hP.sub (ws' := [(h_di, .inr (6, [.ref h_di_widths, .ref h_di_heights, .ref h_di_samples, .int di_count])), (h_di_widths, .inl (c_di_widths, 16, .inl di_widths))]) [1, 2] rfl
      have hKc := hK.sub (tys' := [(c_di_widths, .int)]) [0] rfl
      refine vp_callSi (va_Run.run (va_runVN (As := [.int p0, .int p1, .int p2]) (rest := [.long v5_3, .int p0, .ref h_di_samples]) ⟨hx, hb, hml, hown, hB⟩ (c_Dictionary_sampleNumber l dC dI h_di h_di_widths c_di_widths (.ref h_di_heights) (.ref h_di_samples) (.int di_count) di_widths p0 p1 p2 o9 hc9) ⟨va_cnB 3 hB (goodB bw_330) rfl rfl rfl (hnw.1 _ bn_765) (hB _ bw_3) (by decide +kernel) ⟨Nat.le_of_ble_eq_true rfl, Nat.le_of_ble_eq_true rfl⟩, hB _ bw_329, hB _ bs_8⟩ ⟨fb_p, va_recv hK hP (ci := 6) (q0 := 1) rfl rfl, (pre_p hPc hKc hnw [.ref h_di, .int p0, .int p1, .int p2])⟩ rfl rfl hl.1 rfl (lv_room (Nat.le_of_ble_eq_true rfl)) d_Top_put_62 ⟨Nat.zero_le _, Nat.zero_le _⟩)) (fun r_4 e_r_4 => ?_)
      subst e_r_4
      clear hPc hKc hc9
      refine lv_iload hx hb d_Top_put_65 (lv_at hl 5 rfl) ?_
      obtain ⟨o9, hc9, h⟩ := bd_e h
      have hPc := hP.sub (ws' := []) [] rfl
      have hKc := hK.sub (tys' := []) [] rfl
      refine vp_callSl (va_Run.run (va_runS (As := [.long v5_3, .int r_4, .int p3]) (rest := [.int p0, .ref h_di_samples]) ⟨hx, hb, hml, hown, hB⟩ (c_Top_withBit l dC dI v5_3 r_4 p3 o9 hc9) (va_cwS 3 hB (goodA (m3 bw_766 bw_612 bw_1) (goodB bw_613)) rfl rfl rfl (by decide +kernel) ⟨Nat.le_of_ble_eq_true rfl, Nat.le_of_ble_eq_true rfl⟩) ⟨fb_p, (pre_p hPc hKc hnw [.long v5_3, .int r_4, .int p3])⟩ rfl rfl hl.1 rfl (lv_room (Nat.le_of_ble_eq_true rfl)) d_Top_put_67 ⟨Nat.zero_le _, Nat.zero_le _⟩)) (fun r_5 e_r_5 => ?_)
      subst e_r_5
      clear hPc hKc hc9
      obtain ⟨hin, h⟩ := gq_e h
      refine va_last hx hb hK hP hD hS 4 2 rfl rfl hin d_Top_put_70 (fun H locs hP hD hS => ?_)
      have hP : va_P (dC, dI) CL [(h_tr, .inr (0, [u_tr_kind, .ref h_di, u_tr_page, u_tr_toldBytes, u_tr_cameBytes, u_tr_teller, u_tr_reader, u_tr_layout, u_tr_spare, u_tr_refusedAt])), (h_di, .inr (6, [.ref h_di_widths, .ref h_di_heights, .ref h_di_samples, .int di_count])), (h_di_widths, .inl (c_di_widths, 16, .inl di_widths)), (h_di_heights, .inl (c_di_heights, 16, .inl di_heights)), (h_di_samples, .inl (c_di_samples, 16, .inr (.inl (vp_updL di_samples (p0).toNatClampNeg r_5))))] H := hP
      have hD : va_D A [(h_tr, .inr (0, [u_tr_kind, .ref h_di, u_tr_page, u_tr_toldBytes, u_tr_cameBytes, u_tr_teller, u_tr_reader, u_tr_layout, u_tr_spare, u_tr_refusedAt])), (h_di, .inr (6, [.ref h_di_widths, .ref h_di_heights, .ref h_di_samples, .int di_count])), (h_di_widths, .inl (c_di_widths, 16, .inl di_widths)), (h_di_heights, .inl (c_di_heights, 16, .inl di_heights)), (h_di_samples, .inl (c_di_samples, 16, .inr (.inl (vp_updL di_samples (p0).toNatClampNeg r_5))))] := hD
      refine lv_aload_n hx hb d_Top_put_71 rfl (lv_at hl 1 rfl) ?_
      refine va_get (D := (dC, dI)) (ci := 0) (v := .ref h_di) (C := R_Top) (T := T_Top) (N := 10) hx hb hB iw_Top hown hK hP 0 rfl rfl 1 (by decide) (hB _ bw_261) (fun _ h9 => h9) rfl d_Top_put_72 ?_
      refine va_getN (D := (dC, dI)) (ci := 6) (v := .ref h_di_samples) (C := R_Dictionary) (T := T_Dictionary) (N := 4) hx hb hB iw_Dictionary hown hK hP 1 rfl rfl 2 (by decide) (va_Nw.use rfl (hnw.1 _ bn_51)) (fun _ h9 => h9) rfl d_Top_put_75 ?_
      refine lv_iload_n hx hb d_Top_put_78 rfl (lv_at hl 2 rfl) ?_
      obtain ⟨hin, h⟩ := gq_e h
      refine va_lald hx hb hK hP 4 2 rfl rfl hin d_Top_put_79 ?_
      refine lv_lload hx hb d_Top_put_80 (lv_at hl 0 rfl) ?_
      refine W.lcmp hx hb d_Top_put_82 ?_
      refine lv_if_eq (tgt := 90) hx hb d_Top_put_83 (by decide) (fun c_3 => ?_) (fun c_3 => ?_)
      · have h := if_t h c_3
        refine lv_iconst (v := 0) hx hb d_Top_put_90 (by decide) ?_
        subst eQ
        refine x_ret ?_
        refine W.widen (k := 1) (n := 6) (by omega) (by omega) ?_
        exact W.zret (v := (0 : Int32)) hx hb hr rfl (fun t ht hW => ⟨⟨_, (vp_updL di_samples (p0).toNatClampNeg r_5), rfl, Option.some.inj h, by rw [ht]; exact hP, va_K.moved hW.alike hK, hD⟩, hS.F ht⟩) hS.2.2 d_Top_put_91
      · have h := if_f h c_3
        refine lv_iconst (v := 1) hx hb d_Top_put_86 (by decide) ?_
        refine lv_goto (tgt := 91) hx hb d_Top_put_87 (by decide) ?_
        subst eQ
        refine x_ret ?_
        refine W.widen (k := 1) (n := 6) (by omega) (by omega) ?_
        exact W.zret (v := (1 : Int32)) hx hb hr rfl (fun t ht hW => ⟨⟨_, (vp_updL di_samples (p0).toNatClampNeg r_5), rfl, Option.some.inj h, by rw [ht]; exact hP, va_K.moved hW.alike hK, hD⟩, hS.F ht⟩) hS.2.2 d_Top_put_91
    · have h := if_t h c_2
      exact w_j24 _ h (lv_sub hl [] rfl)
set_option maxHeartbeats 4000000 in
set_option maxRecDepth 100000 in
theorem c_Top_instance (l : Launch) (dC : Nat → ClassId) (dI : Nat → Nat → Nat) (h_tr : Nat) (h_di : Nat) (h_la : Nat) (h_la_symbolOf : Nat) (h_la_xs : Nat) (h_la_ys : Nat) (h_la_differs : Nat) (c_la_symbolOf : ClassId) (c_la_xs : ClassId) (c_la_ys : ClassId) (c_la_differs : ClassId) (u_tr_kind : Value) (u_tr_page : Value) (u_tr_toldBytes : Value) (u_tr_cameBytes : Value) (u_tr_teller : Value) (u_tr_reader : Value) (u_tr_spare : Value) (u_tr_refusedAt : Value) (u_di_widths : Value) (u_di_heights : Value) (u_di_samples : Value) (u_la_symbols : Value) (u_la_ways : Value) (u_la_sequence : Value) (di_count : Int32) (la_count : Int32) (la_symbolOf : (Nat → Int32)) (la_xs : (Nat → Int32)) (la_ys : (Nat → Int32)) (la_differs : (Nat → Int64)) (p0 : Int32) (p1 : Int32) (p2 : Int32) (sz : Nat) (hlt : l.stackTraces = false) (o : String ⊕ (Int32 × Int32 × (Nat → Int32) × (Nat → Int32) × (Nat → Int32) × (Nat → Int64))) (hf : f_Top_instance di_count la_count la_symbolOf la_xs la_ys la_differs p0 p1 p2 = some o) :
    XMet l y_Top_instance ws_Top_instance { frames := 6, cells := 1, slots := 6, locals := 110 } (va_Pc [.ref h_tr, .int p0, .int p1, .int p2] (fun U => (PcM (dC, dI) [(h_tr, .inr (0, [u_tr_kind, .ref h_di, u_tr_page, u_tr_toldBytes, u_tr_cameBytes, u_tr_teller, u_tr_reader, .ref h_la, u_tr_spare, u_tr_refusedAt])), (h_di, .inr (6, [u_di_widths, u_di_heights, u_di_samples, .int di_count])), (h_la, .inr (8, [u_la_symbols, u_la_ways, .ref h_la_symbolOf, .ref h_la_xs, .ref h_la_ys, .ref h_la_differs, u_la_sequence, .int la_count])), (h_la_symbolOf, .inl (c_la_symbolOf, 40, .inl la_symbolOf)), (h_la_xs, .inl (c_la_xs, 40, .inl la_xs)), (h_la_ys, .inl (c_la_ys, 40, .inl la_ys)), (h_la_differs, .inl (c_la_differs, 40, .inr (.inl la_differs)))] [(c_la_symbolOf, .int), (c_la_xs, .int), (c_la_ys, .int), (c_la_differs, .long)] sz) U ∧ xw U))
      (va_Qi (fun (r : Int32) (u : Int32 × (Nat → Int32) × (Nat → Int32) × (Nat → Int32) × (Nat → Int64)) => (.inr (r, u) : String ⊕ (Int32 × Int32 × (Nat → Int32) × (Nat → Int32) × (Nat → Int32) × (Nat → Int64))) = o) (fun u t => va_P (dC, dI) CL [(h_tr, .inr (0, [u_tr_kind, .ref h_di, u_tr_page, u_tr_toldBytes, u_tr_cameBytes, u_tr_teller, u_tr_reader, .ref h_la, u_tr_spare, u_tr_refusedAt])), (h_di, .inr (6, [u_di_widths, u_di_heights, u_di_samples, .int di_count])), (h_la, .inr (8, [u_la_symbols, u_la_ways, .ref h_la_symbolOf, .ref h_la_xs, .ref h_la_ys, .ref h_la_differs, u_la_sequence, .int (u.1)])), (h_la_symbolOf, .inl (c_la_symbolOf, 40, .inl (u.2.1))), (h_la_xs, .inl (c_la_xs, 40, .inl (u.2.2.1))), (h_la_ys, .inl (c_la_ys, 40, .inl (u.2.2.2.1))), (h_la_differs, .inl (c_la_differs, 40, .inr (.inl (u.2.2.2.2))))] t.heap ∧ va_K (dC, dI) CL [(c_la_symbolOf, .int), (c_la_xs, .int), (c_la_ys, .int), (c_la_differs, .long)] t ∧ va_D (va_A [(h_tr, .inr (0, [u_tr_kind, .ref h_di, u_tr_page, u_tr_toldBytes, u_tr_cameBytes, u_tr_teller, u_tr_reader, .ref h_la, u_tr_spare, u_tr_refusedAt])), (h_di, .inr (6, [u_di_widths, u_di_heights, u_di_samples, .int di_count])), (h_la, .inr (8, [u_la_symbols, u_la_ways, .ref h_la_symbolOf, .ref h_la_xs, .ref h_la_ys, .ref h_la_differs, u_la_sequence, .int la_count])), (h_la_symbolOf, .inl (c_la_symbolOf, 40, .inl la_symbolOf)), (h_la_xs, .inl (c_la_xs, 40, .inl la_xs)), (h_la_ys, .inl (c_la_ys, 40, .inl la_ys)), (h_la_differs, .inl (c_la_differs, 40, .inr (.inl la_differs)))] sz) [(h_tr, .inr (0, [u_tr_kind, .ref h_di, u_tr_page, u_tr_toldBytes, u_tr_cameBytes, u_tr_teller, u_tr_reader, .ref h_la, u_tr_spare, u_tr_refusedAt])), (h_di, .inr (6, [u_di_widths, u_di_heights, u_di_samples, .int di_count])), (h_la, .inr (8, [u_la_symbols, u_la_ways, .ref h_la_symbolOf, .ref h_la_xs, .ref h_la_ys, .ref h_la_differs, u_la_sequence, .int (u.1)])), (h_la_symbolOf, .inl (c_la_symbolOf, 40, .inl (u.2.1))), (h_la_xs, .inl (c_la_xs, 40, .inl (u.2.2.1))), (h_la_ys, .inl (c_la_ys, 40, .inl (u.2.2.2.1))), (h_la_differs, .inl (c_la_differs, 40, .inr (.inl (u.2.2.2.2))))]) (va_A [(h_tr, .inr (0, [u_tr_kind, .ref h_di, u_tr_page, u_tr_toldBytes, u_tr_cameBytes, u_tr_teller, u_tr_reader, .ref h_la, u_tr_spare, u_tr_refusedAt])), (h_di, .inr (6, [u_di_widths, u_di_heights, u_di_samples, .int di_count])), (h_la, .inr (8, [u_la_symbols, u_la_ways, .ref h_la_symbolOf, .ref h_la_xs, .ref h_la_ys, .ref h_la_differs, u_la_sequence, .int la_count])), (h_la_symbolOf, .inl (c_la_symbolOf, 40, .inl la_symbolOf)), (h_la_xs, .inl (c_la_xs, 40, .inl la_xs)), (h_la_ys, .inl (c_la_ys, 40, .inl la_ys)), (h_la_differs, .inl (c_la_differs, 40, .inr (.inl la_differs)))] sz)) (fun cls => (.inl cls : String ⊕ (Int32 × Int32 × (Nat → Int32) × (Nat → Int32) × (Nat → Int32) × (Nat → Int64))) = o) 1 6 (va_A [(h_tr, .inr (0, [u_tr_kind, .ref h_di, u_tr_page, u_tr_toldBytes, u_tr_cameBytes, u_tr_teller, u_tr_reader, .ref h_la, u_tr_spare, u_tr_refusedAt])), (h_di, .inr (6, [u_di_widths, u_di_heights, u_di_samples, .int di_count])), (h_la, .inr (8, [u_la_symbols, u_la_ways, .ref h_la_symbolOf, .ref h_la_xs, .ref h_la_ys, .ref h_la_differs, u_la_sequence, .int la_count])), (h_la_symbolOf, .inl (c_la_symbolOf, 40, .inl la_symbolOf)), (h_la_xs, .inl (c_la_xs, 40, .inl la_xs)), (h_la_ys, .inl (c_la_ys, 40, .inl la_ys)), (h_la_differs, .inl (c_la_differs, 40, .inr (.inl la_differs)))] sz) := by
  refine XMet.ofW (cc := b_Top_instance) (maxL := 4) (ret := (some .int)) (by decide) rfl ?_
  intro p e s m args below meth c s₁ B hml hnt hv
  obtain ⟨e9, hv, hxw⟩ := hv
  have hv := And.intro e9 hv
  clear e9
  obtain ⟨rfl, hsz, hP, hK, hD0, hnw⟩ := hv
  have hx := B.exec
  have hb := B.bytes
  have hr := B.returns
  have hts := atoms_spec (ws := ws_Top_instance) B.pre
  have hB : ∀ w ∈ BIG, w.before _ s = true := fun w h => hts w (List.mem_cons_of_mem _ h)
  have hown : s.vm.findClass R_Top = some m.cls := findClass_of_methodNamed B.named
  have hlocks := B.notSynchronized
  subst hsz
  have hD := hD0.self (sz := s.heap.size)
  refine W_Q (fun Q9 eQ => ?_)
  generalize hAe : va_A [(h_tr, .inr (0, [u_tr_kind, .ref h_di, u_tr_page, u_tr_toldBytes, u_tr_cameBytes, u_tr_teller, u_tr_reader, .ref h_la, u_tr_spare, u_tr_refusedAt])), (h_di, .inr (6, [u_di_widths, u_di_heights, u_di_samples, .int di_count])), (h_la, .inr (8, [u_la_symbols, u_la_ways, .ref h_la_symbolOf, .ref h_la_xs, .ref h_la_ys, .ref h_la_differs, u_la_sequence, .int la_count])), (h_la_symbolOf, .inl (c_la_symbolOf, 40, .inl la_symbolOf)), (h_la_xs, .inl (c_la_xs, 40, .inl la_xs)), (h_la_ys, .inl (c_la_ys, 40, .inl la_ys)), (h_la_differs, .inl (c_la_differs, 40, .inr (.inl la_differs)))] s.heap.size = A at hD eQ
  have hA : ∀ q : Nat, s.heap.size ≤ q → A q := fun q h => by rw [← hAe]; exact Or.inr h
  have hS : va_S A s.heap s.heap [] := va_S.rf
  have hl := lv_entry ([.ref h_tr, .int p0, .int p1, .int p2]) (n := 4) (Nat.le_of_ble_eq_true rfl)
  rw [lg_entry_eq]
  generalize (lg_sl ([.ref h_tr, .int p0, .int p1, .int p2]) ++ List.replicate (4 - (lg_sl ([.ref h_tr, .int p0, .int p1, .int p2])).length) Slot.unset).toArray = ls at hl ⊢
  have hl : lv_has ls 4 [(0, .ref h_tr), (1, .int p0), (2, .int p1), (3, .int p2)] := hl
  have h := hf
  unfold f_Top_instance at h
  refine lv_aload_n hx hb d_Top_instance_0 rfl (lv_at hl 0 rfl) ?_
  refine va_get (D := (dC, dI)) (ci := 0) (v := .ref h_di) (C := R_Top) (T := T_Top) (N := 10) hx hb hB iw_Top hown hK hP 0 rfl rfl 1 (by decide) (hB _ bw_261) (fun _ h9 => h9) rfl d_Top_instance_1 ?_
  refine lv_iload_n hx hb d_Top_instance_4 rfl (lv_at hl 1 rfl) ?_
  obtain ⟨o9, hc9, h⟩ := bd_e h
  have hPc := hP.sub (ws' := [(h_di, .inr (6, [u_di_widths, u_di_heights, u_di_samples, .int di_count]))]) [1] rfl
  have hKc := hK.sub (tys' := []) [] rfl
  refine vp_callSi (va_Run.run (va_runVN (As := [.int p0]) (rest := []) ⟨hx, hb, hml, hown, hB⟩ (c_Dictionary_has l dC dI h_di u_di_widths u_di_heights u_di_samples di_count p0 o9 hc9) ⟨va_cnB 1 hB (goodB bw_743) rfl rfl rfl (hnw.1 _ bn_740) (hB _ bw_3) (by decide +kernel) ⟨Nat.le_of_ble_eq_true rfl, Nat.le_of_ble_eq_true rfl⟩, hB _ bw_742, hB _ bs_50⟩ ⟨fb_p, va_recv hK hP (ci := 6) (q0 := 1) rfl rfl, (pre_p hPc hKc hnw [.ref h_di, .int p0])⟩ rfl rfl hl.1 rfl (lv_room (Nat.le_of_ble_eq_true rfl)) d_Top_instance_5 ⟨Nat.zero_le _, Nat.zero_le _⟩)) (fun r_1 e_r_1 => ?_)
  subst e_r_1
  clear hPc hKc hc9
  refine lv_if_ne (tgt := 21) hx hb d_Top_instance_8 (by decide) (fun c_1 => ?_) (fun c_1 => ?_)
  · have h := if_f h c_1
    refine lv_iload_n hx hb d_Top_instance_21 rfl (lv_at hl 2 rfl) ?_
    obtain ⟨o9, hc9, h⟩ := bd_e h
    have hPc := hP.sub (ws' := []) [] rfl
    have hKc := hK.sub (tys' := []) [] rfl
    refine vp_callSi (va_Run.run (va_runS (As := [.int p1]) (rest := []) ⟨hx, hb, hml, hown, hB⟩ (c_Top_isPlace l dC dI p1 o9 hc9) (va_cwS 1 hB (goodA (m3 bw_775 bw_598 bw_1) (goodB bw_599)) rfl rfl rfl (by decide +kernel) ⟨Nat.le_of_ble_eq_true rfl, Nat.le_of_ble_eq_true rfl⟩) ⟨fb_p, (pre_p hPc hKc hnw [.int p1])⟩ rfl rfl hl.1 rfl (lv_room (Nat.le_of_ble_eq_true rfl)) d_Top_instance_22 ⟨Nat.zero_le _, Nat.zero_le _⟩)) (fun r_2 e_r_2 => ?_)
    subst e_r_2
    clear hPc hKc hc9
    obtain ⟨j35, e_j35, h⟩ := jn_e h
    have w_j35 : ∀ (ls : Array Slot), j35 () = some o → lv_has ls 4 [] → W p l e ({ frames := 6, cells := 1, slots := 6, locals := 110 } : Room) s m ([.ref h_tr, .int p0, .int p1, .int p2] : List Value).toArray below meth c s.heap [] 0 0 Q9 (F0 m 35 ls []) := by
      intro ls h hl
      rw [e_j35] at h
      subst eQ
      refine th_new (names := ["java/lang/RuntimeException", "java/lang/Exception"]) hx hb hlt hown (by decide +kernel) (by decide +kernel) (hB _ bw_644) (hB _ bw_17) (x_str hxw bx_776) (x_own hB hxw ow_98) (hl.1.trans hml.symm) d_Top_instance_35 d_Top_instance_38 d_Top_instance_39 d_Top_instance_41 d_Top_instance_44 (fun x hx9 => (hnt x hx9).elim) (Nat.le_of_ble_eq_true rfl) (Nat.le_of_ble_eq_true rfl) (Nat.le_of_ble_eq_true rfl) (Nat.le_of_ble_eq_true rfl) hlocks (fun U hU => x_out (cls := "java/lang/IllegalArgumentException") ?_ hU)
      exact Option.some.inj h
    refine lv_if_eq (tgt := 35) hx hb d_Top_instance_25 (by decide) (fun c_2 => ?_) (fun c_2 => ?_)
    · have h := if_t h c_2
      exact w_j35 _ h (lv_sub hl [] rfl)
    · have h := if_f h c_2
      refine lv_iload_n hx hb d_Top_instance_28 rfl (lv_at hl 3 rfl) ?_
      obtain ⟨o9, hc9, h⟩ := bd_e h
      have hPc := hP.sub (ws' := []) [] rfl
      have hKc := hK.sub (tys' := []) [] rfl
      refine vp_callSi (va_Run.run (va_runS (As := [.int p2]) (rest := []) ⟨hx, hb, hml, hown, hB⟩ (c_Top_isPlace l dC dI p2 o9 hc9) (va_cwS 1 hB (goodA (m3 bw_775 bw_598 bw_1) (goodB bw_599)) rfl rfl rfl (by decide +kernel) ⟨Nat.le_of_ble_eq_true rfl, Nat.le_of_ble_eq_true rfl⟩) ⟨fb_p, (pre_p hPc hKc hnw [.int p2])⟩ rfl rfl hl.1 rfl (lv_room (Nat.le_of_ble_eq_true rfl)) d_Top_instance_29 ⟨Nat.zero_le _, Nat.zero_le _⟩)) (fun r_3 e_r_3 => ?_)
      subst e_r_3
      clear hPc hKc hc9
      refine lv_if_ne (tgt := 45) hx hb d_Top_instance_32 (by decide) (fun c_3 => ?_) (fun c_3 => ?_)
      · have h := if_f h c_3
        refine lv_aload_n hx hb d_Top_instance_45 rfl (lv_at hl 0 rfl) ?_
        refine va_get (D := (dC, dI)) (ci := 0) (v := .ref h_la) (C := R_Top) (T := T_Top) (N := 10) hx hb hB iw_Top hown hK hP 0 rfl rfl 7 (by decide) (hB _ bw_267) (fun _ h9 => h9) rfl d_Top_instance_46 ?_
        refine va_getN (D := (dC, dI)) (ci := 8) (v := .int la_count) (C := R_Layout) (T := T_Layout) (N := 8) hx hb hB iw_Layout hown hK hP 2 rfl rfl 7 (by decide) (va_Nw.use rfl (hnw.1 _ bn_240)) (fun _ h9 => h9) rfl d_Top_instance_49 ?_
        refine lv_bipush (v := 40) hx hb d_Top_instance_52 (by decide) ?_
        refine lv_icmp_lt (tgt := 67) hx hb d_Top_instance_54 (by decide) (fun c_4 => ?_) (fun c_4 => ?_)
        · have h := if_t h c_4
          refine lv_aload_n hx hb d_Top_instance_67 rfl (lv_at hl 0 rfl) ?_
          refine va_get (D := (dC, dI)) (ci := 0) (v := .ref h_la) (C := R_Top) (T := T_Top) (N := 10) hx hb hB iw_Top hown hK hP 0 rfl rfl 7 (by decide) (hB _ bw_267) (fun _ h9 => h9) rfl d_Top_instance_68 ?_
          refine lv_iload_n hx hb d_Top_instance_71 rfl (lv_at hl 1 rfl) ?_
          refine lv_iload_n hx hb d_Top_instance_72 rfl (lv_at hl 2 rfl) ?_
          refine lv_iload_n hx hb d_Top_instance_73 rfl (lv_at hl 3 rfl) ?_
          obtain ⟨o9, hc9, h⟩ := bd_e h
          have hPc := hP.sub (ws' := [(h_la, .inr (8, [u_la_symbols, u_la_ways, .ref h_la_symbolOf, .ref h_la_xs, .ref h_la_ys, .ref h_la_differs, u_la_sequence, .int la_count])), (h_la_symbolOf, .inl (c_la_symbolOf, 40, .inl la_symbolOf)), (h_la_xs, .inl (c_la_xs, 40, .inl la_xs)), (h_la_ys, .inl (c_la_ys, 40, .inl la_ys)), (h_la_differs, .inl (c_la_differs, 40, .inr (.inl la_differs)))]) [2, 3, 4, 5, 6] rfl
          have hKc := hK.sub (tys' := [(c_la_symbolOf, .int), (c_la_xs, .int), (c_la_ys, .int), (c_la_differs, .long)]) [0, 1, 2, 3] rfl
          have hDc := hD.sub (ws' := [(h_la, .inr (8, [u_la_symbols, u_la_ways, .ref h_la_symbolOf, .ref h_la_xs, .ref h_la_ys, .ref h_la_differs, u_la_sequence, .int la_count])), (h_la_symbolOf, .inl (c_la_symbolOf, 40, .inl la_symbolOf)), (h_la_xs, .inl (c_la_xs, 40, .inl la_xs)), (h_la_ys, .inl (c_la_ys, 40, .inl la_ys)), (h_la_differs, .inl (c_la_differs, 40, .inr (.inl la_differs)))]) [2, 3, 4, 5, 6] (by decide) rfl
          have hFc := va_free (wc := [(h_la, .inr (8, [u_la_symbols, u_la_ways, .ref h_la_symbolOf, .ref h_la_xs, .ref h_la_ys, .ref h_la_differs, u_la_sequence, .int la_count])), (h_la_symbolOf, .inl (c_la_symbolOf, 40, .inl la_symbolOf)), (h_la_xs, .inl (c_la_xs, 40, .inl la_xs)), (h_la_ys, .inl (c_la_ys, 40, .inl la_ys)), (h_la_differs, .inl (c_la_differs, 40, .inr (.inl la_differs)))]) hD hS hA [2, 3, 4, 5, 6] rfl
          refine va_calli (va_runVN (As := [.int p0, .int p1, .int p2]) (rest := []) ⟨hx, hb, hml, hown, hB⟩ (c_Layout_add l dC dI h_la h_la_symbolOf h_la_xs h_la_ys h_la_differs c_la_symbolOf c_la_xs c_la_ys c_la_differs u_la_symbols u_la_ways u_la_sequence la_count la_symbolOf la_xs la_ys la_differs p0 p1 p2 _ o9 hc9) ⟨va_cnB 3 hB (goodB bw_604) rfl rfl rfl (hnw.1 _ bn_778) (hB _ bw_12) (by decide +kernel) ⟨Nat.le_of_ble_eq_true rfl, Nat.le_of_ble_eq_true rfl⟩, hB _ bw_603, hB _ bs_44⟩ ⟨fb_m, va_recv hK hP (ci := 8) (q0 := 2) rfl rfl, (pre_m hPc hKc hDc hnw [.ref h_la, .int p0, .int p1, .int p2])⟩ rfl rfl hl.1 rfl (lv_room (Nat.le_of_ble_eq_true rfl)) d_Top_instance_74 ⟨Nat.zero_le _, Nat.zero_le _⟩) hS (fun q _ h => hFc q h) hFc (fun r_4 u9 t H1 locs ht hvm hw hB hz1 hk1 hS => ?_)
          obtain ⟨la_count_5, la_symbolOf_6, la_xs_7, la_ys_8, la_differs_9⟩ := u9
          subst hw
          obtain ⟨hP1, hK1, hD1⟩ := hB
          rw [ht] at hP1
          obtain ⟨hP, hD⟩ := va_join (wr := [(h_tr, .inr (0, [u_tr_kind, .ref h_di, u_tr_page, u_tr_toldBytes, u_tr_cameBytes, u_tr_teller, u_tr_reader, .ref h_la, u_tr_spare, u_tr_refusedAt])), (h_di, .inr (6, [u_di_widths, u_di_heights, u_di_samples, .int di_count]))]) (w1 := [(h_la, .inr (8, [u_la_symbols, u_la_ways, .ref h_la_symbolOf, .ref h_la_xs, .ref h_la_ys, .ref h_la_differs, u_la_sequence, .int la_count_5])), (h_la_symbolOf, .inl (c_la_symbolOf, 40, .inl la_symbolOf_6)), (h_la_xs, .inl (c_la_xs, 40, .inl la_xs_7)), (h_la_ys, .inl (c_la_ys, 40, .inl la_ys_8)), (h_la_differs, .inl (c_la_differs, 40, .inr (.inl la_differs_9)))]) hP hD [2, 3, 4, 5, 6] [0, 1] rfl rfl (by decide) (by decide) hk1 hFc hP1 hD1
          have hP := hP.sub (ws' := [(h_tr, .inr (0, [u_tr_kind, .ref h_di, u_tr_page, u_tr_toldBytes, u_tr_cameBytes, u_tr_teller, u_tr_reader, .ref h_la, u_tr_spare, u_tr_refusedAt])), (h_di, .inr (6, [u_di_widths, u_di_heights, u_di_samples, .int di_count])), (h_la, .inr (8, [u_la_symbols, u_la_ways, .ref h_la_symbolOf, .ref h_la_xs, .ref h_la_ys, .ref h_la_differs, u_la_sequence, .int la_count_5])), (h_la_symbolOf, .inl (c_la_symbolOf, 40, .inl la_symbolOf_6)), (h_la_xs, .inl (c_la_xs, 40, .inl la_xs_7)), (h_la_ys, .inl (c_la_ys, 40, .inl la_ys_8)), (h_la_differs, .inl (c_la_differs, 40, .inr (.inl la_differs_9)))]) [0, 1, 2, 3, 4, 5, 6] rfl
          have hD := hD.sub (ws' := [(h_tr, .inr (0, [u_tr_kind, .ref h_di, u_tr_page, u_tr_toldBytes, u_tr_cameBytes, u_tr_teller, u_tr_reader, .ref h_la, u_tr_spare, u_tr_refusedAt])), (h_di, .inr (6, [u_di_widths, u_di_heights, u_di_samples, .int di_count])), (h_la, .inr (8, [u_la_symbols, u_la_ways, .ref h_la_symbolOf, .ref h_la_xs, .ref h_la_ys, .ref h_la_differs, u_la_sequence, .int la_count_5])), (h_la_symbolOf, .inl (c_la_symbolOf, 40, .inl la_symbolOf_6)), (h_la_xs, .inl (c_la_xs, 40, .inl la_xs_7)), (h_la_ys, .inl (c_la_ys, 40, .inl la_ys_8)), (h_la_differs, .inl (c_la_differs, 40, .inr (.inl la_differs_9)))]) [0, 1, 2, 3, 4, 5, 6] (by decide) rfl
          clear hPc hKc hDc hFc hc9 hP1 hK1 hD1 hk1 hz1 hvm ht
          generalize H1 = H at hP hS ⊢
          try dsimp only at h
          subst eQ
          refine x_ret ?_
          refine W.widen (k := 1) (n := 6) (by omega) (by omega) ?_
          exact W.iret (v := r_4) hx hb hr (fun t ht hW => ⟨⟨_, (la_count_5, la_symbolOf_6, la_xs_7, la_ys_8, la_differs_9), rfl, Option.some.inj h, by rw [ht]; exact hP, va_K.moved hW.alike hK, hD⟩, hS.F ht⟩) hS.2.2 d_Top_instance_77
        · have h := if_f h c_4
          subst eQ
          refine th_new (names := ["java/lang/RuntimeException", "java/lang/Exception"]) hx hb hlt hown (by decide +kernel) (by decide +kernel) (hB _ bw_712) (hB _ bw_18) (x_str hxw bx_777) (x_own hB hxw ow_108) (hl.1.trans hml.symm) d_Top_instance_57 d_Top_instance_60 d_Top_instance_61 d_Top_instance_63 d_Top_instance_66 (fun x hx9 => (hnt x hx9).elim) (Nat.le_of_ble_eq_true rfl) (Nat.le_of_ble_eq_true rfl) (Nat.le_of_ble_eq_true rfl) (Nat.le_of_ble_eq_true rfl) hlocks (fun U hU => x_out (cls := "java/lang/UnsupportedOperationException") ?_ hU)
          exact Option.some.inj h
      · have h := if_t h c_3
        exact w_j35 _ h (lv_sub hl [] rfl)
  · have h := if_t h c_1
    subst eQ
    refine th_new (names := ["java/lang/RuntimeException", "java/lang/Exception"]) hx hb hlt hown (by decide +kernel) (by decide +kernel) (hB _ bw_749) (hB _ bw_19) (x_str hxw bx_774) (x_own hB hxw ow_124) (hl.1.trans hml.symm) d_Top_instance_11 d_Top_instance_14 d_Top_instance_15 d_Top_instance_17 d_Top_instance_20 (fun x hx9 => (hnt x hx9).elim) (Nat.le_of_ble_eq_true rfl) (Nat.le_of_ble_eq_true rfl) (Nat.le_of_ble_eq_true rfl) (Nat.le_of_ble_eq_true rfl) hlocks (fun U hU => x_out (cls := "java/lang/IndexOutOfBoundsException") ?_ hU)
    exact Option.some.inj h
set_option maxHeartbeats 4000000 in
set_option maxRecDepth 100000 in
theorem c_Top_refine (l : Launch) (dC : Nat → ClassId) (dI : Nat → Nat → Nat) (h_tr : Nat) (h_la : Nat) (h_di : Nat) (h_la_symbolOf : Nat) (h_di_widths : Nat) (h_di_heights : Nat) (h_la_differs : Nat) (c_la_symbolOf : ClassId) (c_di_widths : ClassId) (c_di_heights : ClassId) (c_la_differs : ClassId) (u_tr_kind : Value) (u_tr_page : Value) (u_tr_toldBytes : Value) (u_tr_cameBytes : Value) (u_tr_teller : Value) (u_tr_reader : Value) (u_tr_spare : Value) (u_tr_refusedAt : Value) (u_la_symbols : Value) (u_la_ways : Value) (u_la_xs : Value) (u_la_ys : Value) (u_la_sequence : Value) (u_di_samples : Value) (u_di_count : Value) (la_count : Int32) (la_symbolOf : (Nat → Int32)) (di_widths : (Nat → Int32)) (di_heights : (Nat → Int32)) (la_differs : (Nat → Int64)) (p0 : Int32) (p1 : Int32) (p2 : Int32) (p3 : Int32) (sz : Nat) (hlt : l.stackTraces = false) (o : String ⊕ (Int32 × (Nat → Int64))) (hf : f_Top_refine la_count la_symbolOf di_widths di_heights la_differs p0 p1 p2 p3 = some o) :
    XMet l y_Top_refine ws_Top_refine { frames := 6, cells := 1, slots := 6, locals := 110 } (va_Pc [.ref h_tr, .int p0, .int p1, .int p2, .int p3] (fun U => (PcM (dC, dI) [(h_tr, .inr (0, [u_tr_kind, .ref h_di, u_tr_page, u_tr_toldBytes, u_tr_cameBytes, u_tr_teller, u_tr_reader, .ref h_la, u_tr_spare, u_tr_refusedAt])), (h_la, .inr (8, [u_la_symbols, u_la_ways, .ref h_la_symbolOf, u_la_xs, u_la_ys, .ref h_la_differs, u_la_sequence, .int la_count])), (h_di, .inr (6, [.ref h_di_widths, .ref h_di_heights, u_di_samples, u_di_count])), (h_la_symbolOf, .inl (c_la_symbolOf, 40, .inl la_symbolOf)), (h_di_widths, .inl (c_di_widths, 16, .inl di_widths)), (h_di_heights, .inl (c_di_heights, 16, .inl di_heights)), (h_la_differs, .inl (c_la_differs, 40, .inr (.inl la_differs)))] [(c_la_symbolOf, .int), (c_di_widths, .int), (c_di_heights, .int), (c_la_differs, .long)] sz) U ∧ xw U))
      (va_Qi (fun (r : Int32) (u : (Nat → Int64)) => (.inr (r, u) : String ⊕ (Int32 × (Nat → Int64))) = o) (fun u t => va_P (dC, dI) CL [(h_tr, .inr (0, [u_tr_kind, .ref h_di, u_tr_page, u_tr_toldBytes, u_tr_cameBytes, u_tr_teller, u_tr_reader, .ref h_la, u_tr_spare, u_tr_refusedAt])), (h_la, .inr (8, [u_la_symbols, u_la_ways, .ref h_la_symbolOf, u_la_xs, u_la_ys, .ref h_la_differs, u_la_sequence, .int la_count])), (h_di, .inr (6, [.ref h_di_widths, .ref h_di_heights, u_di_samples, u_di_count])), (h_la_symbolOf, .inl (c_la_symbolOf, 40, .inl la_symbolOf)), (h_di_widths, .inl (c_di_widths, 16, .inl di_widths)), (h_di_heights, .inl (c_di_heights, 16, .inl di_heights)), (h_la_differs, .inl (c_la_differs, 40, .inr (.inl u)))] t.heap ∧ va_K (dC, dI) CL [(c_la_symbolOf, .int), (c_di_widths, .int), (c_di_heights, .int), (c_la_differs, .long)] t ∧ va_D (va_A [(h_tr, .inr (0, [u_tr_kind, .ref h_di, u_tr_page, u_tr_toldBytes, u_tr_cameBytes, u_tr_teller, u_tr_reader, .ref h_la, u_tr_spare, u_tr_refusedAt])), (h_la, .inr (8, [u_la_symbols, u_la_ways, .ref h_la_symbolOf, u_la_xs, u_la_ys, .ref h_la_differs, u_la_sequence, .int la_count])), (h_di, .inr (6, [.ref h_di_widths, .ref h_di_heights, u_di_samples, u_di_count])), (h_la_symbolOf, .inl (c_la_symbolOf, 40, .inl la_symbolOf)), (h_di_widths, .inl (c_di_widths, 16, .inl di_widths)), (h_di_heights, .inl (c_di_heights, 16, .inl di_heights)), (h_la_differs, .inl (c_la_differs, 40, .inr (.inl la_differs)))] sz) [(h_tr, .inr (0, [u_tr_kind, .ref h_di, u_tr_page, u_tr_toldBytes, u_tr_cameBytes, u_tr_teller, u_tr_reader, .ref h_la, u_tr_spare, u_tr_refusedAt])), (h_la, .inr (8, [u_la_symbols, u_la_ways, .ref h_la_symbolOf, u_la_xs, u_la_ys, .ref h_la_differs, u_la_sequence, .int la_count])), (h_di, .inr (6, [.ref h_di_widths, .ref h_di_heights, u_di_samples, u_di_count])), (h_la_symbolOf, .inl (c_la_symbolOf, 40, .inl la_symbolOf)), (h_di_widths, .inl (c_di_widths, 16, .inl di_widths)), (h_di_heights, .inl (c_di_heights, 16, .inl di_heights)), (h_la_differs, .inl (c_la_differs, 40, .inr (.inl u)))]) (va_A [(h_tr, .inr (0, [u_tr_kind, .ref h_di, u_tr_page, u_tr_toldBytes, u_tr_cameBytes, u_tr_teller, u_tr_reader, .ref h_la, u_tr_spare, u_tr_refusedAt])), (h_la, .inr (8, [u_la_symbols, u_la_ways, .ref h_la_symbolOf, u_la_xs, u_la_ys, .ref h_la_differs, u_la_sequence, .int la_count])), (h_di, .inr (6, [.ref h_di_widths, .ref h_di_heights, u_di_samples, u_di_count])), (h_la_symbolOf, .inl (c_la_symbolOf, 40, .inl la_symbolOf)), (h_di_widths, .inl (c_di_widths, 16, .inl di_widths)), (h_di_heights, .inl (c_di_heights, 16, .inl di_heights)), (h_la_differs, .inl (c_la_differs, 40, .inr (.inl la_differs)))] sz)) (fun cls => (.inl cls : String ⊕ (Int32 × (Nat → Int64))) = o) 1 6 (va_A [(h_tr, .inr (0, [u_tr_kind, .ref h_di, u_tr_page, u_tr_toldBytes, u_tr_cameBytes, u_tr_teller, u_tr_reader, .ref h_la, u_tr_spare, u_tr_refusedAt])), (h_la, .inr (8, [u_la_symbols, u_la_ways, .ref h_la_symbolOf, u_la_xs, u_la_ys, .ref h_la_differs, u_la_sequence, .int la_count])), (h_di, .inr (6, [.ref h_di_widths, .ref h_di_heights, u_di_samples, u_di_count])), (h_la_symbolOf, .inl (c_la_symbolOf, 40, .inl la_symbolOf)), (h_di_widths, .inl (c_di_widths, 16, .inl di_widths)), (h_di_heights, .inl (c_di_heights, 16, .inl di_heights)), (h_la_differs, .inl (c_la_differs, 40, .inr (.inl la_differs)))] sz) := by
  refine XMet.ofW (cc := b_Top_refine) (maxL := 8) (ret := (some .boolean)) (by decide) rfl ?_
  intro p e s m args below meth c s₁ B hml hnt hv
  obtain ⟨e9, hv, hxw⟩ := hv
  have hv := And.intro e9 hv
  clear e9
  obtain ⟨rfl, hsz, hP, hK, hD0, hnw⟩ := hv
  have hx := B.exec
  have hb := B.bytes
  have hr := B.returns
  have hts := atoms_spec (ws := ws_Top_refine) B.pre
  have hB : ∀ w ∈ BIG, w.before _ s = true := fun w h => hts w (List.mem_cons_of_mem _ h)
  have hown : s.vm.findClass R_Top = some m.cls := findClass_of_methodNamed B.named
  have hlocks := B.notSynchronized
  subst hsz
  have hD := hD0.self (sz := s.heap.size)
  refine W_Q (fun Q9 eQ => ?_)
  generalize hAe : va_A [(h_tr, .inr (0, [u_tr_kind, .ref h_di, u_tr_page, u_tr_toldBytes, u_tr_cameBytes, u_tr_teller, u_tr_reader, .ref h_la, u_tr_spare, u_tr_refusedAt])), (h_la, .inr (8, [u_la_symbols, u_la_ways, .ref h_la_symbolOf, u_la_xs, u_la_ys, .ref h_la_differs, u_la_sequence, .int la_count])), (h_di, .inr (6, [.ref h_di_widths, .ref h_di_heights, u_di_samples, u_di_count])), (h_la_symbolOf, .inl (c_la_symbolOf, 40, .inl la_symbolOf)), (h_di_widths, .inl (c_di_widths, 16, .inl di_widths)), (h_di_heights, .inl (c_di_heights, 16, .inl di_heights)), (h_la_differs, .inl (c_la_differs, 40, .inr (.inl la_differs)))] s.heap.size = A at hD eQ
  have hA : ∀ q : Nat, s.heap.size ≤ q → A q := fun q h => by rw [← hAe]; exact Or.inr h
  have hS : va_S A s.heap s.heap [] := va_S.rf
  have hl := lv_entry ([.ref h_tr, .int p0, .int p1, .int p2, .int p3]) (n := 8) (Nat.le_of_ble_eq_true rfl)
  rw [lg_entry_eq]
  generalize (lg_sl ([.ref h_tr, .int p0, .int p1, .int p2, .int p3]) ++ List.replicate (8 - (lg_sl ([.ref h_tr, .int p0, .int p1, .int p2, .int p3])).length) Slot.unset).toArray = ls at hl ⊢
  have hl : lv_has ls 8 [(0, .ref h_tr), (1, .int p0), (2, .int p1), (3, .int p2), (4, .int p3)] := hl
  have h := hf
  unfold f_Top_refine at h
  refine lv_aload_n hx hb d_Top_refine_0 rfl (lv_at hl 0 rfl) ?_
  refine va_get (D := (dC, dI)) (ci := 0) (v := .ref h_la) (C := R_Top) (T := T_Top) (N := 10) hx hb hB iw_Top hown hK hP 0 rfl rfl 7 (by decide) (hB _ bw_267) (fun _ h9 => h9) rfl d_Top_refine_1 ?_
  refine lv_iload_n hx hb d_Top_refine_4 rfl (lv_at hl 1 rfl) ?_
  obtain ⟨o9, hc9, h⟩ := bd_e h
  have hPc := hP.sub (ws' := [(h_la, .inr (8, [u_la_symbols, u_la_ways, .ref h_la_symbolOf, u_la_xs, u_la_ys, .ref h_la_differs, u_la_sequence, .int la_count]))]) [1] rfl
  have hKc := hK.sub (tys' := []) [] rfl
  refine vp_callSi (va_Run.run (va_runVN (As := [.int p0]) (rest := []) ⟨hx, hb, hml, hown, hB⟩ (c_Layout_has l dC dI h_la u_la_symbols u_la_ways (.ref h_la_symbolOf) u_la_xs u_la_ys (.ref h_la_differs) u_la_sequence la_count p0 o9 hc9) ⟨va_cnB 1 hB (goodB bw_789) rfl rfl rfl (hnw.1 _ bn_786) (hB _ bw_12) (by decide +kernel) ⟨Nat.le_of_ble_eq_true rfl, Nat.le_of_ble_eq_true rfl⟩, hB _ bw_788, hB _ bs_52⟩ ⟨fb_p, va_recv hK hP (ci := 8) (q0 := 1) rfl rfl, (pre_p hPc hKc hnw [.ref h_la, .int p0])⟩ rfl rfl hl.1 rfl (lv_room (Nat.le_of_ble_eq_true rfl)) d_Top_refine_5 ⟨Nat.zero_le _, Nat.zero_le _⟩)) (fun r_1 e_r_1 => ?_)
  subst e_r_1
  clear hPc hKc hc9
  obtain ⟨j32, e_j32, h⟩ := jn_e h
  have w_j32 : ∀ (ls : Array Slot), j32 () = some o → lv_has ls 8 [] → W p l e ({ frames := 6, cells := 1, slots := 6, locals := 110 } : Room) s m ([.ref h_tr, .int p0, .int p1, .int p2, .int p3] : List Value).toArray below meth c s.heap [] 0 0 Q9 (F0 m 32 ls []) := by
    intro ls h hl
    rw [e_j32] at h
    subst eQ
    refine th_new (names := ["java/lang/RuntimeException", "java/lang/Exception"]) hx hb hlt hown (by decide +kernel) (by decide +kernel) (hB _ bw_749) (hB _ bw_19) (x_str hxw bx_791) (x_own hB hxw ow_124) (hl.1.trans hml.symm) d_Top_refine_32 d_Top_refine_35 d_Top_refine_36 d_Top_refine_38 d_Top_refine_41 (fun x hx9 => (hnt x hx9).elim) (Nat.le_of_ble_eq_true rfl) (Nat.le_of_ble_eq_true rfl) (Nat.le_of_ble_eq_true rfl) (Nat.le_of_ble_eq_true rfl) hlocks (fun U hU => x_out (cls := "java/lang/IndexOutOfBoundsException") ?_ hU)
    exact Option.some.inj h
  refine lv_if_eq (tgt := 32) hx hb d_Top_refine_8 (by decide) (fun c_1 => ?_) (fun c_1 => ?_)
  · have h := if_t h c_1
    exact w_j32 _ h (lv_sub hl [] rfl)
  · have h := if_f h c_1
    refine lv_aload_n hx hb d_Top_refine_11 rfl (lv_at hl 0 rfl) ?_
    refine va_get (D := (dC, dI)) (ci := 0) (v := .ref h_di) (C := R_Top) (T := T_Top) (N := 10) hx hb hB iw_Top hown hK hP 0 rfl rfl 1 (by decide) (hB _ bw_261) (fun _ h9 => h9) rfl d_Top_refine_12 ?_
    refine lv_aload_n hx hb d_Top_refine_15 rfl (lv_at hl 0 rfl) ?_
    refine va_get (D := (dC, dI)) (ci := 0) (v := .ref h_la) (C := R_Top) (T := T_Top) (N := 10) hx hb hB iw_Top hown hK hP 0 rfl rfl 7 (by decide) (hB _ bw_267) (fun _ h9 => h9) rfl d_Top_refine_16 ?_
    refine va_getN (D := (dC, dI)) (ci := 8) (v := .ref h_la_symbolOf) (C := R_Layout) (T := T_Layout) (N := 8) hx hb hB iw_Layout hown hK hP 1 rfl rfl 2 (by decide) (va_Nw.use rfl (hnw.1 _ bn_221)) (fun _ h9 => h9) rfl d_Top_refine_19 ?_
    refine lv_iload_n hx hb d_Top_refine_22 rfl (lv_at hl 1 rfl) ?_
    obtain ⟨hin, h⟩ := gq_e h
    refine va_iald hx hb hK hP 3 0 rfl rfl hin d_Top_refine_23 ?_
    refine lv_iload_n hx hb d_Top_refine_24 rfl (lv_at hl 2 rfl) ?_
    refine lv_iload_n hx hb d_Top_refine_25 rfl (lv_at hl 3 rfl) ?_
    obtain ⟨o9, hc9, h⟩ := bd_e h
    have hPc := hP.sub (ws' := [(h_di, .inr (6, [.ref h_di_widths, .ref h_di_heights, u_di_samples, u_di_count])), (h_di_widths, .inl (c_di_widths, 16, .inl di_widths)), (h_di_heights, .inl (c_di_heights, 16, .inl di_heights))]) [2, 4, 5] rfl
    have hKc := hK.sub (tys' := [(c_di_widths, .int), (c_di_heights, .int)]) [1, 2] rfl
    refine vp_callSi (va_Run.run (va_runVN (As := [.int (la_symbolOf (p0).toNatClampNeg), .int p1, .int p2]) (rest := []) ⟨hx, hb, hml, hown, hB⟩ (c_Dictionary_hasSample l dC dI h_di h_di_widths h_di_heights c_di_widths c_di_heights u_di_samples u_di_count di_widths di_heights (la_symbolOf (p0).toNatClampNeg) p1 p2 o9 hc9) ⟨va_cnB 3 hB (goodB bw_748) rfl rfl rfl (hnw.1 _ bn_745) (hB _ bw_3) (by decide +kernel) ⟨Nat.le_of_ble_eq_true rfl, Nat.le_of_ble_eq_true rfl⟩, hB _ bw_747, hB _ bs_51⟩ ⟨fb_p, va_recv hK hP (ci := 6) (q0 := 2) rfl rfl, (pre_p hPc hKc hnw [.ref h_di, .int (la_symbolOf (p0).toNatClampNeg), .int p1, .int p2])⟩ rfl rfl hl.1 rfl (lv_room (Nat.le_of_ble_eq_true rfl)) d_Top_refine_26 ⟨Nat.zero_le _, Nat.zero_le _⟩)) (fun r_2 e_r_2 => ?_)
    subst e_r_2
    clear hPc hKc hc9
    refine lv_if_ne (tgt := 42) hx hb d_Top_refine_29 (by decide) (fun c_2 => ?_) (fun c_2 => ?_)
    · have h := if_f h c_2
      refine lv_aload_n hx hb d_Top_refine_42 rfl (lv_at hl 0 rfl) ?_
      refine va_get (D := (dC, dI)) (ci := 0) (v := .ref h_la) (C := R_Top) (T := T_Top) (N := 10) hx hb hB iw_Top hown hK hP 0 rfl rfl 7 (by decide) (hB _ bw_267) (fun _ h9 => h9) rfl d_Top_refine_43 ?_
      refine va_getN (D := (dC, dI)) (ci := 8) (v := .ref h_la_differs) (C := R_Layout) (T := T_Layout) (N := 8) hx hb hB iw_Layout hown hK hP 1 rfl rfl 5 (by decide) (va_Nw.use rfl (hnw.1 _ bn_233)) (fun _ h9 => h9) rfl d_Top_refine_46 ?_
      refine lv_iload_n hx hb d_Top_refine_49 rfl (lv_at hl 1 rfl) ?_
      obtain ⟨hin, h⟩ := gq_e h
      refine va_lald hx hb hK hP 6 3 rfl rfl hin d_Top_refine_50 ?_
      refine lv_topl (fun v5_3 e_v5_3 => ?_)
      have h := nl_u e_v5_3 h
      refine lv_lstore (lv' := [(5, .long v5_3), (0, .ref h_tr), (1, .int p0), (2, .int p1), (3, .int p2), (4, .int p3)]) hx hb d_Top_refine_51 hl (by decide) rfl (fun ls hl => ?_)
      refine lv_aload_n hx hb d_Top_refine_53 rfl (lv_at hl 1 rfl) ?_
      refine va_get (D := (dC, dI)) (ci := 0) (v := .ref h_di) (C := R_Top) (T := T_Top) (N := 10) hx hb hB iw_Top hown hK hP 0 rfl rfl 1 (by decide) (hB _ bw_261) (fun _ h9 => h9) rfl d_Top_refine_54 ?_
      refine lv_aload_n hx hb d_Top_refine_57 rfl (lv_at hl 1 rfl) ?_
      refine va_get (D := (dC, dI)) (ci := 0) (v := .ref h_la) (C := R_Top) (T := T_Top) (N := 10) hx hb hB iw_Top hown hK hP 0 rfl rfl 7 (by decide) (hB _ bw_267) (fun _ h9 => h9) rfl d_Top_refine_58 ?_
      refine va_getN (D := (dC, dI)) (ci := 8) (v := .ref h_la_symbolOf) (C := R_Layout) (T := T_Layout) (N := 8) hx hb hB iw_Layout hown hK hP 1 rfl rfl 2 (by decide) (va_Nw.use rfl (hnw.1 _ bn_221)) (fun _ h9 => h9) rfl d_Top_refine_61 ?_
      refine lv_iload_n hx hb d_Top_refine_64 rfl (lv_at hl 2 rfl) ?_
      obtain ⟨hin, h⟩ := gq_e h
      refine va_iald hx hb hK hP 3 0 rfl rfl hin d_Top_refine_65 ?_
      refine lv_iload_n hx hb d_Top_refine_66 rfl (lv_at hl 3 rfl) ?_
      refine lv_iload_n hx hb d_Top_refine_67 rfl (lv_at hl 4 rfl) ?_
      obtain ⟨o9, hc9, h⟩ := bd_e h
      have hPc := hP.sub (ws' := [(h_di, .inr (6, [.ref h_di_widths, .ref h_di_heights, u_di_samples, u_di_count])), (h_di_widths, .inl (c_di_widths, 16, .inl di_widths))]) [2, 4] rfl
      have hKc := hK.sub (tys' := [(c_di_widths, .int)]) [1] rfl
      refine vp_callSi (va_Run.run (va_runVN (As := [.int (la_symbolOf (p0).toNatClampNeg), .int p1, .int p2]) (rest := []) ⟨hx, hb, hml, hown, hB⟩ (c_Dictionary_sampleNumber l dC dI h_di h_di_widths c_di_widths (.ref h_di_heights) u_di_samples u_di_count di_widths (la_symbolOf (p0).toNatClampNeg) p1 p2 o9 hc9) ⟨va_cnB 3 hB (goodB bw_330) rfl rfl rfl (hnw.1 _ bn_765) (hB _ bw_3) (by decide +kernel) ⟨Nat.le_of_ble_eq_true rfl, Nat.le_of_ble_eq_true rfl⟩, hB _ bw_329, hB _ bs_8⟩ ⟨fb_p, va_recv hK hP (ci := 6) (q0 := 2) rfl rfl, (pre_p hPc hKc hnw [.ref h_di, .int (la_symbolOf (p0).toNatClampNeg), .int p1, .int p2])⟩ rfl rfl hl.1 rfl (lv_room (Nat.le_of_ble_eq_true rfl)) d_Top_refine_68 ⟨Nat.zero_le _, Nat.zero_le _⟩)) (fun r_4 e_r_4 => ?_)
      subst e_r_4
      clear hPc hKc hc9
      refine lv_istore (lv' := [(7, .int r_4), (5, .long v5_3), (0, .ref h_tr), (1, .int p0), (2, .int p1), (3, .int p2), (4, .int p3)]) hx hb d_Top_refine_71 hl (by decide) rfl (fun ls hl => ?_)
      refine lv_aload_n hx hb d_Top_refine_73 rfl (lv_at hl 2 rfl) ?_
      refine va_get (D := (dC, dI)) (ci := 0) (v := .ref h_la) (C := R_Top) (T := T_Top) (N := 10) hx hb hB iw_Top hown hK hP 0 rfl rfl 7 (by decide) (hB _ bw_267) (fun _ h9 => h9) rfl d_Top_refine_74 ?_
      refine va_getN (D := (dC, dI)) (ci := 8) (v := .ref h_la_differs) (C := R_Layout) (T := T_Layout) (N := 8) hx hb hB iw_Layout hown hK hP 1 rfl rfl 5 (by decide) (va_Nw.use rfl (hnw.1 _ bn_233)) (fun _ h9 => h9) rfl d_Top_refine_77 ?_
      refine lv_iload_n hx hb d_Top_refine_80 rfl (lv_at hl 3 rfl) ?_
      refine lv_lload hx hb d_Top_refine_81 (lv_at hl 1 rfl) ?_
      refine lv_iload hx hb d_Top_refine_83 (lv_at hl 0 rfl) ?_
      refine lv_iload hx hb d_Top_refine_85 (lv_at hl 6 rfl) ?_
      obtain ⟨o9, hc9, h⟩ := bd_e h
      have hPc := hP.sub (ws' := []) [] rfl
      have hKc := hK.sub (tys' := []) [] rfl
      refine vp_callSl (va_Run.run (va_runS (As := [.long v5_3, .int r_4, .int p3]) (rest := [.int p0, .ref h_la_differs]) ⟨hx, hb, hml, hown, hB⟩ (c_Top_withBit l dC dI v5_3 r_4 p3 o9 hc9) (va_cwS 3 hB (goodA (m3 bw_766 bw_612 bw_1) (goodB bw_613)) rfl rfl rfl (by decide +kernel) ⟨Nat.le_of_ble_eq_true rfl, Nat.le_of_ble_eq_true rfl⟩) ⟨fb_p, (pre_p hPc hKc hnw [.long v5_3, .int r_4, .int p3])⟩ rfl rfl hl.1 rfl (lv_room (Nat.le_of_ble_eq_true rfl)) d_Top_refine_87 ⟨Nat.zero_le _, Nat.zero_le _⟩)) (fun r_5 e_r_5 => ?_)
      subst e_r_5
      clear hPc hKc hc9
      obtain ⟨hin, h⟩ := gq_e h
      refine va_last hx hb hK hP hD hS 6 3 rfl rfl hin d_Top_refine_90 (fun H locs hP hD hS => ?_)
      have hP : va_P (dC, dI) CL [(h_tr, .inr (0, [u_tr_kind, .ref h_di, u_tr_page, u_tr_toldBytes, u_tr_cameBytes, u_tr_teller, u_tr_reader, .ref h_la, u_tr_spare, u_tr_refusedAt])), (h_la, .inr (8, [u_la_symbols, u_la_ways, .ref h_la_symbolOf, u_la_xs, u_la_ys, .ref h_la_differs, u_la_sequence, .int la_count])), (h_di, .inr (6, [.ref h_di_widths, .ref h_di_heights, u_di_samples, u_di_count])), (h_la_symbolOf, .inl (c_la_symbolOf, 40, .inl la_symbolOf)), (h_di_widths, .inl (c_di_widths, 16, .inl di_widths)), (h_di_heights, .inl (c_di_heights, 16, .inl di_heights)), (h_la_differs, .inl (c_la_differs, 40, .inr (.inl (vp_updL la_differs (p0).toNatClampNeg r_5))))] H := hP
      have hD : va_D A [(h_tr, .inr (0, [u_tr_kind, .ref h_di, u_tr_page, u_tr_toldBytes, u_tr_cameBytes, u_tr_teller, u_tr_reader, .ref h_la, u_tr_spare, u_tr_refusedAt])), (h_la, .inr (8, [u_la_symbols, u_la_ways, .ref h_la_symbolOf, u_la_xs, u_la_ys, .ref h_la_differs, u_la_sequence, .int la_count])), (h_di, .inr (6, [.ref h_di_widths, .ref h_di_heights, u_di_samples, u_di_count])), (h_la_symbolOf, .inl (c_la_symbolOf, 40, .inl la_symbolOf)), (h_di_widths, .inl (c_di_widths, 16, .inl di_widths)), (h_di_heights, .inl (c_di_heights, 16, .inl di_heights)), (h_la_differs, .inl (c_la_differs, 40, .inr (.inl (vp_updL la_differs (p0).toNatClampNeg r_5))))] := hD
      refine lv_aload_n hx hb d_Top_refine_91 rfl (lv_at hl 2 rfl) ?_
      refine va_get (D := (dC, dI)) (ci := 0) (v := .ref h_la) (C := R_Top) (T := T_Top) (N := 10) hx hb hB iw_Top hown hK hP 0 rfl rfl 7 (by decide) (hB _ bw_267) (fun _ h9 => h9) rfl d_Top_refine_92 ?_
      refine va_getN (D := (dC, dI)) (ci := 8) (v := .ref h_la_differs) (C := R_Layout) (T := T_Layout) (N := 8) hx hb hB iw_Layout hown hK hP 1 rfl rfl 5 (by decide) (va_Nw.use rfl (hnw.1 _ bn_233)) (fun _ h9 => h9) rfl d_Top_refine_95 ?_
      refine lv_iload_n hx hb d_Top_refine_98 rfl (lv_at hl 3 rfl) ?_
      obtain ⟨hin, h⟩ := gq_e h
      refine va_lald hx hb hK hP 6 3 rfl rfl hin d_Top_refine_99 ?_
      refine lv_lload hx hb d_Top_refine_100 (lv_at hl 1 rfl) ?_
      refine W.lcmp hx hb d_Top_refine_102 ?_
      refine lv_if_eq (tgt := 110) hx hb d_Top_refine_103 (by decide) (fun c_3 => ?_) (fun c_3 => ?_)
      · have h := if_t h c_3
        refine lv_iconst (v := 0) hx hb d_Top_refine_110 (by decide) ?_
        subst eQ
        refine x_ret ?_
        refine W.widen (k := 1) (n := 6) (by omega) (by omega) ?_
        exact W.zret (v := (0 : Int32)) hx hb hr rfl (fun t ht hW => ⟨⟨_, (vp_updL la_differs (p0).toNatClampNeg r_5), rfl, Option.some.inj h, by rw [ht]; exact hP, va_K.moved hW.alike hK, hD⟩, hS.F ht⟩) hS.2.2 d_Top_refine_111
      · have h := if_f h c_3
        refine lv_iconst (v := 1) hx hb d_Top_refine_106 (by decide) ?_
        refine lv_goto (tgt := 111) hx hb d_Top_refine_107 (by decide) ?_
        subst eQ
        refine x_ret ?_
        refine W.widen (k := 1) (n := 6) (by omega) (by omega) ?_
        exact W.zret (v := (1 : Int32)) hx hb hr rfl (fun t ht hW => ⟨⟨_, (vp_updL la_differs (p0).toNatClampNeg r_5), rfl, Option.some.inj h, by rw [ht]; exact hP, va_K.moved hW.alike hK, hD⟩, hS.F ht⟩) hS.2.2 d_Top_refine_111
    · have h := if_t h c_2
      exact w_j32 _ h (lv_sub hl [] rfl)
set_option maxHeartbeats 4000000 in
set_option maxRecDepth 100000 in
theorem c_Top_way (l : Launch) (dC : Nat → ClassId) (dI : Nat → Nat → Nat) (h_tr : Nat) (h_la : Nat) (h_la_ways : Nat) (c_la_ways : ClassId) (u_tr_kind : Value) (u_tr_symbols : Value) (u_tr_page : Value) (u_tr_toldBytes : Value) (u_tr_cameBytes : Value) (u_tr_teller : Value) (u_tr_reader : Value) (u_tr_spare : Value) (u_tr_refusedAt : Value) (u_la_symbols : Value) (u_la_symbolOf : Value) (u_la_xs : Value) (u_la_ys : Value) (u_la_differs : Value) (u_la_sequence : Value) (u_la_count : Value) (la_ways : (Nat → Int32)) (p0 : Int32) (p1 : Int32) (sz : Nat) (hlt : l.stackTraces = false) (o : String ⊕ (Int32 × (Nat → Int32))) (hf : f_Top_way la_ways p0 p1 = some o) :
    XMet l y_Top_way ws_Top_way { frames := 6, cells := 1, slots := 6, locals := 110 } (va_Pc [.ref h_tr, .int p0, .int p1] (fun U => (PcS (dC, dI) [(h_tr, .inr (0, [u_tr_kind, u_tr_symbols, u_tr_page, u_tr_toldBytes, u_tr_cameBytes, u_tr_teller, u_tr_reader, .ref h_la, u_tr_spare, u_tr_refusedAt])), (h_la, .inr (8, [u_la_symbols, .ref h_la_ways, u_la_symbolOf, u_la_xs, u_la_ys, u_la_differs, u_la_sequence, u_la_count])), (h_la_ways, .inl (c_la_ways, 4, .inl la_ways))] [(c_la_ways, .int)] sz) U ∧ xw U))
      (va_Qi (fun (r : Int32) (u : (Nat → Int32)) => (.inr (r, u) : String ⊕ (Int32 × (Nat → Int32))) = o) (fun u t => va_P (dC, dI) CL [(h_tr, .inr (0, [u_tr_kind, u_tr_symbols, u_tr_page, u_tr_toldBytes, u_tr_cameBytes, u_tr_teller, u_tr_reader, .ref h_la, u_tr_spare, u_tr_refusedAt])), (h_la, .inr (8, [u_la_symbols, .ref h_la_ways, u_la_symbolOf, u_la_xs, u_la_ys, u_la_differs, u_la_sequence, u_la_count])), (h_la_ways, .inl (c_la_ways, 4, .inl u))] t.heap ∧ va_K (dC, dI) CL [(c_la_ways, .int)] t ∧ va_D (va_A [(h_tr, .inr (0, [u_tr_kind, u_tr_symbols, u_tr_page, u_tr_toldBytes, u_tr_cameBytes, u_tr_teller, u_tr_reader, .ref h_la, u_tr_spare, u_tr_refusedAt])), (h_la, .inr (8, [u_la_symbols, .ref h_la_ways, u_la_symbolOf, u_la_xs, u_la_ys, u_la_differs, u_la_sequence, u_la_count])), (h_la_ways, .inl (c_la_ways, 4, .inl la_ways))] sz) [(h_tr, .inr (0, [u_tr_kind, u_tr_symbols, u_tr_page, u_tr_toldBytes, u_tr_cameBytes, u_tr_teller, u_tr_reader, .ref h_la, u_tr_spare, u_tr_refusedAt])), (h_la, .inr (8, [u_la_symbols, .ref h_la_ways, u_la_symbolOf, u_la_xs, u_la_ys, u_la_differs, u_la_sequence, u_la_count])), (h_la_ways, .inl (c_la_ways, 4, .inl u))]) (va_A [(h_tr, .inr (0, [u_tr_kind, u_tr_symbols, u_tr_page, u_tr_toldBytes, u_tr_cameBytes, u_tr_teller, u_tr_reader, .ref h_la, u_tr_spare, u_tr_refusedAt])), (h_la, .inr (8, [u_la_symbols, .ref h_la_ways, u_la_symbolOf, u_la_xs, u_la_ys, u_la_differs, u_la_sequence, u_la_count])), (h_la_ways, .inl (c_la_ways, 4, .inl la_ways))] sz)) (fun cls => (.inl cls : String ⊕ (Int32 × (Nat → Int32))) = o) 1 6 (va_A [(h_tr, .inr (0, [u_tr_kind, u_tr_symbols, u_tr_page, u_tr_toldBytes, u_tr_cameBytes, u_tr_teller, u_tr_reader, .ref h_la, u_tr_spare, u_tr_refusedAt])), (h_la, .inr (8, [u_la_symbols, .ref h_la_ways, u_la_symbolOf, u_la_xs, u_la_ys, u_la_differs, u_la_sequence, u_la_count])), (h_la_ways, .inl (c_la_ways, 4, .inl la_ways))] sz) := by
  refine XMet.ofW (cc := b_Top_way) (maxL := 4) (ret := (some .int)) (by decide) rfl ?_
  intro p e s m args below meth c s₁ B hml hnt hv
  obtain ⟨e9, hv, hxw⟩ := hv
  have hv := And.intro e9 hv
  clear e9
  obtain ⟨rfl, ⟨hsz, hP, hK, hD0, hnw⟩, hst⟩ := hv
  have hx := B.exec
  have hb := B.bytes
  have hr := B.returns
  have hts := atoms_spec (ws := ws_Top_way) B.pre
  have hB : ∀ w ∈ BIG, w.before _ s = true := fun w h => hts w (List.mem_cons_of_mem _ h)
  have hown : s.vm.findClass R_Top = some m.cls := findClass_of_methodNamed B.named
  have hlocks := B.notSynchronized
  subst hsz
  have hD := hD0.self (sz := s.heap.size)
  refine W_Q (fun Q9 eQ => ?_)
  generalize hAe : va_A [(h_tr, .inr (0, [u_tr_kind, u_tr_symbols, u_tr_page, u_tr_toldBytes, u_tr_cameBytes, u_tr_teller, u_tr_reader, .ref h_la, u_tr_spare, u_tr_refusedAt])), (h_la, .inr (8, [u_la_symbols, .ref h_la_ways, u_la_symbolOf, u_la_xs, u_la_ys, u_la_differs, u_la_sequence, u_la_count])), (h_la_ways, .inl (c_la_ways, 4, .inl la_ways))] s.heap.size = A at hD eQ hst
  obtain ⟨⟨h_st_MOST_OF_WAY, hz_MOST_OF_WAY, ht_MOST_OF_WAY⟩, ⟨h_st_BITS_OF_WAY, hz_BITS_OF_WAY, ht_BITS_OF_WAY⟩, ⟨h_st_WAYS_AS_TOLD, hz_WAYS_AS_TOLD, ht_WAYS_AS_TOLD⟩⟩ := id hst
  have hA : ∀ q : Nat, s.heap.size ≤ q → A q := fun q h => by rw [← hAe]; exact Or.inr h
  have hS : va_S A s.heap s.heap [] := va_S.rf
  have hl := lv_entry ([.ref h_tr, .int p0, .int p1]) (n := 4) (Nat.le_of_ble_eq_true rfl)
  rw [lg_entry_eq]
  generalize (lg_sl ([.ref h_tr, .int p0, .int p1]) ++ List.replicate (4 - (lg_sl ([.ref h_tr, .int p0, .int p1])).length) Slot.unset).toArray = ls at hl ⊢
  have hl : lv_has ls 4 [(0, .ref h_tr), (1, .int p0), (2, .int p1)] := hl
  have h := hf
  unfold f_Top_way at h
  refine lv_iload_n hx hb d_Top_way_0 rfl (lv_at hl 1 rfl) ?_
  refine lv_iconst (v := 0) hx hb d_Top_way_1 (by decide) ?_
  refine lv_iconst (v := 3) hx hb d_Top_way_2 (by decide) ?_
  obtain ⟨o9, hc9, h⟩ := bd_e h
  have hPc := hP.sub (ws' := []) [] rfl
  have hKc := hK.sub (tys' := []) [] rfl
  refine vp_callSi (va_Run.run (va_runS (As := [.int p0, .int (0 : Int32), .int (3 : Int32)]) (rest := []) ⟨hx, hb, hml, hown, hB⟩ (c_Top_isWithin l dC dI p0 (0 : Int32) (3 : Int32) o9 hc9) (va_cwS 3 hB (goodA (m3 bw_600 bw_343 bw_1) (goodB bw_344)) rfl rfl rfl (by decide +kernel) ⟨Nat.le_of_ble_eq_true rfl, Nat.le_of_ble_eq_true rfl⟩) ⟨fb_p, (pre_p hPc hKc hnw [.int p0, .int (0 : Int32), .int (3 : Int32)])⟩ rfl rfl hl.1 rfl (lv_room (Nat.le_of_ble_eq_true rfl)) d_Top_way_3 ⟨Nat.zero_le _, Nat.zero_le _⟩)) (fun r_1 e_r_1 => ?_)
  subst e_r_1
  clear hPc hKc hc9
  obtain ⟨j22, e_j22, h⟩ := jn_e h
  have w_j22 : ∀ (ls : Array Slot), j22 () = some o → lv_has ls 4 [] → W p l e ({ frames := 6, cells := 1, slots := 6, locals := 110 } : Room) s m ([.ref h_tr, .int p0, .int p1] : List Value).toArray below meth c s.heap [] 0 0 Q9 (F0 m 22 ls []) := by
    intro ls h hl
    rw [e_j22] at h
    subst eQ
    refine th_new (names := ["java/lang/RuntimeException", "java/lang/Exception"]) hx hb hlt hown (by decide +kernel) (by decide +kernel) (hB _ bw_644) (hB _ bw_17) (x_str hxw bx_800) (x_own hB hxw ow_98) (hl.1.trans hml.symm) d_Top_way_22 d_Top_way_25 d_Top_way_26 d_Top_way_28 d_Top_way_31 (fun x hx9 => (hnt x hx9).elim) (Nat.le_of_ble_eq_true rfl) (Nat.le_of_ble_eq_true rfl) (Nat.le_of_ble_eq_true rfl) (Nat.le_of_ble_eq_true rfl) hlocks (fun U hU => x_out (cls := "java/lang/IllegalArgumentException") ?_ hU)
    exact Option.some.inj h
  refine lv_if_eq (tgt := 22) hx hb d_Top_way_6 (by decide) (fun c_1 => ?_) (fun c_1 => ?_)
  · have h := if_t h c_1
    exact w_j22 _ h (lv_sub hl [] rfl)
  · have h := if_f h c_1
    refine lv_iload_n hx hb d_Top_way_9 rfl (lv_at hl 2 rfl) ?_
    refine lv_iconst (v := 0) hx hb d_Top_way_10 (by decide) ?_
    refine va_gets hx hb hz_MOST_OF_WAY hS hown (hB _ bw_799) (fun _ h9 => h9) d_Top_way_11 ?_
    refine lv_iload_n hx hb d_Top_way_14 rfl (lv_at hl 1 rfl) ?_
    obtain ⟨hin, h⟩ := gq_e h
    refine va_ti hx hb ht_MOST_OF_WAY hS hin (v := .int (tb_MOST_OF_WAY (p0).toNatClampNeg)) rfl d_Top_way_15 ?_
    obtain ⟨o9, hc9, h⟩ := bd_e h
    have hPc := hP.sub (ws' := []) [] rfl
    have hKc := hK.sub (tys' := []) [] rfl
    refine vp_callSi (va_Run.run (va_runS (As := [.int p1, .int (0 : Int32), .int (tb_MOST_OF_WAY (p0).toNatClampNeg)]) (rest := []) ⟨hx, hb, hml, hown, hB⟩ (c_Top_isWithin l dC dI p1 (0 : Int32) (tb_MOST_OF_WAY (p0).toNatClampNeg) o9 hc9) (va_cwS 3 hB (goodA (m3 bw_600 bw_343 bw_1) (goodB bw_344)) rfl rfl rfl (by decide +kernel) ⟨Nat.le_of_ble_eq_true rfl, Nat.le_of_ble_eq_true rfl⟩) ⟨fb_p, (pre_p hPc hKc hnw [.int p1, .int (0 : Int32), .int (tb_MOST_OF_WAY (p0).toNatClampNeg)])⟩ rfl rfl hl.1 rfl (lv_room (Nat.le_of_ble_eq_true rfl)) d_Top_way_16 ⟨Nat.zero_le _, Nat.zero_le _⟩)) (fun r_2 e_r_2 => ?_)
    subst e_r_2
    clear hPc hKc hc9
    refine lv_if_ne (tgt := 32) hx hb d_Top_way_19 (by decide) (fun c_2 => ?_) (fun c_2 => ?_)
    · have h := if_f h c_2
      refine lv_aload_n hx hb d_Top_way_32 rfl (lv_at hl 0 rfl) ?_
      refine va_get (D := (dC, dI)) (ci := 0) (v := .ref h_la) (C := R_Top) (T := T_Top) (N := 10) hx hb hB iw_Top hown hK hP 0 rfl rfl 7 (by decide) (hB _ bw_267) (fun _ h9 => h9) rfl d_Top_way_33 ?_
      refine va_getN (D := (dC, dI)) (ci := 8) (v := .ref h_la_ways) (C := R_Layout) (T := T_Layout) (N := 8) hx hb hB iw_Layout hown hK hP 1 rfl rfl 1 (by decide) (va_Nw.use rfl (hnw.1 _ bn_217)) (fun _ h9 => h9) rfl d_Top_way_36 ?_
      refine lv_iload_n hx hb d_Top_way_39 rfl (lv_at hl 1 rfl) ?_
      obtain ⟨hin, h⟩ := gq_e h
      refine va_iald hx hb hK hP 2 0 rfl rfl hin d_Top_way_40 ?_
      refine lv_topi (fun v3_3 e_v3_3 => ?_)
      have h := nl_u e_v3_3 h
      refine lv_istore_n (lv' := [(3, .int v3_3), (0, .ref h_tr), (1, .int p0), (2, .int p1)]) hx hb d_Top_way_41 rfl hl (by decide) rfl (fun ls hl => ?_)
      refine lv_aload_n hx hb d_Top_way_42 rfl (lv_at hl 1 rfl) ?_
      refine va_get (D := (dC, dI)) (ci := 0) (v := .ref h_la) (C := R_Top) (T := T_Top) (N := 10) hx hb hB iw_Top hown hK hP 0 rfl rfl 7 (by decide) (hB _ bw_267) (fun _ h9 => h9) rfl d_Top_way_43 ?_
      refine va_getN (D := (dC, dI)) (ci := 8) (v := .ref h_la_ways) (C := R_Layout) (T := T_Layout) (N := 8) hx hb hB iw_Layout hown hK hP 1 rfl rfl 1 (by decide) (va_Nw.use rfl (hnw.1 _ bn_217)) (fun _ h9 => h9) rfl d_Top_way_46 ?_
      refine lv_iload_n hx hb d_Top_way_49 rfl (lv_at hl 2 rfl) ?_
      refine lv_iload_n hx hb d_Top_way_50 rfl (lv_at hl 3 rfl) ?_
      obtain ⟨hin, h⟩ := gq_e h
      refine va_iast hx hb hK hP hD hS 2 0 rfl rfl hin d_Top_way_51 (fun H locs hP hD hS => ?_)
      have hP : va_P (dC, dI) CL [(h_tr, .inr (0, [u_tr_kind, u_tr_symbols, u_tr_page, u_tr_toldBytes, u_tr_cameBytes, u_tr_teller, u_tr_reader, .ref h_la, u_tr_spare, u_tr_refusedAt])), (h_la, .inr (8, [u_la_symbols, .ref h_la_ways, u_la_symbolOf, u_la_xs, u_la_ys, u_la_differs, u_la_sequence, u_la_count])), (h_la_ways, .inl (c_la_ways, 4, .inl (upd la_ways (p0).toNatClampNeg p1)))] H := hP
      have hD : va_D A [(h_tr, .inr (0, [u_tr_kind, u_tr_symbols, u_tr_page, u_tr_toldBytes, u_tr_cameBytes, u_tr_teller, u_tr_reader, .ref h_la, u_tr_spare, u_tr_refusedAt])), (h_la, .inr (8, [u_la_symbols, .ref h_la_ways, u_la_symbolOf, u_la_xs, u_la_ys, u_la_differs, u_la_sequence, u_la_count])), (h_la_ways, .inl (c_la_ways, 4, .inl (upd la_ways (p0).toNatClampNeg p1)))] := hD
      refine lv_iload_n hx hb d_Top_way_52 rfl (lv_at hl 0 rfl) ?_
      subst eQ
      refine x_ret ?_
      refine W.widen (k := 1) (n := 6) (by omega) (by omega) ?_
      exact W.iret (v := v3_3) hx hb hr (fun t ht hW => ⟨⟨_, (upd la_ways (p0).toNatClampNeg p1), rfl, Option.some.inj h, by rw [ht]; exact hP, va_K.moved hW.alike hK, hD⟩, hS.F ht⟩) hS.2.2 d_Top_way_53
    · have h := if_t h c_2
      exact w_j22 _ h (lv_sub hl [] rfl)
set_option maxHeartbeats 4000000 in
set_option maxRecDepth 100000 in
theorem c_Top_at (l : Launch) (dC : Nat → ClassId) (dI : Nat → Nat → Nat) (h_tr : Nat) (h_pg : Nat) (h_pg_dark : Nat) (c_pg_dark : ClassId) (u_tr_kind : Value) (u_tr_symbols : Value) (u_tr_toldBytes : Value) (u_tr_cameBytes : Value) (u_tr_teller : Value) (u_tr_reader : Value) (u_tr_layout : Value) (u_tr_spare : Value) (u_tr_refusedAt : Value) (pg_width : Int32) (pg_height : Int32) (n_pg_dark : Nat) (pg_dark : (Nat → Int32)) (p0 : Int32) (p1 : Int32) (hlt : l.stackTraces = false) (o : String ⊕ (Int32)) (hf : f_Top_at pg_width pg_height n_pg_dark pg_dark p0 p1 = some o) :
    XMet l y_Top_at ws_Top_at { frames := 6, cells := 1, slots := 6, locals := 110 } (va_Pc [.ref h_tr, .int p0, .int p1] (fun U => (PcP (dC, dI) [(h_tr, .inr (0, [u_tr_kind, u_tr_symbols, .ref h_pg, u_tr_toldBytes, u_tr_cameBytes, u_tr_teller, u_tr_reader, u_tr_layout, u_tr_spare, u_tr_refusedAt])), (h_pg, .inr (9, [.int pg_width, .int pg_height, .ref h_pg_dark])), (h_pg_dark, .inl (c_pg_dark, n_pg_dark, .inl pg_dark))] [(c_pg_dark, .boolean)]) U ∧ xw U))
      (vp_Si (fun r => (.inr r : String ⊕ (Int32)) = o)) (fun cls => (.inl cls : String ⊕ (Int32)) = o) 1 6 (fun _ => False) := by
  refine XMet.ofW (cc := b_Top_at) (maxL := 3) (ret := (some .boolean)) (by decide) rfl ?_
  intro p e s m args below meth c s₁ B hml hnt hv
  obtain ⟨e9, hv, hxw⟩ := hv
  have hv := And.intro e9 hv
  clear e9
  obtain ⟨rfl, hP, hK, hnw⟩ := hv
  have hx := B.exec
  have hb := B.bytes
  have hr := B.returns
  have hts := atoms_spec (ws := ws_Top_at) B.pre
  have hB : ∀ w ∈ BIG, w.before _ s = true := fun w h => hts w (List.mem_cons_of_mem _ h)
  have hown : s.vm.findClass R_Top = some m.cls := findClass_of_methodNamed B.named
  have hlocks := B.notSynchronized
  refine W_Q (fun Q9 eQ => ?_)
  have hl := lv_entry ([.ref h_tr, .int p0, .int p1]) (n := 3) (Nat.le_of_ble_eq_true rfl)
  rw [lg_entry_eq]
  generalize (lg_sl ([.ref h_tr, .int p0, .int p1]) ++ List.replicate (3 - (lg_sl ([.ref h_tr, .int p0, .int p1])).length) Slot.unset).toArray = ls at hl ⊢
  have hl : lv_has ls 3 [(0, .ref h_tr), (1, .int p0), (2, .int p1)] := hl
  have h := hf
  unfold f_Top_at at h
  refine lv_aload_n hx hb d_Top_at_0 rfl (lv_at hl 0 rfl) ?_
  refine va_get (D := (dC, dI)) (ci := 0) (v := .ref h_pg) (C := R_Top) (T := T_Top) (N := 10) hx hb hB iw_Top hown hK hP 0 rfl rfl 2 (by decide) (hB _ bw_262) (fun _ h9 => h9) rfl d_Top_at_1 ?_
  refine lv_iload_n hx hb d_Top_at_4 rfl (lv_at hl 1 rfl) ?_
  refine lv_iload_n hx hb d_Top_at_5 rfl (lv_at hl 2 rfl) ?_
  obtain ⟨o9, hc9, h⟩ := bd_e h
  have hPc := hP.sub (ws' := [(h_pg, .inr (9, [.int pg_width, .int pg_height, .ref h_pg_dark]))]) [1] rfl
  have hKc := hK.sub (tys' := []) [] rfl
  refine vp_callSi (va_Run.run (va_runVN (As := [.int p0, .int p1]) (rest := []) ⟨hx, hb, hml, hown, hB⟩ (c_Page_has l dC dI h_pg (.ref h_pg_dark) pg_width pg_height p0 p1 o9 hc9) ⟨va_cnB 2 hB (goodB bw_341) rfl rfl rfl (hnw.1 _ bn_825) (hB _ bw_4) (by decide +kernel) ⟨Nat.le_of_ble_eq_true rfl, Nat.le_of_ble_eq_true rfl⟩, hB _ bw_340, hB _ bs_10⟩ ⟨fb_p, va_recv hK hP (ci := 9) (q0 := 1) rfl rfl, (pre_p hPc hKc hnw [.ref h_pg, .int p0, .int p1])⟩ rfl rfl hl.1 rfl (lv_room (Nat.le_of_ble_eq_true rfl)) d_Top_at_6 ⟨Nat.zero_le _, Nat.zero_le _⟩)) (fun r_1 e_r_1 => ?_)
  subst e_r_1
  clear hPc hKc hc9
  refine lv_if_ne (tgt := 22) hx hb d_Top_at_9 (by decide) (fun c_1 => ?_) (fun c_1 => ?_)
  · have h := if_f h c_1
    refine lv_aload_n hx hb d_Top_at_22 rfl (lv_at hl 0 rfl) ?_
    refine va_get (D := (dC, dI)) (ci := 0) (v := .ref h_pg) (C := R_Top) (T := T_Top) (N := 10) hx hb hB iw_Top hown hK hP 0 rfl rfl 2 (by decide) (hB _ bw_262) (fun _ h9 => h9) rfl d_Top_at_23 ?_
    refine va_getN (D := (dC, dI)) (ci := 9) (v := .ref h_pg_dark) (C := R_Page) (T := T_Page) (N := 3) hx hb hB iw_Page hown hK hP 1 rfl rfl 2 (by decide) (va_Nw.use rfl (hnw.1 _ bn_79)) (fun _ h9 => h9) rfl d_Top_at_26 ?_
    refine lv_iload_n hx hb d_Top_at_29 rfl (lv_at hl 2 rfl) ?_
    refine lv_aload_n hx hb d_Top_at_30 rfl (lv_at hl 0 rfl) ?_
    refine va_get (D := (dC, dI)) (ci := 0) (v := .ref h_pg) (C := R_Top) (T := T_Top) (N := 10) hx hb hB iw_Top hown hK hP 0 rfl rfl 2 (by decide) (hB _ bw_262) (fun _ h9 => h9) rfl d_Top_at_31 ?_
    refine va_getN (D := (dC, dI)) (ci := 9) (v := .int pg_width) (C := R_Page) (T := T_Page) (N := 3) hx hb hB iw_Page hown hK hP 1 rfl rfl 0 (by decide) (va_Nw.use rfl (hnw.1 _ bn_75)) (fun _ h9 => h9) rfl d_Top_at_34 ?_
    refine lv_imul hx hb d_Top_at_37 ?_
    refine lv_iload_n hx hb d_Top_at_38 rfl (lv_at hl 1 rfl) ?_
    refine lv_iadd hx hb d_Top_at_39 ?_
    obtain ⟨hin, h⟩ := gq_e h
    refine va_zald hx hb hK hP 2 0 rfl rfl hin d_Top_at_40 ?_
    subst eQ
    obtain ⟨hz, h⟩ := bz_e h
    refine x_ret ?_
    refine W.widen (k := 1) (n := 6) (by omega) (by omega) ?_
    exact W.zret (v := (pg_dark (((p1 * pg_width) + p0)).toNatClampNeg)) hx hb hr (bz_n hz) (fun t ht hW => ⟨_, rfl, Option.some.inj h, ht⟩) (fun _ h9 => absurd h9 List.not_mem_nil) d_Top_at_41
  · have h := if_t h c_1
    subst eQ
    refine th_new (names := ["java/lang/RuntimeException", "java/lang/Exception"]) hx hb hlt hown (by decide +kernel) (by decide +kernel) (hB _ bw_749) (hB _ bw_19) (x_str hxw bx_826) (x_own hB hxw ow_124) (hl.1.trans hml.symm) d_Top_at_12 d_Top_at_15 d_Top_at_16 d_Top_at_18 d_Top_at_21 (fun x hx9 => (hnt x hx9).elim) (Nat.le_of_ble_eq_true rfl) (Nat.le_of_ble_eq_true rfl) (Nat.le_of_ble_eq_true rfl) (Nat.le_of_ble_eq_true rfl) hlocks (fun U hU => x_out (cls := "java/lang/IndexOutOfBoundsException") ?_ hU)
    exact Option.some.inj h
set_option maxHeartbeats 4000000 in
set_option maxRecDepth 100000 in
theorem c_Top_byteAt (l : Launch) (dC : Nat → ClassId) (dI : Nat → Nat → Nat) (h_tr : Nat) (h_tb : Nat) (h_tb_bytes : Nat) (c_tb_bytes : ClassId) (u_tr_kind : Value) (u_tr_symbols : Value) (u_tr_page : Value) (u_tr_cameBytes : Value) (u_tr_teller : Value) (u_tr_reader : Value) (u_tr_layout : Value) (u_tr_spare : Value) (u_tr_refusedAt : Value) (tb_count : Int32) (tb_bytes : (Nat → Int32)) (p0 : Int32) (hlt : l.stackTraces = false) (o : String ⊕ (Int32)) (hf : f_Top_byteAt tb_count tb_bytes p0 = some o) :
    XMet l y_Top_byteAt ws_Top_byteAt { frames := 6, cells := 1, slots := 6, locals := 110 } (va_Pc [.ref h_tr, .int p0] (fun U => (PcP (dC, dI) [(h_tr, .inr (0, [u_tr_kind, u_tr_symbols, u_tr_page, .ref h_tb, u_tr_cameBytes, u_tr_teller, u_tr_reader, u_tr_layout, u_tr_spare, u_tr_refusedAt])), (h_tb, .inr (4, [.ref h_tb_bytes, .int tb_count])), (h_tb_bytes, .inl (c_tb_bytes, 2000, .inl tb_bytes))] [(c_tb_bytes, .int)]) U ∧ xw U))
      (vp_Si (fun r => (.inr r : String ⊕ (Int32)) = o)) (fun cls => (.inl cls : String ⊕ (Int32)) = o) 1 6 (fun _ => False) := by
  refine XMet.ofW (cc := b_Top_byteAt) (maxL := 2) (ret := (some .int)) (by decide) rfl ?_
  intro p e s m args below meth c s₁ B hml hnt hv
  obtain ⟨e9, hv, hxw⟩ := hv
  have hv := And.intro e9 hv
  clear e9
  obtain ⟨rfl, hP, hK, hnw⟩ := hv
  have hx := B.exec
  have hb := B.bytes
  have hr := B.returns
  have hts := atoms_spec (ws := ws_Top_byteAt) B.pre
  have hB : ∀ w ∈ BIG, w.before _ s = true := fun w h => hts w (List.mem_cons_of_mem _ h)
  have hown : s.vm.findClass R_Top = some m.cls := findClass_of_methodNamed B.named
  have hlocks := B.notSynchronized
  refine W_Q (fun Q9 eQ => ?_)
  have hl := lv_entry ([.ref h_tr, .int p0]) (n := 2) (Nat.le_of_ble_eq_true rfl)
  rw [lg_entry_eq]
  generalize (lg_sl ([.ref h_tr, .int p0]) ++ List.replicate (2 - (lg_sl ([.ref h_tr, .int p0])).length) Slot.unset).toArray = ls at hl ⊢
  have hl : lv_has ls 2 [(0, .ref h_tr), (1, .int p0)] := hl
  have h := hf
  unfold f_Top_byteAt at h
  refine lv_iload_n hx hb d_Top_byteAt_0 rfl (lv_at hl 1 rfl) ?_
  refine lv_iconst (v := 0) hx hb d_Top_byteAt_1 (by decide) ?_
  refine lv_aload_n hx hb d_Top_byteAt_2 rfl (lv_at hl 0 rfl) ?_
  refine va_get (D := (dC, dI)) (ci := 0) (v := .ref h_tb) (C := R_Top) (T := T_Top) (N := 10) hx hb hB iw_Top hown hK hP 0 rfl rfl 3 (by decide) (hB _ bw_263) (fun _ h9 => h9) rfl d_Top_byteAt_3 ?_
  refine va_getN (D := (dC, dI)) (ci := 4) (v := .int tb_count) (C := R_ByteRow) (T := T_ByteRow) (N := 2) hx hb hB iw_ByteRow hown hK hP 1 rfl rfl 1 (by decide) (va_Nw.use rfl (hnw.1 _ bn_101)) (fun _ h9 => h9) rfl d_Top_byteAt_6 ?_
  refine lv_iconst (v := 1) hx hb d_Top_byteAt_9 (by decide) ?_
  refine lv_isub hx hb d_Top_byteAt_10 ?_
  obtain ⟨o9, hc9, h⟩ := bd_e h
  have hPc := hP.sub (ws' := []) [] rfl
  have hKc := hK.sub (tys' := []) [] rfl
  refine vp_callSi (va_Run.run (va_runS (As := [.int p0, .int (0 : Int32), .int (tb_count - (1 : Int32))]) (rest := []) ⟨hx, hb, hml, hown, hB⟩ (c_Top_isWithin l dC dI p0 (0 : Int32) (tb_count - (1 : Int32)) o9 hc9) (va_cwS 3 hB (goodA (m3 bw_600 bw_343 bw_1) (goodB bw_344)) rfl rfl rfl (by decide +kernel) ⟨Nat.le_of_ble_eq_true rfl, Nat.le_of_ble_eq_true rfl⟩) ⟨fb_p, (pre_p hPc hKc hnw [.int p0, .int (0 : Int32), .int (tb_count - (1 : Int32))])⟩ rfl rfl hl.1 rfl (lv_room (Nat.le_of_ble_eq_true rfl)) d_Top_byteAt_11 ⟨Nat.zero_le _, Nat.zero_le _⟩)) (fun r_1 e_r_1 => ?_)
  subst e_r_1
  clear hPc hKc hc9
  refine lv_if_ne (tgt := 27) hx hb d_Top_byteAt_14 (by decide) (fun c_1 => ?_) (fun c_1 => ?_)
  · have h := if_f h c_1
    refine lv_aload_n hx hb d_Top_byteAt_27 rfl (lv_at hl 0 rfl) ?_
    refine va_get (D := (dC, dI)) (ci := 0) (v := .ref h_tb) (C := R_Top) (T := T_Top) (N := 10) hx hb hB iw_Top hown hK hP 0 rfl rfl 3 (by decide) (hB _ bw_263) (fun _ h9 => h9) rfl d_Top_byteAt_28 ?_
    refine va_getN (D := (dC, dI)) (ci := 4) (v := .ref h_tb_bytes) (C := R_ByteRow) (T := T_ByteRow) (N := 2) hx hb hB iw_ByteRow hown hK hP 1 rfl rfl 0 (by decide) (va_Nw.use rfl (hnw.1 _ bn_97)) (fun _ h9 => h9) rfl d_Top_byteAt_31 ?_
    refine lv_iload_n hx hb d_Top_byteAt_34 rfl (lv_at hl 1 rfl) ?_
    obtain ⟨hin, h⟩ := gq_e h
    refine va_iald hx hb hK hP 2 0 rfl rfl hin d_Top_byteAt_35 ?_
    subst eQ
    refine x_ret ?_
    refine W.widen (k := 1) (n := 6) (by omega) (by omega) ?_
    exact W.iret (v := (tb_bytes (p0).toNatClampNeg)) hx hb hr (fun t ht hW => ⟨_, rfl, Option.some.inj h, ht⟩) (fun _ h9 => absurd h9 List.not_mem_nil) d_Top_byteAt_36
  · have h := if_t h c_1
    subst eQ
    refine th_new (names := ["java/lang/RuntimeException", "java/lang/Exception"]) hx hb hlt hown (by decide +kernel) (by decide +kernel) (hB _ bw_749) (hB _ bw_19) (x_str hxw bx_834) (x_own hB hxw ow_124) (hl.1.trans hml.symm) d_Top_byteAt_17 d_Top_byteAt_20 d_Top_byteAt_21 d_Top_byteAt_23 d_Top_byteAt_26 (fun x hx9 => (hnt x hx9).elim) (Nat.le_of_ble_eq_true rfl) (Nat.le_of_ble_eq_true rfl) (Nat.le_of_ble_eq_true rfl) (Nat.le_of_ble_eq_true rfl) hlocks (fun U hU => x_out (cls := "java/lang/IndexOutOfBoundsException") ?_ hU)
    exact Option.some.inj h
set_option maxHeartbeats 4000000 in
set_option maxRecDepth 100000 in
theorem c_Top_feed (l : Launch) (dC : Nat → ClassId) (dI : Nat → Nat → Nat) (h_tr : Nat) (h_cb : Nat) (h_cb_bytes : Nat) (c_cb_bytes : ClassId) (u_tr_kind : Value) (u_tr_symbols : Value) (u_tr_page : Value) (u_tr_toldBytes : Value) (u_tr_teller : Value) (u_tr_reader : Value) (u_tr_layout : Value) (u_tr_spare : Value) (u_tr_refusedAt : Value) (cb_count : Int32) (cb_bytes : (Nat → Int32)) (p0 : Int32) (sz : Nat) (hlt : l.stackTraces = false) (o : String ⊕ (Int32 × Int32 × (Nat → Int32))) (hf : f_Top_feed cb_count cb_bytes p0 = some o) :
    XMet l y_Top_feed ws_Top_feed { frames := 6, cells := 1, slots := 6, locals := 110 } (va_Pc [.ref h_tr, .int p0] (fun U => (PcM (dC, dI) [(h_tr, .inr (0, [u_tr_kind, u_tr_symbols, u_tr_page, u_tr_toldBytes, .ref h_cb, u_tr_teller, u_tr_reader, u_tr_layout, u_tr_spare, u_tr_refusedAt])), (h_cb, .inr (4, [.ref h_cb_bytes, .int cb_count])), (h_cb_bytes, .inl (c_cb_bytes, 2000, .inl cb_bytes))] [(c_cb_bytes, .int)] sz) U ∧ xw U))
      (va_Qi (fun (r : Int32) (u : Int32 × (Nat → Int32)) => (.inr (r, u) : String ⊕ (Int32 × Int32 × (Nat → Int32))) = o) (fun u t => va_P (dC, dI) CL [(h_tr, .inr (0, [u_tr_kind, u_tr_symbols, u_tr_page, u_tr_toldBytes, .ref h_cb, u_tr_teller, u_tr_reader, u_tr_layout, u_tr_spare, u_tr_refusedAt])), (h_cb, .inr (4, [.ref h_cb_bytes, .int (u.1)])), (h_cb_bytes, .inl (c_cb_bytes, 2000, .inl (u.2)))] t.heap ∧ va_K (dC, dI) CL [(c_cb_bytes, .int)] t ∧ va_D (va_A [(h_tr, .inr (0, [u_tr_kind, u_tr_symbols, u_tr_page, u_tr_toldBytes, .ref h_cb, u_tr_teller, u_tr_reader, u_tr_layout, u_tr_spare, u_tr_refusedAt])), (h_cb, .inr (4, [.ref h_cb_bytes, .int cb_count])), (h_cb_bytes, .inl (c_cb_bytes, 2000, .inl cb_bytes))] sz) [(h_tr, .inr (0, [u_tr_kind, u_tr_symbols, u_tr_page, u_tr_toldBytes, .ref h_cb, u_tr_teller, u_tr_reader, u_tr_layout, u_tr_spare, u_tr_refusedAt])), (h_cb, .inr (4, [.ref h_cb_bytes, .int (u.1)])), (h_cb_bytes, .inl (c_cb_bytes, 2000, .inl (u.2)))]) (va_A [(h_tr, .inr (0, [u_tr_kind, u_tr_symbols, u_tr_page, u_tr_toldBytes, .ref h_cb, u_tr_teller, u_tr_reader, u_tr_layout, u_tr_spare, u_tr_refusedAt])), (h_cb, .inr (4, [.ref h_cb_bytes, .int cb_count])), (h_cb_bytes, .inl (c_cb_bytes, 2000, .inl cb_bytes))] sz)) (fun cls => (.inl cls : String ⊕ (Int32 × Int32 × (Nat → Int32))) = o) 1 6 (va_A [(h_tr, .inr (0, [u_tr_kind, u_tr_symbols, u_tr_page, u_tr_toldBytes, .ref h_cb, u_tr_teller, u_tr_reader, u_tr_layout, u_tr_spare, u_tr_refusedAt])), (h_cb, .inr (4, [.ref h_cb_bytes, .int cb_count])), (h_cb_bytes, .inl (c_cb_bytes, 2000, .inl cb_bytes))] sz) := by
  refine XMet.ofW (cc := b_Top_feed) (maxL := 2) (ret := (some .int)) (by decide) rfl ?_
  intro p e s m args below meth c s₁ B hml hnt hv
  obtain ⟨e9, hv, hxw⟩ := hv
  have hv := And.intro e9 hv
  clear e9
  obtain ⟨rfl, hsz, hP, hK, hD0, hnw⟩ := hv
  have hx := B.exec
  have hb := B.bytes
  have hr := B.returns
  have hts := atoms_spec (ws := ws_Top_feed) B.pre
  have hB : ∀ w ∈ BIG, w.before _ s = true := fun w h => hts w (List.mem_cons_of_mem _ h)
  have hown : s.vm.findClass R_Top = some m.cls := findClass_of_methodNamed B.named
  have hlocks := B.notSynchronized
  subst hsz
  have hD := hD0.self (sz := s.heap.size)
  refine W_Q (fun Q9 eQ => ?_)
  generalize hAe : va_A [(h_tr, .inr (0, [u_tr_kind, u_tr_symbols, u_tr_page, u_tr_toldBytes, .ref h_cb, u_tr_teller, u_tr_reader, u_tr_layout, u_tr_spare, u_tr_refusedAt])), (h_cb, .inr (4, [.ref h_cb_bytes, .int cb_count])), (h_cb_bytes, .inl (c_cb_bytes, 2000, .inl cb_bytes))] s.heap.size = A at hD eQ
  have hA : ∀ q : Nat, s.heap.size ≤ q → A q := fun q h => by rw [← hAe]; exact Or.inr h
  have hS : va_S A s.heap s.heap [] := va_S.rf
  have hl := lv_entry ([.ref h_tr, .int p0]) (n := 2) (Nat.le_of_ble_eq_true rfl)
  rw [lg_entry_eq]
  generalize (lg_sl ([.ref h_tr, .int p0]) ++ List.replicate (2 - (lg_sl ([.ref h_tr, .int p0])).length) Slot.unset).toArray = ls at hl ⊢
  have hl : lv_has ls 2 [(0, .ref h_tr), (1, .int p0)] := hl
  have h := hf
  unfold f_Top_feed at h
  refine lv_iload_n hx hb d_Top_feed_0 rfl (lv_at hl 1 rfl) ?_
  refine lv_iconst (v := 0) hx hb d_Top_feed_1 (by decide) ?_
  refine lv_sipush (v := 255) hx hb d_Top_feed_2 (by decide) ?_
  obtain ⟨o9, hc9, h⟩ := bd_e h
  have hPc := hP.sub (ws' := []) [] rfl
  have hKc := hK.sub (tys' := []) [] rfl
  refine vp_callSi (va_Run.run (va_runS (As := [.int p0, .int (0 : Int32), .int (255 : Int32)]) (rest := []) ⟨hx, hb, hml, hown, hB⟩ (c_Top_isWithin l dC dI p0 (0 : Int32) (255 : Int32) o9 hc9) (va_cwS 3 hB (goodA (m3 bw_600 bw_343 bw_1) (goodB bw_344)) rfl rfl rfl (by decide +kernel) ⟨Nat.le_of_ble_eq_true rfl, Nat.le_of_ble_eq_true rfl⟩) ⟨fb_p, (pre_p hPc hKc hnw [.int p0, .int (0 : Int32), .int (255 : Int32)])⟩ rfl rfl hl.1 rfl (lv_room (Nat.le_of_ble_eq_true rfl)) d_Top_feed_5 ⟨Nat.zero_le _, Nat.zero_le _⟩)) (fun r_1 e_r_1 => ?_)
  subst e_r_1
  clear hPc hKc hc9
  refine lv_if_ne (tgt := 21) hx hb d_Top_feed_8 (by decide) (fun c_1 => ?_) (fun c_1 => ?_)
  · have h := if_f h c_1
    refine lv_aload_n hx hb d_Top_feed_21 rfl (lv_at hl 0 rfl) ?_
    refine va_get (D := (dC, dI)) (ci := 0) (v := .ref h_cb) (C := R_Top) (T := T_Top) (N := 10) hx hb hB iw_Top hown hK hP 0 rfl rfl 4 (by decide) (hB _ bw_264) (fun _ h9 => h9) rfl d_Top_feed_22 ?_
    refine va_getN (D := (dC, dI)) (ci := 4) (v := .int cb_count) (C := R_ByteRow) (T := T_ByteRow) (N := 2) hx hb hB iw_ByteRow hown hK hP 1 rfl rfl 1 (by decide) (va_Nw.use rfl (hnw.1 _ bn_101)) (fun _ h9 => h9) rfl d_Top_feed_25 ?_
    refine lv_sipush (v := 2000) hx hb d_Top_feed_28 (by decide) ?_
    refine lv_icmp_lt (tgt := 44) hx hb d_Top_feed_31 (by decide) (fun c_2 => ?_) (fun c_2 => ?_)
    · have h := if_t h c_2
      refine lv_aload_n hx hb d_Top_feed_44 rfl (lv_at hl 0 rfl) ?_
      refine va_get (D := (dC, dI)) (ci := 0) (v := .ref h_cb) (C := R_Top) (T := T_Top) (N := 10) hx hb hB iw_Top hown hK hP 0 rfl rfl 4 (by decide) (hB _ bw_264) (fun _ h9 => h9) rfl d_Top_feed_45 ?_
      refine lv_iload_n hx hb d_Top_feed_48 rfl (lv_at hl 1 rfl) ?_
      obtain ⟨o9, hc9, h⟩ := bd_e h
      have hPc := hP.sub (ws' := [(h_cb, .inr (4, [.ref h_cb_bytes, .int cb_count])), (h_cb_bytes, .inl (c_cb_bytes, 2000, .inl cb_bytes))]) [1, 2] rfl
      have hKc := hK.sub (tys' := [(c_cb_bytes, .int)]) [0] rfl
      have hDc := hD.sub (ws' := [(h_cb, .inr (4, [.ref h_cb_bytes, .int cb_count])), (h_cb_bytes, .inl (c_cb_bytes, 2000, .inl cb_bytes))]) [1, 2] (by decide) rfl
      have hFc := va_free (wc := [(h_cb, .inr (4, [.ref h_cb_bytes, .int cb_count])), (h_cb_bytes, .inl (c_cb_bytes, 2000, .inl cb_bytes))]) hD hS hA [1, 2] rfl
      refine va_callv (va_runVN (As := [.int p0]) (rest := []) ⟨hx, hb, hml, hown, hB⟩ (c_ByteRow_append l dC dI h_cb h_cb_bytes c_cb_bytes cb_count cb_bytes p0 _ o9 hc9) ⟨va_cnB 1 hB (goodB bw_412) rfl rfl rfl (hnw.1 _ bn_844) (hB _ bw_5) (by decide +kernel) ⟨Nat.le_of_ble_eq_true rfl, Nat.le_of_ble_eq_true rfl⟩, hB _ bw_411, hB _ bs_21⟩ ⟨fb_m, va_recv hK hP (ci := 4) (q0 := 1) rfl rfl, (pre_m hPc hKc hDc hnw [.ref h_cb, .int p0])⟩ rfl rfl hl.1 rfl (lv_room (Nat.le_of_ble_eq_true rfl)) d_Top_feed_49 ⟨Nat.zero_le _, Nat.zero_le _⟩) hS (fun q _ h => hFc q h) hFc (fun u9 t H1 locs ht hvm hw hB hz1 hk1 hS => ?_)
      obtain ⟨cb_count_2, cb_bytes_3⟩ := u9
      subst hw
      obtain ⟨hP1, hK1, hD1⟩ := hB
      rw [ht] at hP1
      obtain ⟨hP, hD⟩ := va_join (wr := [(h_tr, .inr (0, [u_tr_kind, u_tr_symbols, u_tr_page, u_tr_toldBytes, .ref h_cb, u_tr_teller, u_tr_reader, u_tr_layout, u_tr_spare, u_tr_refusedAt]))]) (w1 := [(h_cb, .inr (4, [.ref h_cb_bytes, .int cb_count_2])), (h_cb_bytes, .inl (c_cb_bytes, 2000, .inl cb_bytes_3))]) hP hD [1, 2] [0] rfl rfl (by decide) (by decide) hk1 hFc hP1 hD1
      have hP := hP.sub (ws' := [(h_tr, .inr (0, [u_tr_kind, u_tr_symbols, u_tr_page, u_tr_toldBytes, .ref h_cb, u_tr_teller, u_tr_reader, u_tr_layout, u_tr_spare, u_tr_refusedAt])), (h_cb, .inr (4, [.ref h_cb_bytes, .int cb_count_2])), (h_cb_bytes, .inl (c_cb_bytes, 2000, .inl cb_bytes_3))]) [0, 1, 2] rfl
      have hD := hD.sub (ws' := [(h_tr, .inr (0, [u_tr_kind, u_tr_symbols, u_tr_page, u_tr_toldBytes, .ref h_cb, u_tr_teller, u_tr_reader, u_tr_layout, u_tr_spare, u_tr_refusedAt])), (h_cb, .inr (4, [.ref h_cb_bytes, .int cb_count_2])), (h_cb_bytes, .inl (c_cb_bytes, 2000, .inl cb_bytes_3))]) [0, 1, 2] (by decide) rfl
      clear hPc hKc hDc hFc hc9 hP1 hK1 hD1 hk1 hz1 hvm ht
      generalize H1 = H at hP hS ⊢
      try dsimp only at h
      refine lv_aload_n hx hb d_Top_feed_52 rfl (lv_at hl 0 rfl) ?_
      refine va_get (D := (dC, dI)) (ci := 0) (v := .ref h_cb) (C := R_Top) (T := T_Top) (N := 10) hx hb hB iw_Top hown hK hP 0 rfl rfl 4 (by decide) (hB _ bw_264) (fun _ h9 => h9) rfl d_Top_feed_53 ?_
      refine va_getN (D := (dC, dI)) (ci := 4) (v := .int cb_count_2) (C := R_ByteRow) (T := T_ByteRow) (N := 2) hx hb hB iw_ByteRow hown hK hP 1 rfl rfl 1 (by decide) (va_Nw.use rfl (hnw.1 _ bn_101)) (fun _ h9 => h9) rfl d_Top_feed_56 ?_
      subst eQ
      refine x_ret ?_
      refine W.widen (k := 1) (n := 6) (by omega) (by omega) ?_
      exact W.iret (v := cb_count_2) hx hb hr (fun t ht hW => ⟨⟨_, (cb_count_2, cb_bytes_3), rfl, Option.some.inj h, by rw [ht]; exact hP, va_K.moved hW.alike hK, hD⟩, hS.F ht⟩) hS.2.2 d_Top_feed_59
    · have h := if_f h c_2
      subst eQ
      refine th_new (names := ["java/lang/RuntimeException", "java/lang/Exception"]) hx hb hlt hown (by decide +kernel) (by decide +kernel) (hB _ bw_712) (hB _ bw_18) (x_str hxw bx_843) (x_own hB hxw ow_108) (hl.1.trans hml.symm) d_Top_feed_34 d_Top_feed_37 d_Top_feed_38 d_Top_feed_40 d_Top_feed_43 (fun x hx9 => (hnt x hx9).elim) (Nat.le_of_ble_eq_true rfl) (Nat.le_of_ble_eq_true rfl) (Nat.le_of_ble_eq_true rfl) (Nat.le_of_ble_eq_true rfl) hlocks (fun U hU => x_out (cls := "java/lang/UnsupportedOperationException") ?_ hU)
      exact Option.some.inj h
  · have h := if_t h c_1
    subst eQ
    refine th_new (names := ["java/lang/RuntimeException", "java/lang/Exception"]) hx hb hlt hown (by decide +kernel) (by decide +kernel) (hB _ bw_644) (hB _ bw_17) (x_str hxw bx_842) (x_own hB hxw ow_98) (hl.1.trans hml.symm) d_Top_feed_11 d_Top_feed_14 d_Top_feed_15 d_Top_feed_17 d_Top_feed_20 (fun x hx9 => (hnt x hx9).elim) (Nat.le_of_ble_eq_true rfl) (Nat.le_of_ble_eq_true rfl) (Nat.le_of_ble_eq_true rfl) (Nat.le_of_ble_eq_true rfl) hlocks (fun U hU => x_out (cls := "java/lang/IllegalArgumentException") ?_ hU)
    exact Option.some.inj h
set_option maxHeartbeats 4000000 in
set_option maxRecDepth 100000 in
theorem c_Top_pass (l : Launch) (dC : Nat → ClassId) (dI : Nat → Nat → Nat) (h_tr : Nat) (h_tb : Nat) (h_cb : Nat) (h_tb_bytes : Nat) (h_cb_bytes : Nat) (c_tb_bytes : ClassId) (c_cb_bytes : ClassId) (u_tr_kind : Value) (u_tr_symbols : Value) (u_tr_page : Value) (u_tr_teller : Value) (u_tr_reader : Value) (u_tr_layout : Value) (u_tr_spare : Value) (u_tr_refusedAt : Value) (tb_count : Int32) (cb_count : Int32) (tb_bytes : (Nat → Int32)) (cb_bytes : (Nat → Int32)) (sz : Nat) (hlt : l.stackTraces = false) (o : String ⊕ (Int32 × Int32 × (Nat → Int32))) (hf : f_Top_pass tb_count cb_count tb_bytes cb_bytes = some o) :
    XMet l y_Top_pass ws_Top_pass { frames := 6, cells := 1, slots := 6, locals := 110 } (va_Pc [.ref h_tr] (fun U => (PcM (dC, dI) [(h_tr, .inr (0, [u_tr_kind, u_tr_symbols, u_tr_page, .ref h_tb, .ref h_cb, u_tr_teller, u_tr_reader, u_tr_layout, u_tr_spare, u_tr_refusedAt])), (h_tb, .inr (4, [.ref h_tb_bytes, .int tb_count])), (h_cb, .inr (4, [.ref h_cb_bytes, .int cb_count])), (h_tb_bytes, .inl (c_tb_bytes, 2000, .inl tb_bytes)), (h_cb_bytes, .inl (c_cb_bytes, 2000, .inl cb_bytes))] [(c_tb_bytes, .int), (c_cb_bytes, .int)] sz) U ∧ xw U))
      (va_Qi (fun (r : Int32) (u : Int32 × (Nat → Int32)) => (.inr (r, u) : String ⊕ (Int32 × Int32 × (Nat → Int32))) = o) (fun u t => va_P (dC, dI) CL [(h_tr, .inr (0, [u_tr_kind, u_tr_symbols, u_tr_page, .ref h_tb, .ref h_cb, u_tr_teller, u_tr_reader, u_tr_layout, u_tr_spare, u_tr_refusedAt])), (h_tb, .inr (4, [.ref h_tb_bytes, .int tb_count])), (h_cb, .inr (4, [.ref h_cb_bytes, .int (u.1)])), (h_tb_bytes, .inl (c_tb_bytes, 2000, .inl tb_bytes)), (h_cb_bytes, .inl (c_cb_bytes, 2000, .inl (u.2)))] t.heap ∧ va_K (dC, dI) CL [(c_tb_bytes, .int), (c_cb_bytes, .int)] t ∧ va_D (va_A [(h_tr, .inr (0, [u_tr_kind, u_tr_symbols, u_tr_page, .ref h_tb, .ref h_cb, u_tr_teller, u_tr_reader, u_tr_layout, u_tr_spare, u_tr_refusedAt])), (h_tb, .inr (4, [.ref h_tb_bytes, .int tb_count])), (h_cb, .inr (4, [.ref h_cb_bytes, .int cb_count])), (h_tb_bytes, .inl (c_tb_bytes, 2000, .inl tb_bytes)), (h_cb_bytes, .inl (c_cb_bytes, 2000, .inl cb_bytes))] sz) [(h_tr, .inr (0, [u_tr_kind, u_tr_symbols, u_tr_page, .ref h_tb, .ref h_cb, u_tr_teller, u_tr_reader, u_tr_layout, u_tr_spare, u_tr_refusedAt])), (h_tb, .inr (4, [.ref h_tb_bytes, .int tb_count])), (h_cb, .inr (4, [.ref h_cb_bytes, .int (u.1)])), (h_tb_bytes, .inl (c_tb_bytes, 2000, .inl tb_bytes)), (h_cb_bytes, .inl (c_cb_bytes, 2000, .inl (u.2)))]) (va_A [(h_tr, .inr (0, [u_tr_kind, u_tr_symbols, u_tr_page, .ref h_tb, .ref h_cb, u_tr_teller, u_tr_reader, u_tr_layout, u_tr_spare, u_tr_refusedAt])), (h_tb, .inr (4, [.ref h_tb_bytes, .int tb_count])), (h_cb, .inr (4, [.ref h_cb_bytes, .int cb_count])), (h_tb_bytes, .inl (c_tb_bytes, 2000, .inl tb_bytes)), (h_cb_bytes, .inl (c_cb_bytes, 2000, .inl cb_bytes))] sz)) (fun cls => (.inl cls : String ⊕ (Int32 × Int32 × (Nat → Int32))) = o) 1 6 (va_A [(h_tr, .inr (0, [u_tr_kind, u_tr_symbols, u_tr_page, .ref h_tb, .ref h_cb, u_tr_teller, u_tr_reader, u_tr_layout, u_tr_spare, u_tr_refusedAt])), (h_tb, .inr (4, [.ref h_tb_bytes, .int tb_count])), (h_cb, .inr (4, [.ref h_cb_bytes, .int cb_count])), (h_tb_bytes, .inl (c_tb_bytes, 2000, .inl tb_bytes)), (h_cb_bytes, .inl (c_cb_bytes, 2000, .inl cb_bytes))] sz) := by
  refine XMet.ofW (cc := b_Top_pass) (maxL := 2) (ret := (some .int)) (by decide) rfl ?_
  intro p e s m args below meth c s₁ B hml hnt hv
  obtain ⟨e9, hv, hxw⟩ := hv
  have hv := And.intro e9 hv
  clear e9
  obtain ⟨rfl, hsz, hP, hK, hD0, hnw⟩ := hv
  have hx := B.exec
  have hb := B.bytes
  have hr := B.returns
  have hts := atoms_spec (ws := ws_Top_pass) B.pre
  have hB : ∀ w ∈ BIG, w.before _ s = true := fun w h => hts w (List.mem_cons_of_mem _ h)
  have hown : s.vm.findClass R_Top = some m.cls := findClass_of_methodNamed B.named
  have hlocks := B.notSynchronized
  subst hsz
  have hD := hD0.self (sz := s.heap.size)
  refine W_Q (fun Q9 eQ => ?_)
  generalize hAe : va_A [(h_tr, .inr (0, [u_tr_kind, u_tr_symbols, u_tr_page, .ref h_tb, .ref h_cb, u_tr_teller, u_tr_reader, u_tr_layout, u_tr_spare, u_tr_refusedAt])), (h_tb, .inr (4, [.ref h_tb_bytes, .int tb_count])), (h_cb, .inr (4, [.ref h_cb_bytes, .int cb_count])), (h_tb_bytes, .inl (c_tb_bytes, 2000, .inl tb_bytes)), (h_cb_bytes, .inl (c_cb_bytes, 2000, .inl cb_bytes))] s.heap.size = A at hD eQ
  have hA : ∀ q : Nat, s.heap.size ≤ q → A q := fun q h => by rw [← hAe]; exact Or.inr h
  have hS : va_S A s.heap s.heap [] := va_S.rf
  have hl := lv_entry ([.ref h_tr]) (n := 2) (Nat.le_of_ble_eq_true rfl)
  rw [lg_entry_eq]
  generalize (lg_sl ([.ref h_tr]) ++ List.replicate (2 - (lg_sl ([.ref h_tr])).length) Slot.unset).toArray = ls at hl ⊢
  have hl : lv_has ls 2 [(0, .ref h_tr)] := hl
  have h := hf
  unfold f_Top_pass at h
  refine lv_aload_n hx hb d_Top_pass_0 rfl (lv_at hl 0 rfl) ?_
  refine va_get (D := (dC, dI)) (ci := 0) (v := .ref h_tb) (C := R_Top) (T := T_Top) (N := 10) hx hb hB iw_Top hown hK hP 0 rfl rfl 3 (by decide) (hB _ bw_263) (fun _ h9 => h9) rfl d_Top_pass_1 ?_
  refine va_getN (D := (dC, dI)) (ci := 4) (v := .int tb_count) (C := R_ByteRow) (T := T_ByteRow) (N := 2) hx hb hB iw_ByteRow hown hK hP 1 rfl rfl 1 (by decide) (va_Nw.use rfl (hnw.1 _ bn_101)) (fun _ h9 => h9) rfl d_Top_pass_4 ?_
  refine lv_sipush (v := 2000) hx hb d_Top_pass_7 (by decide) ?_
  refine lv_aload_n hx hb d_Top_pass_10 rfl (lv_at hl 0 rfl) ?_
  refine va_get (D := (dC, dI)) (ci := 0) (v := .ref h_cb) (C := R_Top) (T := T_Top) (N := 10) hx hb hB iw_Top hown hK hP 0 rfl rfl 4 (by decide) (hB _ bw_264) (fun _ h9 => h9) rfl d_Top_pass_11 ?_
  refine va_getN (D := (dC, dI)) (ci := 4) (v := .int cb_count) (C := R_ByteRow) (T := T_ByteRow) (N := 2) hx hb hB iw_ByteRow hown hK hP 2 rfl rfl 1 (by decide) (va_Nw.use rfl (hnw.1 _ bn_101)) (fun _ h9 => h9) rfl d_Top_pass_14 ?_
  refine lv_isub hx hb d_Top_pass_17 ?_
  refine lv_icmp_le (tgt := 31) hx hb d_Top_pass_18 (by decide) (fun c_1 => ?_) (fun c_1 => ?_)
  · have h := if_t h c_1
    refine lv_iconst (v := 0) hx hb d_Top_pass_31 (by decide) ?_
    refine lv_istore_n (lv' := [(1, .int (0 : Int32)), (0, .ref h_tr)]) hx hb d_Top_pass_32 rfl hl (by decide) rfl (fun ls hl => ?_)
    have w_self33 : ∀ n9 : Nat, ∀ (v1_1 : Int32) (cb_count_2 : Int32) (cb_bytes_3 : (Nat → Int32)) (H : Heap) (locs : List Loc) (ls : Array Slot), lp (f_Top_pass_L33 tb_count tb_bytes) n9 (v1_1, cb_count_2, cb_bytes_3) = some o → va_P (dC, dI) CL [(h_tr, .inr (0, [u_tr_kind, u_tr_symbols, u_tr_page, .ref h_tb, .ref h_cb, u_tr_teller, u_tr_reader, u_tr_layout, u_tr_spare, u_tr_refusedAt])), (h_tb, .inr (4, [.ref h_tb_bytes, .int tb_count])), (h_cb, .inr (4, [.ref h_cb_bytes, .int cb_count_2])), (h_tb_bytes, .inl (c_tb_bytes, 2000, .inl tb_bytes)), (h_cb_bytes, .inl (c_cb_bytes, 2000, .inl cb_bytes_3))] H → va_D A [(h_tr, .inr (0, [u_tr_kind, u_tr_symbols, u_tr_page, .ref h_tb, .ref h_cb, u_tr_teller, u_tr_reader, u_tr_layout, u_tr_spare, u_tr_refusedAt])), (h_tb, .inr (4, [.ref h_tb_bytes, .int tb_count])), (h_cb, .inr (4, [.ref h_cb_bytes, .int cb_count_2])), (h_tb_bytes, .inl (c_tb_bytes, 2000, .inl tb_bytes)), (h_cb_bytes, .inl (c_cb_bytes, 2000, .inl cb_bytes_3))] → va_S A s.heap H locs → lv_has ls 2 [(1, .int v1_1), (0, .ref h_tr)] → W p l e ({ frames := 6, cells := 1, slots := 6, locals := 110 } : Room) s m ([.ref h_tr] : List Value).toArray below meth c H locs 0 0 Q9 (F0 m 33 ls []) := by
      intro n9
      induction n9 with
      | zero =>
        intro v1_1 cb_count_2 cb_bytes_3 H locs ls h hP hD hS hl
        exact absurd h (by simp [lp])
      | succ n9 ih_self33 =>
        intro v1_1 cb_count_2 cb_bytes_3 H locs ls h hP hD hS hl
        obtain ⟨self33, e_self33, h⟩ := abs_k (P := fun z9 => f_Top_pass_L33 tb_count tb_bytes z9 (v1_1, cb_count_2, cb_bytes_3) = some o) (lp_e h)
        rw [← e_self33] at ih_self33
        unfold f_Top_pass_L33 at h
        try dsimp only at h
        refine lv_iload_n hx hb d_Top_pass_33 rfl (lv_at hl 0 rfl) ?_
        refine lv_aload_n hx hb d_Top_pass_34 rfl (lv_at hl 1 rfl) ?_
        refine va_get (D := (dC, dI)) (ci := 0) (v := .ref h_tb) (C := R_Top) (T := T_Top) (N := 10) hx hb hB iw_Top hown hK hP 0 rfl rfl 3 (by decide) (hB _ bw_263) (fun _ h9 => h9) rfl d_Top_pass_35 ?_
        refine va_getN (D := (dC, dI)) (ci := 4) (v := .int tb_count) (C := R_ByteRow) (T := T_ByteRow) (N := 2) hx hb hB iw_ByteRow hown hK hP 1 rfl rfl 1 (by decide) (va_Nw.use rfl (hnw.1 _ bn_101)) (fun _ h9 => h9) rfl d_Top_pass_38 ?_
        refine lv_icmp_ge (tgt := 66) hx hb d_Top_pass_41 (by decide) (fun c_2 => ?_) (fun c_2 => ?_)
        · have h := if_t h c_2
          refine lv_aload_n hx hb d_Top_pass_66 rfl (lv_at hl 1 rfl) ?_
          refine va_get (D := (dC, dI)) (ci := 0) (v := .ref h_cb) (C := R_Top) (T := T_Top) (N := 10) hx hb hB iw_Top hown hK hP 0 rfl rfl 4 (by decide) (hB _ bw_264) (fun _ h9 => h9) rfl d_Top_pass_67 ?_
          refine va_getN (D := (dC, dI)) (ci := 4) (v := .int cb_count_2) (C := R_ByteRow) (T := T_ByteRow) (N := 2) hx hb hB iw_ByteRow hown hK hP 2 rfl rfl 1 (by decide) (va_Nw.use rfl (hnw.1 _ bn_101)) (fun _ h9 => h9) rfl d_Top_pass_70 ?_
          subst eQ
          refine x_ret ?_
          refine W.widen (k := 1) (n := 6) (by omega) (by omega) ?_
          exact W.iret (v := cb_count_2) hx hb hr (fun t ht hW => ⟨⟨_, (cb_count_2, cb_bytes_3), rfl, Option.some.inj h, by rw [ht]; exact hP, va_K.moved hW.alike hK, hD⟩, hS.F ht⟩) hS.2.2 d_Top_pass_73
        · have h := if_f h c_2
          refine lv_aload_n hx hb d_Top_pass_44 rfl (lv_at hl 1 rfl) ?_
          refine va_get (D := (dC, dI)) (ci := 0) (v := .ref h_cb) (C := R_Top) (T := T_Top) (N := 10) hx hb hB iw_Top hown hK hP 0 rfl rfl 4 (by decide) (hB _ bw_264) (fun _ h9 => h9) rfl d_Top_pass_45 ?_
          refine lv_aload_n hx hb d_Top_pass_48 rfl (lv_at hl 1 rfl) ?_
          refine va_get (D := (dC, dI)) (ci := 0) (v := .ref h_tb) (C := R_Top) (T := T_Top) (N := 10) hx hb hB iw_Top hown hK hP 0 rfl rfl 3 (by decide) (hB _ bw_263) (fun _ h9 => h9) rfl d_Top_pass_49 ?_
          refine va_getN (D := (dC, dI)) (ci := 4) (v := .ref h_tb_bytes) (C := R_ByteRow) (T := T_ByteRow) (N := 2) hx hb hB iw_ByteRow hown hK hP 1 rfl rfl 0 (by decide) (va_Nw.use rfl (hnw.1 _ bn_97)) (fun _ h9 => h9) rfl d_Top_pass_52 ?_
          refine lv_iload_n hx hb d_Top_pass_55 rfl (lv_at hl 0 rfl) ?_
          obtain ⟨hin, h⟩ := gq_e h
          refine va_iald hx hb hK hP 3 0 rfl rfl hin d_Top_pass_56 ?_
          obtain ⟨o9, hc9, h⟩ := bd_e h
          have hPc := hP.sub (ws' := [(h_cb, .inr (4, [.ref h_cb_bytes, .int cb_count_2])), (h_cb_bytes, .inl (c_cb_bytes, 2000, .inl cb_bytes_3))]) [2, 4] rfl
          have hKc := hK.sub (tys' := [(c_cb_bytes, .int)]) [1] rfl
          have hDc := hD.sub (ws' := [(h_cb, .inr (4, [.ref h_cb_bytes, .int cb_count_2])), (h_cb_bytes, .inl (c_cb_bytes, 2000, .inl cb_bytes_3))]) [2, 4] (by decide) rfl
          have hFc := va_free (wc := [(h_cb, .inr (4, [.ref h_cb_bytes, .int cb_count_2])), (h_cb_bytes, .inl (c_cb_bytes, 2000, .inl cb_bytes_3))]) hD hS hA [2, 4] rfl
          refine va_callv (va_runVN (As := [.int (tb_bytes (v1_1).toNatClampNeg)]) (rest := []) ⟨hx, hb, hml, hown, hB⟩ (c_ByteRow_append l dC dI h_cb h_cb_bytes c_cb_bytes cb_count_2 cb_bytes_3 (tb_bytes (v1_1).toNatClampNeg) _ o9 hc9) ⟨va_cnB 1 hB (goodB bw_412) rfl rfl rfl (hnw.1 _ bn_844) (hB _ bw_5) (by decide +kernel) ⟨Nat.le_of_ble_eq_true rfl, Nat.le_of_ble_eq_true rfl⟩, hB _ bw_411, hB _ bs_21⟩ ⟨fb_m, va_recv hK hP (ci := 4) (q0 := 2) rfl rfl, (pre_m hPc hKc hDc hnw [.ref h_cb, .int (tb_bytes (v1_1).toNatClampNeg)])⟩ rfl rfl hl.1 rfl (lv_room (Nat.le_of_ble_eq_true rfl)) d_Top_pass_57 ⟨Nat.zero_le _, Nat.zero_le _⟩) hS (fun q _ h => hFc q h) hFc (fun u9 t H1 locs ht hvm hw hB hz1 hk1 hS => ?_)
          obtain ⟨cb_count_4, cb_bytes_5⟩ := u9
          subst hw
          obtain ⟨hP1, hK1, hD1⟩ := hB
          rw [ht] at hP1
          obtain ⟨hP, hD⟩ := va_join (wr := [(h_tr, .inr (0, [u_tr_kind, u_tr_symbols, u_tr_page, .ref h_tb, .ref h_cb, u_tr_teller, u_tr_reader, u_tr_layout, u_tr_spare, u_tr_refusedAt])), (h_tb, .inr (4, [.ref h_tb_bytes, .int tb_count])), (h_tb_bytes, .inl (c_tb_bytes, 2000, .inl tb_bytes))]) (w1 := [(h_cb, .inr (4, [.ref h_cb_bytes, .int cb_count_4])), (h_cb_bytes, .inl (c_cb_bytes, 2000, .inl cb_bytes_5))]) hP hD [2, 4] [0, 1, 3] rfl rfl (by decide) (by decide) hk1 hFc hP1 hD1
          have hP := hP.sub (ws' := [(h_tr, .inr (0, [u_tr_kind, u_tr_symbols, u_tr_page, .ref h_tb, .ref h_cb, u_tr_teller, u_tr_reader, u_tr_layout, u_tr_spare, u_tr_refusedAt])), (h_tb, .inr (4, [.ref h_tb_bytes, .int tb_count])), (h_cb, .inr (4, [.ref h_cb_bytes, .int cb_count_4])), (h_tb_bytes, .inl (c_tb_bytes, 2000, .inl tb_bytes)), (h_cb_bytes, .inl (c_cb_bytes, 2000, .inl cb_bytes_5))]) [0, 1, 3, 2, 4] rfl
          have hD := hD.sub (ws' := [(h_tr, .inr (0, [u_tr_kind, u_tr_symbols, u_tr_page, .ref h_tb, .ref h_cb, u_tr_teller, u_tr_reader, u_tr_layout, u_tr_spare, u_tr_refusedAt])), (h_tb, .inr (4, [.ref h_tb_bytes, .int tb_count])), (h_cb, .inr (4, [.ref h_cb_bytes, .int cb_count_4])), (h_tb_bytes, .inl (c_tb_bytes, 2000, .inl tb_bytes)), (h_cb_bytes, .inl (c_cb_bytes, 2000, .inl cb_bytes_5))]) [0, 1, 3, 2, 4] (by decide) rfl
          clear hPc hKc hDc hFc hc9 hP1 hK1 hD1 hk1 hz1 hvm ht
          generalize H1 = H at hP hS ⊢
          try dsimp only at h
          obtain ⟨v1_6, e_v1_6⟩ : ∃ y9 : Int32, y9 = (v1_1 + (1 : Int32)) := ⟨_, rfl⟩
          have h := nl_u e_v1_6 h
          refine lv_iinc (v := v1_6) (lv' := [(1, .int v1_6), (0, .ref h_tr)]) hx hb d_Top_pass_60 hl (k := 0) rfl (by rw [e_v1_6]; rfl) (by decide) rfl (fun ls hl => ?_)
          refine lv_goto (tgt := 33) hx hb d_Top_pass_63 (by decide) ?_
          exact ih_self33 _ _ _ _ _ _ h hP hD hS hl
    exact w_self33 FU _ _ _ _ _ _ h hP hD hS hl
  · have h := if_f h c_1
    subst eQ
    refine th_new (names := ["java/lang/RuntimeException", "java/lang/Exception"]) hx hb hlt hown (by decide +kernel) (by decide +kernel) (hB _ bw_712) (hB _ bw_18) (x_str hxw bx_852) (x_own hB hxw ow_108) (hl.1.trans hml.symm) d_Top_pass_21 d_Top_pass_24 d_Top_pass_25 d_Top_pass_27 d_Top_pass_30 (fun x hx9 => (hnt x hx9).elim) (Nat.le_of_ble_eq_true rfl) (Nat.le_of_ble_eq_true rfl) (Nat.le_of_ble_eq_true rfl) (Nat.le_of_ble_eq_true rfl) hlocks (fun U hU => x_out (cls := "java/lang/UnsupportedOperationException") ?_ hU)
    exact Option.some.inj h
set_option maxHeartbeats 4000000 in
set_option maxRecDepth 100000 in
theorem c_Top_place (l : Launch) (dC : Nat → ClassId) (dI : Nat → Nat → Nat) (h_tr : Nat) (h_la : Nat) (h_la_symbolOf : Nat) (h_la_xs : Nat) (h_la_ys : Nat) (h_la_ways : Nat) (h_di : Nat) (h_di_widths : Nat) (h_di_heights : Nat) (h_la_differs : Nat) (c_la_symbolOf : ClassId) (c_la_xs : ClassId) (c_la_ys : ClassId) (c_la_ways : ClassId) (c_di_widths : ClassId) (c_di_heights : ClassId) (c_la_differs : ClassId) (u_tr_kind : Value) (u_tr_symbols : Value) (u_tr_page : Value) (u_tr_toldBytes : Value) (u_tr_cameBytes : Value) (u_tr_teller : Value) (u_tr_reader : Value) (u_tr_spare : Value) (u_tr_refusedAt : Value) (u_la_sequence : Value) (u_di_samples : Value) (u_di_count : Value) (la_count : Int32) (la_symbolOf : (Nat → Int32)) (la_xs : (Nat → Int32)) (la_ys : (Nat → Int32)) (la_ways : (Nat → Int32)) (di_widths : (Nat → Int32)) (di_heights : (Nat → Int32)) (la_differs : (Nat → Int64)) (p0 : Int32) (p1 : Int32) (hlt : l.stackTraces = false) (o : String ⊕ (Int32)) (hf : f_Top_place la_count la_symbolOf la_xs la_ys la_ways di_widths di_heights la_differs p0 p1 = some o) :
    XMet l y_Top_place ws_Top_place { frames := 6, cells := 1, slots := 6, locals := 110 } (va_Pc [.ref h_tr, .int p0, .int p1] (fun U => (PcP (dC, dI) [(h_tr, .inr (0, [u_tr_kind, u_tr_symbols, u_tr_page, u_tr_toldBytes, u_tr_cameBytes, u_tr_teller, u_tr_reader, .ref h_la, u_tr_spare, u_tr_refusedAt])), (h_la, .inr (8, [.ref h_di, .ref h_la_ways, .ref h_la_symbolOf, .ref h_la_xs, .ref h_la_ys, .ref h_la_differs, u_la_sequence, .int la_count])), (h_la_symbolOf, .inl (c_la_symbolOf, 40, .inl la_symbolOf)), (h_la_xs, .inl (c_la_xs, 40, .inl la_xs)), (h_la_ys, .inl (c_la_ys, 40, .inl la_ys)), (h_la_ways, .inl (c_la_ways, 4, .inl la_ways)), (h_di, .inr (6, [.ref h_di_widths, .ref h_di_heights, u_di_samples, u_di_count])), (h_di_widths, .inl (c_di_widths, 16, .inl di_widths)), (h_di_heights, .inl (c_di_heights, 16, .inl di_heights)), (h_la_differs, .inl (c_la_differs, 40, .inr (.inl la_differs)))] [(c_la_symbolOf, .int), (c_la_xs, .int), (c_la_ys, .int), (c_la_ways, .int), (c_di_widths, .int), (c_di_heights, .int), (c_la_differs, .long)]) U ∧ xw U))
      (vp_Si (fun r => (.inr r : String ⊕ (Int32)) = o)) (fun cls => (.inl cls : String ⊕ (Int32)) = o) 1 6 (fun _ => False) := by
  refine XMet.ofW (cc := b_Top_place) (maxL := 3) (ret := (some .int)) (by decide) rfl ?_
  intro p e s m args below meth c s₁ B hml hnt hv
  obtain ⟨e9, hv, hxw⟩ := hv
  have hv := And.intro e9 hv
  clear e9
  obtain ⟨rfl, hP, hK, hnw⟩ := hv
  have hx := B.exec
  have hb := B.bytes
  have hr := B.returns
  have hts := atoms_spec (ws := ws_Top_place) B.pre
  have hB : ∀ w ∈ BIG, w.before _ s = true := fun w h => hts w (List.mem_cons_of_mem _ h)
  have hown : s.vm.findClass R_Top = some m.cls := findClass_of_methodNamed B.named
  have hlocks := B.notSynchronized
  refine W_Q (fun Q9 eQ => ?_)
  have hl := lv_entry ([.ref h_tr, .int p0, .int p1]) (n := 3) (Nat.le_of_ble_eq_true rfl)
  rw [lg_entry_eq]
  generalize (lg_sl ([.ref h_tr, .int p0, .int p1]) ++ List.replicate (3 - (lg_sl ([.ref h_tr, .int p0, .int p1])).length) Slot.unset).toArray = ls at hl ⊢
  have hl : lv_has ls 3 [(0, .ref h_tr), (1, .int p0), (2, .int p1)] := hl
  have h := hf
  unfold f_Top_place at h
  refine lv_aload_n hx hb d_Top_place_0 rfl (lv_at hl 0 rfl) ?_
  refine va_get (D := (dC, dI)) (ci := 0) (v := .ref h_la) (C := R_Top) (T := T_Top) (N := 10) hx hb hB iw_Top hown hK hP 0 rfl rfl 7 (by decide) (hB _ bw_267) (fun _ h9 => h9) rfl d_Top_place_1 ?_
  refine lv_iload_n hx hb d_Top_place_4 rfl (lv_at hl 1 rfl) ?_
  obtain ⟨o9, hc9, h⟩ := bd_e h
  have hPc := hP.sub (ws' := [(h_la, .inr (8, [.ref h_di, .ref h_la_ways, .ref h_la_symbolOf, .ref h_la_xs, .ref h_la_ys, .ref h_la_differs, u_la_sequence, .int la_count]))]) [1] rfl
  have hKc := hK.sub (tys' := []) [] rfl
  refine vp_callSi (va_Run.run (va_runVN (As := [.int p0]) (rest := []) ⟨hx, hb, hml, hown, hB⟩ (c_Layout_has l dC dI h_la (.ref h_di) (.ref h_la_ways) (.ref h_la_symbolOf) (.ref h_la_xs) (.ref h_la_ys) (.ref h_la_differs) u_la_sequence la_count p0 o9 hc9) ⟨va_cnB 1 hB (goodB bw_789) rfl rfl rfl (hnw.1 _ bn_786) (hB _ bw_12) (by decide +kernel) ⟨Nat.le_of_ble_eq_true rfl, Nat.le_of_ble_eq_true rfl⟩, hB _ bw_788, hB _ bs_52⟩ ⟨fb_p, va_recv hK hP (ci := 8) (q0 := 1) rfl rfl, (pre_p hPc hKc hnw [.ref h_la, .int p0])⟩ rfl rfl hl.1 rfl (lv_room (Nat.le_of_ble_eq_true rfl)) d_Top_place_5 ⟨Nat.zero_le _, Nat.zero_le _⟩)) (fun r_1 e_r_1 => ?_)
  subst e_r_1
  clear hPc hKc hc9
  refine lv_if_ne (tgt := 21) hx hb d_Top_place_8 (by decide) (fun c_1 => ?_) (fun c_1 => ?_)
  · have h := if_f h c_1
    refine lv_iload_n hx hb d_Top_place_21 rfl (lv_at hl 2 rfl) ?_
    by_cases c_2 : p1 = (0 : Int32)
    · have h := if_t h c_2
      refine lv_tableIn (tgt := 64) (off := 42) hx hb d_Top_place_22 (by rw [c_2]; decide) (by rw [c_2]; decide) (by rw [c_2]; rfl) (by decide) ?_
      refine lv_aload_n hx hb d_Top_place_64 rfl (lv_at hl 0 rfl) ?_
      refine va_get (D := (dC, dI)) (ci := 0) (v := .ref h_la) (C := R_Top) (T := T_Top) (N := 10) hx hb hB iw_Top hown hK hP 0 rfl rfl 7 (by decide) (hB _ bw_267) (fun _ h9 => h9) rfl d_Top_place_65 ?_
      refine va_getN (D := (dC, dI)) (ci := 8) (v := .ref h_la_symbolOf) (C := R_Layout) (T := T_Layout) (N := 8) hx hb hB iw_Layout hown hK hP 1 rfl rfl 2 (by decide) (va_Nw.use rfl (hnw.1 _ bn_221)) (fun _ h9 => h9) rfl d_Top_place_68 ?_
      refine lv_iload_n hx hb d_Top_place_71 rfl (lv_at hl 1 rfl) ?_
      obtain ⟨hin, h⟩ := gq_e h
      refine va_iald hx hb hK hP 2 0 rfl rfl hin d_Top_place_72 ?_
      subst eQ
      refine x_ret ?_
      refine W.widen (k := 1) (n := 6) (by omega) (by omega) ?_
      exact W.iret (v := (la_symbolOf (p0).toNatClampNeg)) hx hb hr (fun t ht hW => ⟨_, rfl, Option.some.inj h, ht⟩) (fun _ h9 => absurd h9 List.not_mem_nil) d_Top_place_73
    have h := if_f h c_2
    by_cases c_3 : p1 = (1 : Int32)
    · have h := if_t h c_3
      refine lv_tableIn (tgt := 74) (off := 52) hx hb d_Top_place_22 (by rw [c_3]; decide) (by rw [c_3]; decide) (by rw [c_3]; rfl) (by decide) ?_
      refine lv_aload_n hx hb d_Top_place_74 rfl (lv_at hl 0 rfl) ?_
      refine va_get (D := (dC, dI)) (ci := 0) (v := .ref h_la) (C := R_Top) (T := T_Top) (N := 10) hx hb hB iw_Top hown hK hP 0 rfl rfl 7 (by decide) (hB _ bw_267) (fun _ h9 => h9) rfl d_Top_place_75 ?_
      refine va_getN (D := (dC, dI)) (ci := 8) (v := .ref h_la_xs) (C := R_Layout) (T := T_Layout) (N := 8) hx hb hB iw_Layout hown hK hP 1 rfl rfl 3 (by decide) (va_Nw.use rfl (hnw.1 _ bn_226)) (fun _ h9 => h9) rfl d_Top_place_78 ?_
      refine lv_iload_n hx hb d_Top_place_81 rfl (lv_at hl 1 rfl) ?_
      obtain ⟨hin, h⟩ := gq_e h
      refine va_iald hx hb hK hP 3 1 rfl rfl hin d_Top_place_82 ?_
      subst eQ
      refine x_ret ?_
      refine W.widen (k := 1) (n := 6) (by omega) (by omega) ?_
      exact W.iret (v := (la_xs (p0).toNatClampNeg)) hx hb hr (fun t ht hW => ⟨_, rfl, Option.some.inj h, ht⟩) (fun _ h9 => absurd h9 List.not_mem_nil) d_Top_place_83
    have h := if_f h c_3
    by_cases c_4 : p1 = (2 : Int32)
    · have h := if_t h c_4
      refine lv_tableIn (tgt := 84) (off := 62) hx hb d_Top_place_22 (by rw [c_4]; decide) (by rw [c_4]; decide) (by rw [c_4]; rfl) (by decide) ?_
      refine lv_aload_n hx hb d_Top_place_84 rfl (lv_at hl 0 rfl) ?_
      refine va_get (D := (dC, dI)) (ci := 0) (v := .ref h_la) (C := R_Top) (T := T_Top) (N := 10) hx hb hB iw_Top hown hK hP 0 rfl rfl 7 (by decide) (hB _ bw_267) (fun _ h9 => h9) rfl d_Top_place_85 ?_
      refine va_getN (D := (dC, dI)) (ci := 8) (v := .ref h_la_ys) (C := R_Layout) (T := T_Layout) (N := 8) hx hb hB iw_Layout hown hK hP 1 rfl rfl 4 (by decide) (va_Nw.use rfl (hnw.1 _ bn_229)) (fun _ h9 => h9) rfl d_Top_place_88 ?_
      refine lv_iload_n hx hb d_Top_place_91 rfl (lv_at hl 1 rfl) ?_
      obtain ⟨hin, h⟩ := gq_e h
      refine va_iald hx hb hK hP 4 2 rfl rfl hin d_Top_place_92 ?_
      subst eQ
      refine x_ret ?_
      refine W.widen (k := 1) (n := 6) (by omega) (by omega) ?_
      exact W.iret (v := (la_ys (p0).toNatClampNeg)) hx hb hr (fun t ht hW => ⟨_, rfl, Option.some.inj h, ht⟩) (fun _ h9 => absurd h9 List.not_mem_nil) d_Top_place_93
    have h := if_f h c_4
    by_cases c_5 : p1 = (3 : Int32)
    · have h := if_t h c_5
      refine lv_tableIn (tgt := 94) (off := 72) hx hb d_Top_place_22 (by rw [c_5]; decide) (by rw [c_5]; decide) (by rw [c_5]; rfl) (by decide) ?_
      refine lv_aload_n hx hb d_Top_place_94 rfl (lv_at hl 0 rfl) ?_
      refine va_get (D := (dC, dI)) (ci := 0) (v := .ref h_la) (C := R_Top) (T := T_Top) (N := 10) hx hb hB iw_Top hown hK hP 0 rfl rfl 7 (by decide) (hB _ bw_267) (fun _ h9 => h9) rfl d_Top_place_95 ?_
      refine lv_iload_n hx hb d_Top_place_98 rfl (lv_at hl 1 rfl) ?_
      obtain ⟨o9, hc9, h⟩ := bd_e h
      have hPc := hP.sub (ws' := [(h_la, .inr (8, [.ref h_di, .ref h_la_ways, .ref h_la_symbolOf, .ref h_la_xs, .ref h_la_ys, .ref h_la_differs, u_la_sequence, .int la_count])), (h_la_ways, .inl (c_la_ways, 4, .inl la_ways)), (h_la_xs, .inl (c_la_xs, 40, .inl la_xs)), (h_la_symbolOf, .inl (c_la_symbolOf, 40, .inl la_symbolOf)), (h_di, .inr (6, [.ref h_di_widths, .ref h_di_heights, u_di_samples, u_di_count])), (h_di_widths, .inl (c_di_widths, 16, .inl di_widths)), (h_la_ys, .inl (c_la_ys, 40, .inl la_ys)), (h_di_heights, .inl (c_di_heights, 16, .inl di_heights))]) [1, 5, 3, 2, 6, 7, 4, 8] rfl
      have hKc := hK.sub (tys' := [(c_la_ways, .int), (c_la_xs, .int), (c_la_symbolOf, .int), (c_di_widths, .int), (c_la_ys, .int), (c_di_heights, .int)]) [3, 1, 0, 4, 2, 5] rfl
      refine vp_callSi (va_Run.run (va_runVN (As := [.int p0]) (rest := []) ⟨hx, hb, hml, hown, hB⟩ (c_Layout_cornerS l dC dI h_la h_la_ways h_la_xs h_la_symbolOf h_di h_di_widths h_la_ys h_di_heights c_la_ways c_la_xs c_la_symbolOf c_di_widths c_la_ys c_di_heights (.ref h_la_differs) u_la_sequence (.int la_count) u_di_samples u_di_count la_ways la_xs la_symbolOf di_widths la_ys di_heights p0 o9 hc9) ⟨va_cnB 1 hB (goodB bw_444) rfl rfl rfl (hnw.1 _ bn_861) (hB _ bw_12) (by decide +kernel) ⟨Nat.le_of_ble_eq_true rfl, Nat.le_of_ble_eq_true rfl⟩, hB _ bw_443, hB _ bs_24⟩ ⟨fb_p, va_recv hK hP (ci := 8) (q0 := 1) rfl rfl, (pre_p hPc hKc hnw [.ref h_la, .int p0])⟩ rfl rfl hl.1 rfl (lv_room (Nat.le_of_ble_eq_true rfl)) d_Top_place_99 ⟨Nat.zero_le _, Nat.zero_le _⟩)) (fun r_2 e_r_2 => ?_)
      subst e_r_2
      clear hPc hKc hc9
      subst eQ
      refine x_ret ?_
      refine W.widen (k := 1) (n := 6) (by omega) (by omega) ?_
      exact W.iret (v := r_2) hx hb hr (fun t ht hW => ⟨_, rfl, Option.some.inj h, ht⟩) (fun _ h9 => absurd h9 List.not_mem_nil) d_Top_place_102
    have h := if_f h c_5
    by_cases c_6 : p1 = (4 : Int32)
    · have h := if_t h c_6
      refine lv_tableIn (tgt := 103) (off := 81) hx hb d_Top_place_22 (by rw [c_6]; decide) (by rw [c_6]; decide) (by rw [c_6]; rfl) (by decide) ?_
      refine lv_aload_n hx hb d_Top_place_103 rfl (lv_at hl 0 rfl) ?_
      refine va_get (D := (dC, dI)) (ci := 0) (v := .ref h_la) (C := R_Top) (T := T_Top) (N := 10) hx hb hB iw_Top hown hK hP 0 rfl rfl 7 (by decide) (hB _ bw_267) (fun _ h9 => h9) rfl d_Top_place_104 ?_
      refine lv_iload_n hx hb d_Top_place_107 rfl (lv_at hl 1 rfl) ?_
      obtain ⟨o9, hc9, h⟩ := bd_e h
      have hPc := hP.sub (ws' := [(h_la, .inr (8, [.ref h_di, .ref h_la_ways, .ref h_la_symbolOf, .ref h_la_xs, .ref h_la_ys, .ref h_la_differs, u_la_sequence, .int la_count])), (h_la_ways, .inl (c_la_ways, 4, .inl la_ways)), (h_la_ys, .inl (c_la_ys, 40, .inl la_ys)), (h_la_symbolOf, .inl (c_la_symbolOf, 40, .inl la_symbolOf)), (h_di, .inr (6, [.ref h_di_widths, .ref h_di_heights, u_di_samples, u_di_count])), (h_di_heights, .inl (c_di_heights, 16, .inl di_heights)), (h_la_xs, .inl (c_la_xs, 40, .inl la_xs)), (h_di_widths, .inl (c_di_widths, 16, .inl di_widths))]) [1, 5, 4, 2, 6, 8, 3, 7] rfl
      have hKc := hK.sub (tys' := [(c_la_ways, .int), (c_la_ys, .int), (c_la_symbolOf, .int), (c_di_heights, .int), (c_la_xs, .int), (c_di_widths, .int)]) [3, 2, 0, 5, 1, 4] rfl
      refine vp_callSi (va_Run.run (va_runVN (As := [.int p0]) (rest := []) ⟨hx, hb, hml, hown, hB⟩ (c_Layout_cornerT l dC dI h_la h_la_ways h_la_ys h_la_symbolOf h_di h_di_heights h_la_xs h_di_widths c_la_ways c_la_ys c_la_symbolOf c_di_heights c_la_xs c_di_widths (.ref h_la_differs) u_la_sequence (.int la_count) u_di_samples u_di_count la_ways la_ys la_symbolOf di_heights la_xs di_widths p0 o9 hc9) ⟨va_cnB 1 hB (goodB bw_306) rfl rfl rfl (hnw.1 _ bn_862) (hB _ bw_12) (by decide +kernel) ⟨Nat.le_of_ble_eq_true rfl, Nat.le_of_ble_eq_true rfl⟩, hB _ bw_305, hB _ bs_2⟩ ⟨fb_p, va_recv hK hP (ci := 8) (q0 := 1) rfl rfl, (pre_p hPc hKc hnw [.ref h_la, .int p0])⟩ rfl rfl hl.1 rfl (lv_room (Nat.le_of_ble_eq_true rfl)) d_Top_place_108 ⟨Nat.zero_le _, Nat.zero_le _⟩)) (fun r_3 e_r_3 => ?_)
      subst e_r_3
      clear hPc hKc hc9
      subst eQ
      refine x_ret ?_
      refine W.widen (k := 1) (n := 6) (by omega) (by omega) ?_
      exact W.iret (v := r_3) hx hb hr (fun t ht hW => ⟨_, rfl, Option.some.inj h, ht⟩) (fun _ h9 => absurd h9 List.not_mem_nil) d_Top_place_111
    have h := if_f h c_6
    by_cases c_7 : p1 = (5 : Int32)
    · have h := if_t h c_7
      refine lv_tableIn (tgt := 112) (off := 90) hx hb d_Top_place_22 (by rw [c_7]; decide) (by rw [c_7]; decide) (by rw [c_7]; rfl) (by decide) ?_
      refine lv_aload_n hx hb d_Top_place_112 rfl (lv_at hl 0 rfl) ?_
      refine va_get (D := (dC, dI)) (ci := 0) (v := .ref h_la) (C := R_Top) (T := T_Top) (N := 10) hx hb hB iw_Top hown hK hP 0 rfl rfl 7 (by decide) (hB _ bw_267) (fun _ h9 => h9) rfl d_Top_place_113 ?_
      refine lv_iload_n hx hb d_Top_place_116 rfl (lv_at hl 1 rfl) ?_
      obtain ⟨o9, hc9, h⟩ := bd_e h
      have hPc := hP.sub (ws' := [(h_la, .inr (8, [.ref h_di, .ref h_la_ways, .ref h_la_symbolOf, .ref h_la_xs, .ref h_la_ys, .ref h_la_differs, u_la_sequence, .int la_count])), (h_la_ways, .inl (c_la_ways, 4, .inl la_ways)), (h_la_ys, .inl (c_la_ys, 40, .inl la_ys)), (h_la_symbolOf, .inl (c_la_symbolOf, 40, .inl la_symbolOf)), (h_di, .inr (6, [.ref h_di_widths, .ref h_di_heights, u_di_samples, u_di_count])), (h_di_heights, .inl (c_di_heights, 16, .inl di_heights)), (h_la_xs, .inl (c_la_xs, 40, .inl la_xs)), (h_di_widths, .inl (c_di_widths, 16, .inl di_widths))]) [1, 5, 4, 2, 6, 8, 3, 7] rfl
      have hKc := hK.sub (tys' := [(c_la_ways, .int), (c_la_ys, .int), (c_la_symbolOf, .int), (c_di_heights, .int), (c_la_xs, .int), (c_di_widths, .int)]) [3, 2, 0, 5, 1, 4] rfl
      refine vp_callSi (va_Run.run (va_runVN (As := [.int p0]) (rest := []) ⟨hx, hb, hml, hown, hB⟩ (c_Layout_strip l dC dI h_la h_la_ways h_la_ys h_la_symbolOf h_di h_di_heights h_la_xs h_di_widths c_la_ways c_la_ys c_la_symbolOf c_di_heights c_la_xs c_di_widths (.ref h_la_differs) u_la_sequence (.int la_count) u_di_samples u_di_count la_ways la_ys la_symbolOf di_heights la_xs di_widths p0 o9 hc9) ⟨va_cnB 1 hB (goodB bw_302) rfl rfl rfl (hnw.1 _ bn_813) (hB _ bw_12) (by decide +kernel) ⟨Nat.le_of_ble_eq_true rfl, Nat.le_of_ble_eq_true rfl⟩, hB _ bw_301, hB _ bs_1⟩ ⟨fb_p, va_recv hK hP (ci := 8) (q0 := 1) rfl rfl, (pre_p hPc hKc hnw [.ref h_la, .int p0])⟩ rfl rfl hl.1 rfl (lv_room (Nat.le_of_ble_eq_true rfl)) d_Top_place_117 ⟨Nat.zero_le _, Nat.zero_le _⟩)) (fun r_4 e_r_4 => ?_)
      subst e_r_4
      clear hPc hKc hc9
      subst eQ
      refine x_ret ?_
      refine W.widen (k := 1) (n := 6) (by omega) (by omega) ?_
      exact W.iret (v := r_4) hx hb hr (fun t ht hW => ⟨_, rfl, Option.some.inj h, ht⟩) (fun _ h9 => absurd h9 List.not_mem_nil) d_Top_place_120
    have h := if_f h c_7
    by_cases c_8 : p1 = (6 : Int32)
    · have h := if_t h c_8
      refine lv_tableIn (tgt := 121) (off := 99) hx hb d_Top_place_22 (by rw [c_8]; decide) (by rw [c_8]; decide) (by rw [c_8]; rfl) (by decide) ?_
      refine lv_aload_n hx hb d_Top_place_121 rfl (lv_at hl 0 rfl) ?_
      refine va_get (D := (dC, dI)) (ci := 0) (v := .ref h_la) (C := R_Top) (T := T_Top) (N := 10) hx hb hB iw_Top hown hK hP 0 rfl rfl 7 (by decide) (hB _ bw_267) (fun _ h9 => h9) rfl d_Top_place_122 ?_
      refine va_getN (D := (dC, dI)) (ci := 8) (v := .ref h_la_differs) (C := R_Layout) (T := T_Layout) (N := 8) hx hb hB iw_Layout hown hK hP 1 rfl rfl 5 (by decide) (va_Nw.use rfl (hnw.1 _ bn_233)) (fun _ h9 => h9) rfl d_Top_place_125 ?_
      refine lv_iload_n hx hb d_Top_place_128 rfl (lv_at hl 1 rfl) ?_
      obtain ⟨hin, h⟩ := gq_e h
      refine va_lald hx hb hK hP 9 6 rfl rfl hin d_Top_place_129 ?_
      obtain ⟨o9, hc9, h⟩ := bd_e h
      have hPc := hP.sub (ws' := []) [] rfl
      have hKc := hK.sub (tys' := []) [] rfl
      refine vp_callSi (va_Run.run (va_runS (As := [.long (la_differs (p0).toNatClampNeg)]) (rest := []) ⟨hx, hb, hml, hown, hB⟩ (c_Long_bitCount l dC dI (la_differs (p0).toNatClampNeg) o9 hc9) (va_cwS 1 hB (goodA (m3 bw_863 bw_482 bw_20) (goodB bw_483)) rfl rfl rfl (by decide +kernel) ⟨Nat.le_of_ble_eq_true rfl, Nat.le_of_ble_eq_true rfl⟩) ⟨fb_p, (pre_p hPc hKc hnw [.long (la_differs (p0).toNatClampNeg)])⟩ rfl rfl hl.1 rfl (lv_room (Nat.le_of_ble_eq_true rfl)) d_Top_place_130 ⟨Nat.zero_le _, Nat.zero_le _⟩)) (fun r_5 e_r_5 => ?_)
      subst e_r_5
      clear hPc hKc hc9
      subst eQ
      refine x_ret ?_
      refine W.widen (k := 1) (n := 6) (by omega) (by omega) ?_
      exact W.iret (v := r_5) hx hb hr (fun t ht hW => ⟨_, rfl, Option.some.inj h, ht⟩) (fun _ h9 => absurd h9 List.not_mem_nil) d_Top_place_133
    have h := if_f h c_8
    refine lv_tableOut (tgt := 134) hx hb d_Top_place_22 (by have := nt c_2 (z := 0) rfl; have := nt c_3 (z := 1) rfl; have := nt c_4 (z := 2) rfl; have := nt c_5 (z := 3) rfl; have := nt c_6 (z := 4) rfl; have := nt c_7 (z := 5) rfl; have := nt c_8 (z := 6) rfl; omega) (by decide) ?_
    refine lv_iconst (v := -1) hx hb d_Top_place_134 (by decide) ?_
    subst eQ
    refine x_ret ?_
    refine W.widen (k := 1) (n := 6) (by omega) (by omega) ?_
    exact W.iret (v := (-1 : Int32)) hx hb hr (fun t ht hW => ⟨_, rfl, Option.some.inj h, ht⟩) (fun _ h9 => absurd h9 List.not_mem_nil) d_Top_place_135
  · have h := if_t h c_1
    subst eQ
    refine th_new (names := ["java/lang/RuntimeException", "java/lang/Exception"]) hx hb hlt hown (by decide +kernel) (by decide +kernel) (hB _ bw_749) (hB _ bw_19) (x_str hxw bx_860) (x_own hB hxw ow_124) (hl.1.trans hml.symm) d_Top_place_11 d_Top_place_14 d_Top_place_15 d_Top_place_17 d_Top_place_20 (fun x hx9 => (hnt x hx9).elim) (Nat.le_of_ble_eq_true rfl) (Nat.le_of_ble_eq_true rfl) (Nat.le_of_ble_eq_true rfl) (Nat.le_of_ble_eq_true rfl) hlocks (fun U hU => x_out (cls := "java/lang/IndexOutOfBoundsException") ?_ hU)
    exact Option.some.inj h
set_option maxHeartbeats 4000000 in
set_option maxRecDepth 100000 in
theorem c_Top_order_C (l : Launch) (dC : Nat → ClassId) (dI : Nat → Nat → Nat) (h_tr : Nat) (h_te : Nat) (h_la : Nat) (h_la_ways : Nat) (h_la_ys : Nat) (h_la_symbolOf : Nat) (h_di : Nat) (h_di_heights : Nat) (h_la_xs : Nat) (h_di_widths : Nat) (h_la_sequence : Nat) (h_na : Nat) (h_na_weights : Nat) (h_na_joinedTo : Nat) (h_na_lengths : Nat) (h_na_codes : Nat) (h_wr : Nat) (h_tb : Nat) (h_tb_bytes : Nat) (h_la_differs : Nat) (c_la_ways : ClassId) (c_la_ys : ClassId) (c_la_symbolOf : ClassId) (c_di_heights : ClassId) (c_la_xs : ClassId) (c_di_widths : ClassId) (c_la_sequence : ClassId) (c_na_weights : ClassId) (c_na_joinedTo : ClassId) (c_na_lengths : ClassId) (c_na_codes : ClassId) (c_tb_bytes : ClassId) (c_la_differs : ClassId) (u_tr_kind : Value) (u_tr_symbols : Value) (u_tr_page : Value) (u_tr_toldBytes : Value) (u_tr_cameBytes : Value) (u_tr_reader : Value) (u_tr_spare : Value) (u_tr_refusedAt : Value) (u_di_samples : Value) (la_count : Int32) (la_ways : (Nat → Int32)) (la_ys : (Nat → Int32)) (la_symbolOf : (Nat → Int32)) (di_count : Int32) (di_heights : (Nat → Int32)) (la_xs : (Nat → Int32)) (di_widths : (Nat → Int32)) (la_sequence : (Nat → Int32)) (na_weights : (Nat → Int32)) (na_joinedTo : (Nat → Int32)) (na_lengths : (Nat → Int32)) (na_codes : (Nat → Int32)) (wr_keeping : Int32) (wr_count : Int32) (tb_count : Int32) (tb_bytes : (Nat → Int32)) (la_differs : (Nat → Int64)) (p0 : Int32) (sz : Nat) (hlt : l.stackTraces = false) (o : String ⊕ (Int32 × (Nat → Int32) × (Nat → Int32) × (Nat → Int32) × (Nat → Int32) × (Nat → Int32) × (Nat → Int32) × (Nat → Int32) × (Nat → Int32) × Int32 × Int32 × Int32 × (Nat → Int32) × (Nat → Int64))) (hf : f_Top_order_C la_count la_ways la_ys la_symbolOf di_count di_heights la_xs di_widths la_sequence na_weights na_joinedTo na_lengths na_codes wr_keeping wr_count tb_count tb_bytes la_differs p0 = some o) :
    XMet l y_Top_order ws_Top_order { frames := 7, cells := 1, slots := 6, locals := 173 } (va_Pc [.ref h_tr, .int p0] (fun U => (PcS (dC, dI) [(h_tr, .inr (0, [u_tr_kind, u_tr_symbols, u_tr_page, u_tr_toldBytes, u_tr_cameBytes, .ref h_te, u_tr_reader, .ref h_la, u_tr_spare, u_tr_refusedAt])), (h_te, .inr (11, [.ref h_na, .ref h_wr])), (h_la, .inr (8, [.ref h_di, .ref h_la_ways, .ref h_la_symbolOf, .ref h_la_xs, .ref h_la_ys, .ref h_la_differs, .ref h_la_sequence, .int la_count])), (h_la_ways, .inl (c_la_ways, 4, .inl la_ways)), (h_la_ys, .inl (c_la_ys, 40, .inl la_ys)), (h_la_symbolOf, .inl (c_la_symbolOf, 40, .inl la_symbolOf)), (h_di, .inr (6, [.ref h_di_widths, .ref h_di_heights, u_di_samples, .int di_count])), (h_di_heights, .inl (c_di_heights, 16, .inl di_heights)), (h_la_xs, .inl (c_la_xs, 40, .inl la_xs)), (h_di_widths, .inl (c_di_widths, 16, .inl di_widths)), (h_la_sequence, .inl (c_la_sequence, 40, .inl la_sequence)), (h_na, .inr (5, [.ref h_di, .ref h_na_lengths, .ref h_na_codes, .ref h_na_weights, .ref h_na_joinedTo])), (h_na_weights, .inl (c_na_weights, 32, .inl na_weights)), (h_na_joinedTo, .inl (c_na_joinedTo, 32, .inl na_joinedTo)), (h_na_lengths, .inl (c_na_lengths, 16, .inl na_lengths)), (h_na_codes, .inl (c_na_codes, 16, .inl na_codes)), (h_wr, .inr (3, [.ref h_tb, .int wr_keeping, .int wr_count])), (h_tb, .inr (4, [.ref h_tb_bytes, .int tb_count])), (h_tb_bytes, .inl (c_tb_bytes, 2000, .inl tb_bytes)), (h_la_differs, .inl (c_la_differs, 40, .inr (.inl la_differs)))] [(c_la_ways, .int), (c_la_ys, .int), (c_la_symbolOf, .int), (c_di_heights, .int), (c_la_xs, .int), (c_di_widths, .int), (c_la_sequence, .int), (c_na_weights, .int), (c_na_joinedTo, .int), (c_na_lengths, .int), (c_na_codes, .int), (c_tb_bytes, .int), (c_la_differs, .long)] sz) U ∧ xw U))
      (va_Qi (fun (r : Int32) (u : (Nat → Int32) × (Nat → Int32) × (Nat → Int32) × (Nat → Int32) × (Nat → Int32) × (Nat → Int32) × (Nat → Int32) × (Nat → Int32) × Int32 × Int32 × Int32 × (Nat → Int32) × (Nat → Int64)) => (.inr (r, u) : String ⊕ (Int32 × (Nat → Int32) × (Nat → Int32) × (Nat → Int32) × (Nat → Int32) × (Nat → Int32) × (Nat → Int32) × (Nat → Int32) × (Nat → Int32) × Int32 × Int32 × Int32 × (Nat → Int32) × (Nat → Int64))) = o) (fun u t => va_P (dC, dI) CL [(h_tr, .inr (0, [u_tr_kind, u_tr_symbols, u_tr_page, u_tr_toldBytes, u_tr_cameBytes, .ref h_te, u_tr_reader, .ref h_la, u_tr_spare, u_tr_refusedAt])), (h_te, .inr (11, [.ref h_na, .ref h_wr])), (h_la, .inr (8, [.ref h_di, .ref h_la_ways, .ref h_la_symbolOf, .ref h_la_xs, .ref h_la_ys, .ref h_la_differs, .ref h_la_sequence, .int la_count])), (h_la_ways, .inl (c_la_ways, 4, .inl la_ways)), (h_la_ys, .inl (c_la_ys, 40, .inl (u.1))), (h_la_symbolOf, .inl (c_la_symbolOf, 40, .inl (u.2.1))), (h_di, .inr (6, [.ref h_di_widths, .ref h_di_heights, u_di_samples, .int di_count])), (h_di_heights, .inl (c_di_heights, 16, .inl di_heights)), (h_la_xs, .inl (c_la_xs, 40, .inl (u.2.2.1))), (h_di_widths, .inl (c_di_widths, 16, .inl di_widths)), (h_la_sequence, .inl (c_la_sequence, 40, .inl (u.2.2.2.1))), (h_na, .inr (5, [.ref h_di, .ref h_na_lengths, .ref h_na_codes, .ref h_na_weights, .ref h_na_joinedTo])), (h_na_weights, .inl (c_na_weights, 32, .inl (u.2.2.2.2.1))), (h_na_joinedTo, .inl (c_na_joinedTo, 32, .inl (u.2.2.2.2.2.1))), (h_na_lengths, .inl (c_na_lengths, 16, .inl (u.2.2.2.2.2.2.1))), (h_na_codes, .inl (c_na_codes, 16, .inl (u.2.2.2.2.2.2.2.1))), (h_wr, .inr (3, [.ref h_tb, .int (u.2.2.2.2.2.2.2.2.1), .int (u.2.2.2.2.2.2.2.2.2.1)])), (h_tb, .inr (4, [.ref h_tb_bytes, .int (u.2.2.2.2.2.2.2.2.2.2.1)])), (h_tb_bytes, .inl (c_tb_bytes, 2000, .inl (u.2.2.2.2.2.2.2.2.2.2.2.1))), (h_la_differs, .inl (c_la_differs, 40, .inr (.inl (u.2.2.2.2.2.2.2.2.2.2.2.2))))] t.heap ∧ va_K (dC, dI) CL [(c_la_ways, .int), (c_la_ys, .int), (c_la_symbolOf, .int), (c_di_heights, .int), (c_la_xs, .int), (c_di_widths, .int), (c_la_sequence, .int), (c_na_weights, .int), (c_na_joinedTo, .int), (c_na_lengths, .int), (c_na_codes, .int), (c_tb_bytes, .int), (c_la_differs, .long)] t ∧ va_D (va_A [(h_tr, .inr (0, [u_tr_kind, u_tr_symbols, u_tr_page, u_tr_toldBytes, u_tr_cameBytes, .ref h_te, u_tr_reader, .ref h_la, u_tr_spare, u_tr_refusedAt])), (h_te, .inr (11, [.ref h_na, .ref h_wr])), (h_la, .inr (8, [.ref h_di, .ref h_la_ways, .ref h_la_symbolOf, .ref h_la_xs, .ref h_la_ys, .ref h_la_differs, .ref h_la_sequence, .int la_count])), (h_la_ways, .inl (c_la_ways, 4, .inl la_ways)), (h_la_ys, .inl (c_la_ys, 40, .inl la_ys)), (h_la_symbolOf, .inl (c_la_symbolOf, 40, .inl la_symbolOf)), (h_di, .inr (6, [.ref h_di_widths, .ref h_di_heights, u_di_samples, .int di_count])), (h_di_heights, .inl (c_di_heights, 16, .inl di_heights)), (h_la_xs, .inl (c_la_xs, 40, .inl la_xs)), (h_di_widths, .inl (c_di_widths, 16, .inl di_widths)), (h_la_sequence, .inl (c_la_sequence, 40, .inl la_sequence)), (h_na, .inr (5, [.ref h_di, .ref h_na_lengths, .ref h_na_codes, .ref h_na_weights, .ref h_na_joinedTo])), (h_na_weights, .inl (c_na_weights, 32, .inl na_weights)), (h_na_joinedTo, .inl (c_na_joinedTo, 32, .inl na_joinedTo)), (h_na_lengths, .inl (c_na_lengths, 16, .inl na_lengths)), (h_na_codes, .inl (c_na_codes, 16, .inl na_codes)), (h_wr, .inr (3, [.ref h_tb, .int wr_keeping, .int wr_count])), (h_tb, .inr (4, [.ref h_tb_bytes, .int tb_count])), (h_tb_bytes, .inl (c_tb_bytes, 2000, .inl tb_bytes)), (h_la_differs, .inl (c_la_differs, 40, .inr (.inl la_differs)))] sz) [(h_tr, .inr (0, [u_tr_kind, u_tr_symbols, u_tr_page, u_tr_toldBytes, u_tr_cameBytes, .ref h_te, u_tr_reader, .ref h_la, u_tr_spare, u_tr_refusedAt])), (h_te, .inr (11, [.ref h_na, .ref h_wr])), (h_la, .inr (8, [.ref h_di, .ref h_la_ways, .ref h_la_symbolOf, .ref h_la_xs, .ref h_la_ys, .ref h_la_differs, .ref h_la_sequence, .int la_count])), (h_la_ways, .inl (c_la_ways, 4, .inl la_ways)), (h_la_ys, .inl (c_la_ys, 40, .inl (u.1))), (h_la_symbolOf, .inl (c_la_symbolOf, 40, .inl (u.2.1))), (h_di, .inr (6, [.ref h_di_widths, .ref h_di_heights, u_di_samples, .int di_count])), (h_di_heights, .inl (c_di_heights, 16, .inl di_heights)), (h_la_xs, .inl (c_la_xs, 40, .inl (u.2.2.1))), (h_di_widths, .inl (c_di_widths, 16, .inl di_widths)), (h_la_sequence, .inl (c_la_sequence, 40, .inl (u.2.2.2.1))), (h_na, .inr (5, [.ref h_di, .ref h_na_lengths, .ref h_na_codes, .ref h_na_weights, .ref h_na_joinedTo])), (h_na_weights, .inl (c_na_weights, 32, .inl (u.2.2.2.2.1))), (h_na_joinedTo, .inl (c_na_joinedTo, 32, .inl (u.2.2.2.2.2.1))), (h_na_lengths, .inl (c_na_lengths, 16, .inl (u.2.2.2.2.2.2.1))), (h_na_codes, .inl (c_na_codes, 16, .inl (u.2.2.2.2.2.2.2.1))), (h_wr, .inr (3, [.ref h_tb, .int (u.2.2.2.2.2.2.2.2.1), .int (u.2.2.2.2.2.2.2.2.2.1)])), (h_tb, .inr (4, [.ref h_tb_bytes, .int (u.2.2.2.2.2.2.2.2.2.2.1)])), (h_tb_bytes, .inl (c_tb_bytes, 2000, .inl (u.2.2.2.2.2.2.2.2.2.2.2.1))), (h_la_differs, .inl (c_la_differs, 40, .inr (.inl (u.2.2.2.2.2.2.2.2.2.2.2.2))))]) (va_A [(h_tr, .inr (0, [u_tr_kind, u_tr_symbols, u_tr_page, u_tr_toldBytes, u_tr_cameBytes, .ref h_te, u_tr_reader, .ref h_la, u_tr_spare, u_tr_refusedAt])), (h_te, .inr (11, [.ref h_na, .ref h_wr])), (h_la, .inr (8, [.ref h_di, .ref h_la_ways, .ref h_la_symbolOf, .ref h_la_xs, .ref h_la_ys, .ref h_la_differs, .ref h_la_sequence, .int la_count])), (h_la_ways, .inl (c_la_ways, 4, .inl la_ways)), (h_la_ys, .inl (c_la_ys, 40, .inl la_ys)), (h_la_symbolOf, .inl (c_la_symbolOf, 40, .inl la_symbolOf)), (h_di, .inr (6, [.ref h_di_widths, .ref h_di_heights, u_di_samples, .int di_count])), (h_di_heights, .inl (c_di_heights, 16, .inl di_heights)), (h_la_xs, .inl (c_la_xs, 40, .inl la_xs)), (h_di_widths, .inl (c_di_widths, 16, .inl di_widths)), (h_la_sequence, .inl (c_la_sequence, 40, .inl la_sequence)), (h_na, .inr (5, [.ref h_di, .ref h_na_lengths, .ref h_na_codes, .ref h_na_weights, .ref h_na_joinedTo])), (h_na_weights, .inl (c_na_weights, 32, .inl na_weights)), (h_na_joinedTo, .inl (c_na_joinedTo, 32, .inl na_joinedTo)), (h_na_lengths, .inl (c_na_lengths, 16, .inl na_lengths)), (h_na_codes, .inl (c_na_codes, 16, .inl na_codes)), (h_wr, .inr (3, [.ref h_tb, .int wr_keeping, .int wr_count])), (h_tb, .inr (4, [.ref h_tb_bytes, .int tb_count])), (h_tb_bytes, .inl (c_tb_bytes, 2000, .inl tb_bytes)), (h_la_differs, .inl (c_la_differs, 40, .inr (.inl la_differs)))] sz)) (fun cls => (.inl cls : String ⊕ (Int32 × (Nat → Int32) × (Nat → Int32) × (Nat → Int32) × (Nat → Int32) × (Nat → Int32) × (Nat → Int32) × (Nat → Int32) × (Nat → Int32) × Int32 × Int32 × Int32 × (Nat → Int32) × (Nat → Int64))) = o) 1 6 (va_A [(h_tr, .inr (0, [u_tr_kind, u_tr_symbols, u_tr_page, u_tr_toldBytes, u_tr_cameBytes, .ref h_te, u_tr_reader, .ref h_la, u_tr_spare, u_tr_refusedAt])), (h_te, .inr (11, [.ref h_na, .ref h_wr])), (h_la, .inr (8, [.ref h_di, .ref h_la_ways, .ref h_la_symbolOf, .ref h_la_xs, .ref h_la_ys, .ref h_la_differs, .ref h_la_sequence, .int la_count])), (h_la_ways, .inl (c_la_ways, 4, .inl la_ways)), (h_la_ys, .inl (c_la_ys, 40, .inl la_ys)), (h_la_symbolOf, .inl (c_la_symbolOf, 40, .inl la_symbolOf)), (h_di, .inr (6, [.ref h_di_widths, .ref h_di_heights, u_di_samples, .int di_count])), (h_di_heights, .inl (c_di_heights, 16, .inl di_heights)), (h_la_xs, .inl (c_la_xs, 40, .inl la_xs)), (h_di_widths, .inl (c_di_widths, 16, .inl di_widths)), (h_la_sequence, .inl (c_la_sequence, 40, .inl la_sequence)), (h_na, .inr (5, [.ref h_di, .ref h_na_lengths, .ref h_na_codes, .ref h_na_weights, .ref h_na_joinedTo])), (h_na_weights, .inl (c_na_weights, 32, .inl na_weights)), (h_na_joinedTo, .inl (c_na_joinedTo, 32, .inl na_joinedTo)), (h_na_lengths, .inl (c_na_lengths, 16, .inl na_lengths)), (h_na_codes, .inl (c_na_codes, 16, .inl na_codes)), (h_wr, .inr (3, [.ref h_tb, .int wr_keeping, .int wr_count])), (h_tb, .inr (4, [.ref h_tb_bytes, .int tb_count])), (h_tb_bytes, .inl (c_tb_bytes, 2000, .inl tb_bytes)), (h_la_differs, .inl (c_la_differs, 40, .inr (.inl la_differs)))] sz) := by
  refine XMet.ofW (cc := b_Top_order) (maxL := 4) (ret := (some .int)) (by decide) rfl ?_
  intro p e s m args below meth c s₁ B hml hnt hv
  obtain ⟨e9, hv, hxw⟩ := hv
  have hv := And.intro e9 hv
  clear e9
  obtain ⟨rfl, ⟨hsz, hP, hK, hD0, hnw⟩, hst⟩ := hv
  have hx := B.exec
  have hb := B.bytes
  have hr := B.returns
  have hts := atoms_spec (ws := ws_Top_order) B.pre
  have hB : ∀ w ∈ BIG, w.before _ s = true := fun w h => hts w (List.mem_cons_of_mem _ h)
  have hown : s.vm.findClass R_Top = some m.cls := findClass_of_methodNamed B.named
  have hlocks := B.notSynchronized
  subst hsz
  have hD := hD0.self (sz := s.heap.size)
  refine W_Q (fun Q9 eQ => ?_)
  generalize hAe : va_A [(h_tr, .inr (0, [u_tr_kind, u_tr_symbols, u_tr_page, u_tr_toldBytes, u_tr_cameBytes, .ref h_te, u_tr_reader, .ref h_la, u_tr_spare, u_tr_refusedAt])), (h_te, .inr (11, [.ref h_na, .ref h_wr])), (h_la, .inr (8, [.ref h_di, .ref h_la_ways, .ref h_la_symbolOf, .ref h_la_xs, .ref h_la_ys, .ref h_la_differs, .ref h_la_sequence, .int la_count])), (h_la_ways, .inl (c_la_ways, 4, .inl la_ways)), (h_la_ys, .inl (c_la_ys, 40, .inl la_ys)), (h_la_symbolOf, .inl (c_la_symbolOf, 40, .inl la_symbolOf)), (h_di, .inr (6, [.ref h_di_widths, .ref h_di_heights, u_di_samples, .int di_count])), (h_di_heights, .inl (c_di_heights, 16, .inl di_heights)), (h_la_xs, .inl (c_la_xs, 40, .inl la_xs)), (h_di_widths, .inl (c_di_widths, 16, .inl di_widths)), (h_la_sequence, .inl (c_la_sequence, 40, .inl la_sequence)), (h_na, .inr (5, [.ref h_di, .ref h_na_lengths, .ref h_na_codes, .ref h_na_weights, .ref h_na_joinedTo])), (h_na_weights, .inl (c_na_weights, 32, .inl na_weights)), (h_na_joinedTo, .inl (c_na_joinedTo, 32, .inl na_joinedTo)), (h_na_lengths, .inl (c_na_lengths, 16, .inl na_lengths)), (h_na_codes, .inl (c_na_codes, 16, .inl na_codes)), (h_wr, .inr (3, [.ref h_tb, .int wr_keeping, .int wr_count])), (h_tb, .inr (4, [.ref h_tb_bytes, .int tb_count])), (h_tb_bytes, .inl (c_tb_bytes, 2000, .inl tb_bytes)), (h_la_differs, .inl (c_la_differs, 40, .inr (.inl la_differs)))] s.heap.size = A at hD eQ hst
  obtain ⟨⟨h_st_MOST_OF_WAY, hz_MOST_OF_WAY, ht_MOST_OF_WAY⟩, ⟨h_st_BITS_OF_WAY, hz_BITS_OF_WAY, ht_BITS_OF_WAY⟩, ⟨h_st_WAYS_AS_TOLD, hz_WAYS_AS_TOLD, ht_WAYS_AS_TOLD⟩⟩ := id hst
  have hA : ∀ q : Nat, s.heap.size ≤ q → A q := fun q h => by rw [← hAe]; exact Or.inr h
  have hS : va_S A s.heap s.heap [] := va_S.rf
  have hl := lv_entry ([.ref h_tr, .int p0]) (n := 4) (Nat.le_of_ble_eq_true rfl)
  rw [lg_entry_eq]
  generalize (lg_sl ([.ref h_tr, .int p0]) ++ List.replicate (4 - (lg_sl ([.ref h_tr, .int p0])).length) Slot.unset).toArray = ls at hl ⊢
  have hl : lv_has ls 4 [(0, .ref h_tr), (1, .int p0)] := hl
  have h := hf
  unfold f_Top_order_C at h
  refine lv_iload_n hx hb d_Top_order_0 rfl (lv_at hl 1 rfl) ?_
  refine lv_iconst (v := 0) hx hb d_Top_order_1 (by decide) ?_
  refine lv_bipush (v := 8) hx hb d_Top_order_2 (by decide) ?_
  obtain ⟨o9, hc9, h⟩ := bd_e h
  have hPc := hP.sub (ws' := []) [] rfl
  have hKc := hK.sub (tys' := []) [] rfl
  refine vp_callSi (va_Run.run (va_runS (As := [.int p0, .int (0 : Int32), .int (8 : Int32)]) (rest := []) ⟨hx, hb, hml, hown, hB⟩ (c_Top_isWithin l dC dI p0 (0 : Int32) (8 : Int32) o9 hc9) (va_cwS 3 hB (goodA (m3 bw_600 bw_343 bw_1) (goodB bw_344)) rfl rfl rfl (by decide +kernel) ⟨Nat.le_of_ble_eq_true rfl, Nat.le_of_ble_eq_true rfl⟩) ⟨fb_p, (pre_p hPc hKc hnw [.int p0, .int (0 : Int32), .int (8 : Int32)])⟩ rfl rfl hl.1 rfl (lv_room (Nat.le_of_ble_eq_true rfl)) d_Top_order_4 ⟨Nat.zero_le _, Nat.zero_le _⟩)) (fun r_1 e_r_1 => ?_)
  subst e_r_1
  clear hPc hKc hc9
  refine lv_if_ne (tgt := 20) hx hb d_Top_order_7 (by decide) (fun c_1 => ?_) (fun c_1 => ?_)
  · have h := if_f h c_1
    refine lv_aload_n hx hb d_Top_order_20 rfl (lv_at hl 0 rfl) ?_
    refine va_get (D := (dC, dI)) (ci := 0) (v := .ref h_te) (C := R_Top) (T := T_Top) (N := 10) hx hb hB iw_Top hown hK hP 0 rfl rfl 5 (by decide) (hB _ bw_265) (fun _ h9 => h9) rfl d_Top_order_21 ?_
    refine lv_aload_n hx hb d_Top_order_24 rfl (lv_at hl 0 rfl) ?_
    refine va_get (D := (dC, dI)) (ci := 0) (v := .ref h_la) (C := R_Top) (T := T_Top) (N := 10) hx hb hB iw_Top hown hK hP 0 rfl rfl 7 (by decide) (hB _ bw_267) (fun _ h9 => h9) rfl d_Top_order_25 ?_
    obtain ⟨o9, hc9, h⟩ := bd_e h
    have hPc := hP.sub (ws' := [(h_te, .inr (11, [.ref h_na, .ref h_wr])), (h_la, .inr (8, [.ref h_di, .ref h_la_ways, .ref h_la_symbolOf, .ref h_la_xs, .ref h_la_ys, .ref h_la_differs, .ref h_la_sequence, .int la_count])), (h_la_ways, .inl (c_la_ways, 4, .inl la_ways)), (h_la_ys, .inl (c_la_ys, 40, .inl la_ys)), (h_la_symbolOf, .inl (c_la_symbolOf, 40, .inl la_symbolOf)), (h_di, .inr (6, [.ref h_di_widths, .ref h_di_heights, u_di_samples, .int di_count])), (h_di_heights, .inl (c_di_heights, 16, .inl di_heights)), (h_la_xs, .inl (c_la_xs, 40, .inl la_xs)), (h_di_widths, .inl (c_di_widths, 16, .inl di_widths)), (h_la_sequence, .inl (c_la_sequence, 40, .inl la_sequence)), (h_na, .inr (5, [.ref h_di, .ref h_na_lengths, .ref h_na_codes, .ref h_na_weights, .ref h_na_joinedTo])), (h_na_weights, .inl (c_na_weights, 32, .inl na_weights)), (h_na_joinedTo, .inl (c_na_joinedTo, 32, .inl na_joinedTo)), (h_na_lengths, .inl (c_na_lengths, 16, .inl na_lengths)), (h_na_codes, .inl (c_na_codes, 16, .inl na_codes))]) [1, 2, 3, 4, 5, 6, 7, 8, 9, 10, 11, 12, 13, 14, 15] rfl
    have hKc := hK.sub (tys' := [(c_la_ways, .int), (c_la_ys, .int), (c_la_symbolOf, .int), (c_di_heights, .int), (c_la_xs, .int), (c_di_widths, .int), (c_la_sequence, .int), (c_na_weights, .int), (c_na_joinedTo, .int), (c_na_lengths, .int), (c_na_codes, .int)]) [0, 1, 2, 3, 4, 5, 6, 7, 8, 9, 10] rfl
    have hDc := hD.sub (ws' := [(h_te, .inr (11, [.ref h_na, .ref h_wr])), (h_la, .inr (8, [.ref h_di, .ref h_la_ways, .ref h_la_symbolOf, .ref h_la_xs, .ref h_la_ys, .ref h_la_differs, .ref h_la_sequence, .int la_count])), (h_la_ways, .inl (c_la_ways, 4, .inl la_ways)), (h_la_ys, .inl (c_la_ys, 40, .inl la_ys)), (h_la_symbolOf, .inl (c_la_symbolOf, 40, .inl la_symbolOf)), (h_di, .inr (6, [.ref h_di_widths, .ref h_di_heights, u_di_samples, .int di_count])), (h_di_heights, .inl (c_di_heights, 16, .inl di_heights)), (h_la_xs, .inl (c_la_xs, 40, .inl la_xs)), (h_di_widths, .inl (c_di_widths, 16, .inl di_widths)), (h_la_sequence, .inl (c_la_sequence, 40, .inl la_sequence)), (h_na, .inr (5, [.ref h_di, .ref h_na_lengths, .ref h_na_codes, .ref h_na_weights, .ref h_na_joinedTo])), (h_na_weights, .inl (c_na_weights, 32, .inl na_weights)), (h_na_joinedTo, .inl (c_na_joinedTo, 32, .inl na_joinedTo)), (h_na_lengths, .inl (c_na_lengths, 16, .inl na_lengths)), (h_na_codes, .inl (c_na_codes, 16, .inl na_codes))]) [1, 2, 3, 4, 5, 6, 7, 8, 9, 10, 11, 12, 13, 14, 15] (by decide) rfl
    have hFc := va_free (wc := [(h_te, .inr (11, [.ref h_na, .ref h_wr])), (h_la, .inr (8, [.ref h_di, .ref h_la_ways, .ref h_la_symbolOf, .ref h_la_xs, .ref h_la_ys, .ref h_la_differs, .ref h_la_sequence, .int la_count])), (h_la_ways, .inl (c_la_ways, 4, .inl la_ways)), (h_la_ys, .inl (c_la_ys, 40, .inl la_ys)), (h_la_symbolOf, .inl (c_la_symbolOf, 40, .inl la_symbolOf)), (h_di, .inr (6, [.ref h_di_widths, .ref h_di_heights, u_di_samples, .int di_count])), (h_di_heights, .inl (c_di_heights, 16, .inl di_heights)), (h_la_xs, .inl (c_la_xs, 40, .inl la_xs)), (h_di_widths, .inl (c_di_widths, 16, .inl di_widths)), (h_la_sequence, .inl (c_la_sequence, 40, .inl la_sequence)), (h_na, .inr (5, [.ref h_di, .ref h_na_lengths, .ref h_na_codes, .ref h_na_weights, .ref h_na_joinedTo])), (h_na_weights, .inl (c_na_weights, 32, .inl na_weights)), (h_na_joinedTo, .inl (c_na_joinedTo, 32, .inl na_joinedTo)), (h_na_lengths, .inl (c_na_lengths, 16, .inl na_lengths)), (h_na_codes, .inl (c_na_codes, 16, .inl na_codes))]) hD hS hA [1, 2, 3, 4, 5, 6, 7, 8, 9, 10, 11, 12, 13, 14, 15] rfl
    refine va_callv (va_runVN (As := [.ref h_la]) (rest := []) ⟨hx, hb, hml, hown, hB⟩ (c_Teller_prepare_C l dC dI h_te h_la h_la_ways h_la_ys h_la_symbolOf h_di h_di_heights h_la_xs h_di_widths h_la_sequence h_na h_na_weights h_na_joinedTo h_na_lengths h_na_codes c_la_ways c_la_ys c_la_symbolOf c_di_heights c_la_xs c_di_widths c_la_sequence c_na_weights c_na_joinedTo c_na_lengths c_na_codes (.ref h_wr) (.ref h_la_differs) u_di_samples la_count la_ways la_ys la_symbolOf di_count di_heights la_xs di_widths la_sequence na_weights na_joinedTo na_lengths na_codes _ o9 hc9) ⟨va_cnB 1 hB (goodB bw_359) rfl rfl rfl (hnw.1 _ bn_356) (hB _ bw_8) (by decide +kernel) ⟨Nat.le_of_ble_eq_true rfl, Nat.le_of_ble_eq_true rfl⟩, hB _ bw_358, hB _ bs_12⟩ ⟨fb_m, va_recv hK hP (ci := 11) (q0 := 1) rfl rfl, (pre_m hPc hKc hDc hnw [.ref h_te, .ref h_la])⟩ rfl rfl hl.1 rfl (lv_room (Nat.le_of_ble_eq_true rfl)) d_Top_order_28 ⟨Nat.zero_le _, Nat.zero_le _⟩) hS (fun q _ h => hFc q h) hFc (fun u9 t H1 locs ht hvm hw hB hz1 hk1 hS => ?_)
    obtain ⟨la_sequence_2, na_weights_3, na_joinedTo_4, na_lengths_5, na_codes_6⟩ := u9
    subst hw
    obtain ⟨hP1, hK1, hD1⟩ := hB
    rw [ht] at hP1
    obtain ⟨hP, hD⟩ := va_join (wr := [(h_tr, .inr (0, [u_tr_kind, u_tr_symbols, u_tr_page, u_tr_toldBytes, u_tr_cameBytes, .ref h_te, u_tr_reader, .ref h_la, u_tr_spare, u_tr_refusedAt])), (h_wr, .inr (3, [.ref h_tb, .int wr_keeping, .int wr_count])), (h_tb, .inr (4, [.ref h_tb_bytes, .int tb_count])), (h_tb_bytes, .inl (c_tb_bytes, 2000, .inl tb_bytes)), (h_la_differs, .inl (c_la_differs, 40, .inr (.inl la_differs)))]) (w1 := [(h_te, .inr (11, [.ref h_na, .ref h_wr])), (h_la, .inr (8, [.ref h_di, .ref h_la_ways, .ref h_la_symbolOf, .ref h_la_xs, .ref h_la_ys, .ref h_la_differs, .ref h_la_sequence, .int la_count])), (h_la_ways, .inl (c_la_ways, 4, .inl la_ways)), (h_la_ys, .inl (c_la_ys, 40, .inl la_ys)), (h_la_symbolOf, .inl (c_la_symbolOf, 40, .inl la_symbolOf)), (h_di, .inr (6, [.ref h_di_widths, .ref h_di_heights, u_di_samples, .int di_count])), (h_di_heights, .inl (c_di_heights, 16, .inl di_heights)), (h_la_xs, .inl (c_la_xs, 40, .inl la_xs)), (h_di_widths, .inl (c_di_widths, 16, .inl di_widths)), (h_la_sequence, .inl (c_la_sequence, 40, .inl la_sequence_2)), (h_na, .inr (5, [.ref h_di, .ref h_na_lengths, .ref h_na_codes, .ref h_na_weights, .ref h_na_joinedTo])), (h_na_weights, .inl (c_na_weights, 32, .inl na_weights_3)), (h_na_joinedTo, .inl (c_na_joinedTo, 32, .inl na_joinedTo_4)), (h_na_lengths, .inl (c_na_lengths, 16, .inl na_lengths_5)), (h_na_codes, .inl (c_na_codes, 16, .inl na_codes_6))]) hP hD [1, 2, 3, 4, 5, 6, 7, 8, 9, 10, 11, 12, 13, 14, 15] [0, 16, 17, 18, 19] rfl rfl (by decide) (by decide) hk1 hFc hP1 hD1
    have hP := hP.sub (ws' := [(h_tr, .inr (0, [u_tr_kind, u_tr_symbols, u_tr_page, u_tr_toldBytes, u_tr_cameBytes, .ref h_te, u_tr_reader, .ref h_la, u_tr_spare, u_tr_refusedAt])), (h_te, .inr (11, [.ref h_na, .ref h_wr])), (h_la, .inr (8, [.ref h_di, .ref h_la_ways, .ref h_la_symbolOf, .ref h_la_xs, .ref h_la_ys, .ref h_la_differs, .ref h_la_sequence, .int la_count])), (h_la_ways, .inl (c_la_ways, 4, .inl la_ways)), (h_la_ys, .inl (c_la_ys, 40, .inl la_ys)), (h_la_symbolOf, .inl (c_la_symbolOf, 40, .inl la_symbolOf)), (h_di, .inr (6, [.ref h_di_widths, .ref h_di_heights, u_di_samples, .int di_count])), (h_di_heights, .inl (c_di_heights, 16, .inl di_heights)), (h_la_xs, .inl (c_la_xs, 40, .inl la_xs)), (h_di_widths, .inl (c_di_widths, 16, .inl di_widths)), (h_la_sequence, .inl (c_la_sequence, 40, .inl la_sequence_2)), (h_na, .inr (5, [.ref h_di, .ref h_na_lengths, .ref h_na_codes, .ref h_na_weights, .ref h_na_joinedTo])), (h_na_weights, .inl (c_na_weights, 32, .inl na_weights_3)), (h_na_joinedTo, .inl (c_na_joinedTo, 32, .inl na_joinedTo_4)), (h_na_lengths, .inl (c_na_lengths, 16, .inl na_lengths_5)), (h_na_codes, .inl (c_na_codes, 16, .inl na_codes_6)), (h_wr, .inr (3, [.ref h_tb, .int wr_keeping, .int wr_count])), (h_tb, .inr (4, [.ref h_tb_bytes, .int tb_count])), (h_tb_bytes, .inl (c_tb_bytes, 2000, .inl tb_bytes)), (h_la_differs, .inl (c_la_differs, 40, .inr (.inl la_differs)))]) [0, 5, 6, 7, 8, 9, 10, 11, 12, 13, 14, 15, 16, 17, 18, 19, 1, 2, 3, 4] rfl
    have hD := hD.sub (ws' := [(h_tr, .inr (0, [u_tr_kind, u_tr_symbols, u_tr_page, u_tr_toldBytes, u_tr_cameBytes, .ref h_te, u_tr_reader, .ref h_la, u_tr_spare, u_tr_refusedAt])), (h_te, .inr (11, [.ref h_na, .ref h_wr])), (h_la, .inr (8, [.ref h_di, .ref h_la_ways, .ref h_la_symbolOf, .ref h_la_xs, .ref h_la_ys, .ref h_la_differs, .ref h_la_sequence, .int la_count])), (h_la_ways, .inl (c_la_ways, 4, .inl la_ways)), (h_la_ys, .inl (c_la_ys, 40, .inl la_ys)), (h_la_symbolOf, .inl (c_la_symbolOf, 40, .inl la_symbolOf)), (h_di, .inr (6, [.ref h_di_widths, .ref h_di_heights, u_di_samples, .int di_count])), (h_di_heights, .inl (c_di_heights, 16, .inl di_heights)), (h_la_xs, .inl (c_la_xs, 40, .inl la_xs)), (h_di_widths, .inl (c_di_widths, 16, .inl di_widths)), (h_la_sequence, .inl (c_la_sequence, 40, .inl la_sequence_2)), (h_na, .inr (5, [.ref h_di, .ref h_na_lengths, .ref h_na_codes, .ref h_na_weights, .ref h_na_joinedTo])), (h_na_weights, .inl (c_na_weights, 32, .inl na_weights_3)), (h_na_joinedTo, .inl (c_na_joinedTo, 32, .inl na_joinedTo_4)), (h_na_lengths, .inl (c_na_lengths, 16, .inl na_lengths_5)), (h_na_codes, .inl (c_na_codes, 16, .inl na_codes_6)), (h_wr, .inr (3, [.ref h_tb, .int wr_keeping, .int wr_count])), (h_tb, .inr (4, [.ref h_tb_bytes, .int tb_count])), (h_tb_bytes, .inl (c_tb_bytes, 2000, .inl tb_bytes)), (h_la_differs, .inl (c_la_differs, 40, .inr (.inl la_differs)))]) [0, 5, 6, 7, 8, 9, 10, 11, 12, 13, 14, 15, 16, 17, 18, 19, 1, 2, 3, 4] (by decide) rfl
    clear hPc hKc hDc hFc hc9 hP1 hK1 hD1 hk1 hz1 hvm ht
    generalize H1 = H at hP hS ⊢
    try dsimp only at h
    refine lv_aload_n hx hb d_Top_order_31 rfl (lv_at hl 0 rfl) ?_
    refine va_get (D := (dC, dI)) (ci := 0) (v := .ref h_la) (C := R_Top) (T := T_Top) (N := 10) hx hb hB iw_Top hown hK hP 0 rfl rfl 7 (by decide) (hB _ bw_267) (fun _ h9 => h9) rfl d_Top_order_32 ?_
    refine va_getN (D := (dC, dI)) (ci := 8) (v := .ref h_la_ways) (C := R_Layout) (T := T_Layout) (N := 8) hx hb hB iw_Layout hown hK hP 2 rfl rfl 1 (by decide) (va_Nw.use rfl (hnw.1 _ bn_217)) (fun _ h9 => h9) rfl d_Top_order_35 ?_
    refine lv_iconst (v := 3) hx hb d_Top_order_38 (by decide) ?_
    obtain ⟨hin, h⟩ := gq_e h
    refine va_iald hx hb hK hP 3 0 rfl rfl hin d_Top_order_39 ?_
    refine lv_iconst (v := 4) hx hb d_Top_order_40 (by decide) ?_
    obtain ⟨j68, e_j68, h⟩ := jn_e h
    have w_j68 : ∀ (la_ys_7 : (Nat → Int32)) (la_symbolOf_8 : (Nat → Int32)) (la_xs_9 : (Nat → Int32)) (wr_keeping_10 : Int32) (wr_count_11 : Int32) (tb_count_12 : Int32) (tb_bytes_13 : (Nat → Int32)) (la_differs_14 : (Nat → Int64)) (H : Heap) (locs : List Loc) (ls : Array Slot), j68 la_ys_7 la_symbolOf_8 la_xs_9 wr_keeping_10 wr_count_11 tb_count_12 tb_bytes_13 la_differs_14 = some o → va_P (dC, dI) CL [(h_tr, .inr (0, [u_tr_kind, u_tr_symbols, u_tr_page, u_tr_toldBytes, u_tr_cameBytes, .ref h_te, u_tr_reader, .ref h_la, u_tr_spare, u_tr_refusedAt])), (h_te, .inr (11, [.ref h_na, .ref h_wr])), (h_la, .inr (8, [.ref h_di, .ref h_la_ways, .ref h_la_symbolOf, .ref h_la_xs, .ref h_la_ys, .ref h_la_differs, .ref h_la_sequence, .int la_count])), (h_la_ways, .inl (c_la_ways, 4, .inl la_ways)), (h_la_ys, .inl (c_la_ys, 40, .inl la_ys_7)), (h_la_symbolOf, .inl (c_la_symbolOf, 40, .inl la_symbolOf_8)), (h_di, .inr (6, [.ref h_di_widths, .ref h_di_heights, u_di_samples, .int di_count])), (h_di_heights, .inl (c_di_heights, 16, .inl di_heights)), (h_la_xs, .inl (c_la_xs, 40, .inl la_xs_9)), (h_di_widths, .inl (c_di_widths, 16, .inl di_widths)), (h_la_sequence, .inl (c_la_sequence, 40, .inl la_sequence_2)), (h_na, .inr (5, [.ref h_di, .ref h_na_lengths, .ref h_na_codes, .ref h_na_weights, .ref h_na_joinedTo])), (h_na_weights, .inl (c_na_weights, 32, .inl na_weights_3)), (h_na_joinedTo, .inl (c_na_joinedTo, 32, .inl na_joinedTo_4)), (h_na_lengths, .inl (c_na_lengths, 16, .inl na_lengths_5)), (h_na_codes, .inl (c_na_codes, 16, .inl na_codes_6)), (h_wr, .inr (3, [.ref h_tb, .int wr_keeping_10, .int wr_count_11])), (h_tb, .inr (4, [.ref h_tb_bytes, .int tb_count_12])), (h_tb_bytes, .inl (c_tb_bytes, 2000, .inl tb_bytes_13)), (h_la_differs, .inl (c_la_differs, 40, .inr (.inl la_differs_14)))] H → va_D A [(h_tr, .inr (0, [u_tr_kind, u_tr_symbols, u_tr_page, u_tr_toldBytes, u_tr_cameBytes, .ref h_te, u_tr_reader, .ref h_la, u_tr_spare, u_tr_refusedAt])), (h_te, .inr (11, [.ref h_na, .ref h_wr])), (h_la, .inr (8, [.ref h_di, .ref h_la_ways, .ref h_la_symbolOf, .ref h_la_xs, .ref h_la_ys, .ref h_la_differs, .ref h_la_sequence, .int la_count])), (h_la_ways, .inl (c_la_ways, 4, .inl la_ways)), (h_la_ys, .inl (c_la_ys, 40, .inl la_ys_7)), (h_la_symbolOf, .inl (c_la_symbolOf, 40, .inl la_symbolOf_8)), (h_di, .inr (6, [.ref h_di_widths, .ref h_di_heights, u_di_samples, .int di_count])), (h_di_heights, .inl (c_di_heights, 16, .inl di_heights)), (h_la_xs, .inl (c_la_xs, 40, .inl la_xs_9)), (h_di_widths, .inl (c_di_widths, 16, .inl di_widths)), (h_la_sequence, .inl (c_la_sequence, 40, .inl la_sequence_2)), (h_na, .inr (5, [.ref h_di, .ref h_na_lengths, .ref h_na_codes, .ref h_na_weights, .ref h_na_joinedTo])), (h_na_weights, .inl (c_na_weights, 32, .inl na_weights_3)), (h_na_joinedTo, .inl (c_na_joinedTo, 32, .inl na_joinedTo_4)), (h_na_lengths, .inl (c_na_lengths, 16, .inl na_lengths_5)), (h_na_codes, .inl (c_na_codes, 16, .inl na_codes_6)), (h_wr, .inr (3, [.ref h_tb, .int wr_keeping_10, .int wr_count_11])), (h_tb, .inr (4, [.ref h_tb_bytes, .int tb_count_12])), (h_tb_bytes, .inl (c_tb_bytes, 2000, .inl tb_bytes_13)), (h_la_differs, .inl (c_la_differs, 40, .inr (.inl la_differs_14)))] → va_S A s.heap H locs → lv_has ls 4 [(0, .ref h_tr)] → W p l e ({ frames := 7, cells := 1, slots := 6, locals := 173 } : Room) s m ([.ref h_tr, .int p0] : List Value).toArray below meth c H locs 0 0 Q9 (F0 m 68 ls []) := by
      intro la_ys_7 la_symbolOf_8 la_xs_9 wr_keeping_10 wr_count_11 tb_count_12 tb_bytes_13 la_differs_14 H locs ls h hP hD hS hl
      rw [e_j68] at h
      refine lv_aload_n hx hb d_Top_order_68 rfl (lv_at hl 0 rfl) ?_
      refine va_get (D := (dC, dI)) (ci := 0) (v := .ref h_te) (C := R_Top) (T := T_Top) (N := 10) hx hb hB iw_Top hown hK hP 0 rfl rfl 5 (by decide) (hB _ bw_265) (fun _ h9 => h9) rfl d_Top_order_69 ?_
      refine lv_aload_n hx hb d_Top_order_72 rfl (lv_at hl 0 rfl) ?_
      refine va_get (D := (dC, dI)) (ci := 0) (v := .ref h_la) (C := R_Top) (T := T_Top) (N := 10) hx hb hB iw_Top hown hK hP 0 rfl rfl 7 (by decide) (hB _ bw_267) (fun _ h9 => h9) rfl d_Top_order_73 ?_
      refine lv_iconst (v := 0) hx hb d_Top_order_76 (by decide) ?_
      obtain ⟨o9, hc9, h⟩ := bd_e h
      have hPc := hP.sub (ws' := [(h_te, .inr (11, [.ref h_na, .ref h_wr])), (h_la, .inr (8, [.ref h_di, .ref h_la_ways, .ref h_la_symbolOf, .ref h_la_xs, .ref h_la_ys, .ref h_la_differs, .ref h_la_sequence, .int la_count])), (h_wr, .inr (3, [.ref h_tb, .int wr_keeping_10, .int wr_count_11])), (h_tb, .inr (4, [.ref h_tb_bytes, .int tb_count_12])), (h_tb_bytes, .inl (c_tb_bytes, 2000, .inl tb_bytes_13)), (h_la_ways, .inl (c_la_ways, 4, .inl la_ways)), (h_na, .inr (5, [.ref h_di, .ref h_na_lengths, .ref h_na_codes, .ref h_na_weights, .ref h_na_joinedTo])), (h_di, .inr (6, [.ref h_di_widths, .ref h_di_heights, u_di_samples, .int di_count])), (h_na_lengths, .inl (c_na_lengths, 16, .inl na_lengths_5)), (h_la_sequence, .inl (c_la_sequence, 40, .inl la_sequence_2)), (h_la_symbolOf, .inl (c_la_symbolOf, 40, .inl la_symbolOf_8)), (h_la_xs, .inl (c_la_xs, 40, .inl la_xs_9)), (h_di_widths, .inl (c_di_widths, 16, .inl di_widths)), (h_la_ys, .inl (c_la_ys, 40, .inl la_ys_7)), (h_di_heights, .inl (c_di_heights, 16, .inl di_heights)), (h_na_codes, .inl (c_na_codes, 16, .inl na_codes_6)), (h_la_differs, .inl (c_la_differs, 40, .inr (.inl la_differs_14)))]) [1, 2, 16, 17, 18, 3, 11, 6, 14, 10, 5, 8, 9, 4, 7, 15, 19] rfl
      have hKc := hK.sub (tys' := [(c_tb_bytes, .int), (c_la_ways, .int), (c_na_lengths, .int), (c_la_sequence, .int), (c_la_symbolOf, .int), (c_la_xs, .int), (c_di_widths, .int), (c_la_ys, .int), (c_di_heights, .int), (c_na_codes, .int), (c_la_differs, .long)]) [11, 0, 9, 6, 2, 4, 5, 1, 3, 10, 12] rfl
      have hDc := hD.sub (ws' := [(h_te, .inr (11, [.ref h_na, .ref h_wr])), (h_la, .inr (8, [.ref h_di, .ref h_la_ways, .ref h_la_symbolOf, .ref h_la_xs, .ref h_la_ys, .ref h_la_differs, .ref h_la_sequence, .int la_count])), (h_wr, .inr (3, [.ref h_tb, .int wr_keeping_10, .int wr_count_11])), (h_tb, .inr (4, [.ref h_tb_bytes, .int tb_count_12])), (h_tb_bytes, .inl (c_tb_bytes, 2000, .inl tb_bytes_13)), (h_la_ways, .inl (c_la_ways, 4, .inl la_ways)), (h_na, .inr (5, [.ref h_di, .ref h_na_lengths, .ref h_na_codes, .ref h_na_weights, .ref h_na_joinedTo])), (h_di, .inr (6, [.ref h_di_widths, .ref h_di_heights, u_di_samples, .int di_count])), (h_na_lengths, .inl (c_na_lengths, 16, .inl na_lengths_5)), (h_la_sequence, .inl (c_la_sequence, 40, .inl la_sequence_2)), (h_la_symbolOf, .inl (c_la_symbolOf, 40, .inl la_symbolOf_8)), (h_la_xs, .inl (c_la_xs, 40, .inl la_xs_9)), (h_di_widths, .inl (c_di_widths, 16, .inl di_widths)), (h_la_ys, .inl (c_la_ys, 40, .inl la_ys_7)), (h_di_heights, .inl (c_di_heights, 16, .inl di_heights)), (h_na_codes, .inl (c_na_codes, 16, .inl na_codes_6)), (h_la_differs, .inl (c_la_differs, 40, .inr (.inl la_differs_14)))]) [1, 2, 16, 17, 18, 3, 11, 6, 14, 10, 5, 8, 9, 4, 7, 15, 19] (by decide) rfl
      have hFc := va_free (wc := [(h_te, .inr (11, [.ref h_na, .ref h_wr])), (h_la, .inr (8, [.ref h_di, .ref h_la_ways, .ref h_la_symbolOf, .ref h_la_xs, .ref h_la_ys, .ref h_la_differs, .ref h_la_sequence, .int la_count])), (h_wr, .inr (3, [.ref h_tb, .int wr_keeping_10, .int wr_count_11])), (h_tb, .inr (4, [.ref h_tb_bytes, .int tb_count_12])), (h_tb_bytes, .inl (c_tb_bytes, 2000, .inl tb_bytes_13)), (h_la_ways, .inl (c_la_ways, 4, .inl la_ways)), (h_na, .inr (5, [.ref h_di, .ref h_na_lengths, .ref h_na_codes, .ref h_na_weights, .ref h_na_joinedTo])), (h_di, .inr (6, [.ref h_di_widths, .ref h_di_heights, u_di_samples, .int di_count])), (h_na_lengths, .inl (c_na_lengths, 16, .inl na_lengths_5)), (h_la_sequence, .inl (c_la_sequence, 40, .inl la_sequence_2)), (h_la_symbolOf, .inl (c_la_symbolOf, 40, .inl la_symbolOf_8)), (h_la_xs, .inl (c_la_xs, 40, .inl la_xs_9)), (h_di_widths, .inl (c_di_widths, 16, .inl di_widths)), (h_la_ys, .inl (c_la_ys, 40, .inl la_ys_7)), (h_di_heights, .inl (c_di_heights, 16, .inl di_heights)), (h_na_codes, .inl (c_na_codes, 16, .inl na_codes_6)), (h_la_differs, .inl (c_la_differs, 40, .inr (.inl la_differs_14)))]) hD hS hA [1, 2, 16, 17, 18, 3, 11, 6, 14, 10, 5, 8, 9, 4, 7, 15, 19] rfl
      refine va_calli (va_runVN (As := [.ref h_la, .int (0 : Int32)]) (rest := []) ⟨hx, hb, hml, hown, hB⟩ (c_Teller_tellAll_C l dC dI h_te h_la h_wr h_tb h_tb_bytes h_la_ways h_na h_di h_na_lengths h_la_sequence h_la_symbolOf h_la_xs h_di_widths h_la_ys h_di_heights h_na_codes h_la_differs c_tb_bytes c_la_ways c_na_lengths c_la_sequence c_la_symbolOf c_la_xs c_di_widths c_la_ys c_di_heights c_na_codes c_la_differs (.ref h_na_weights) (.ref h_na_joinedTo) u_di_samples la_count wr_keeping_10 wr_count_11 tb_count_12 tb_bytes_13 la_ways di_count na_lengths_5 la_sequence_2 la_symbolOf_8 la_xs_9 di_widths la_ys_7 di_heights na_codes_6 la_differs_14 (0 : Int32) _ o9 hc9) ⟨va_cnB 2 hB (goodB bw_396) rfl rfl rfl (hnw.1 _ bn_393) (hB _ bw_8) (by decide +kernel) ⟨Nat.le_of_ble_eq_true rfl, Nat.le_of_ble_eq_true rfl⟩, hB _ bw_395, hB _ bs_17⟩ ⟨fb_s, va_recv hK hP (ci := 11) (q0 := 1) rfl rfl, (pre_s hPc hKc hDc hnw hst hS hFc [.ref h_te, .ref h_la, .int (0 : Int32)])⟩ rfl rfl hl.1 rfl (lv_room (Nat.le_of_ble_eq_true rfl)) d_Top_order_77 ⟨Nat.zero_le _, Nat.zero_le _⟩) hS (fun q _ h => hFc q h) hFc (fun r_15 u9 t H1 locs ht hvm hw hB hz1 hk1 hS => ?_)
      obtain ⟨wr_keeping_16, wr_count_17, tb_count_18, tb_bytes_19⟩ := u9
      subst hw
      obtain ⟨hP1, hK1, hD1⟩ := hB
      rw [ht] at hP1
      obtain ⟨hP, hD⟩ := va_join (wr := [(h_tr, .inr (0, [u_tr_kind, u_tr_symbols, u_tr_page, u_tr_toldBytes, u_tr_cameBytes, .ref h_te, u_tr_reader, .ref h_la, u_tr_spare, u_tr_refusedAt])), (h_na_weights, .inl (c_na_weights, 32, .inl na_weights_3)), (h_na_joinedTo, .inl (c_na_joinedTo, 32, .inl na_joinedTo_4))]) (w1 := [(h_te, .inr (11, [.ref h_na, .ref h_wr])), (h_la, .inr (8, [.ref h_di, .ref h_la_ways, .ref h_la_symbolOf, .ref h_la_xs, .ref h_la_ys, .ref h_la_differs, .ref h_la_sequence, .int la_count])), (h_wr, .inr (3, [.ref h_tb, .int wr_keeping_16, .int wr_count_17])), (h_tb, .inr (4, [.ref h_tb_bytes, .int tb_count_18])), (h_tb_bytes, .inl (c_tb_bytes, 2000, .inl tb_bytes_19)), (h_la_ways, .inl (c_la_ways, 4, .inl la_ways)), (h_na, .inr (5, [.ref h_di, .ref h_na_lengths, .ref h_na_codes, .ref h_na_weights, .ref h_na_joinedTo])), (h_di, .inr (6, [.ref h_di_widths, .ref h_di_heights, u_di_samples, .int di_count])), (h_na_lengths, .inl (c_na_lengths, 16, .inl na_lengths_5)), (h_la_sequence, .inl (c_la_sequence, 40, .inl la_sequence_2)), (h_la_symbolOf, .inl (c_la_symbolOf, 40, .inl la_symbolOf_8)), (h_la_xs, .inl (c_la_xs, 40, .inl la_xs_9)), (h_di_widths, .inl (c_di_widths, 16, .inl di_widths)), (h_la_ys, .inl (c_la_ys, 40, .inl la_ys_7)), (h_di_heights, .inl (c_di_heights, 16, .inl di_heights)), (h_na_codes, .inl (c_na_codes, 16, .inl na_codes_6)), (h_la_differs, .inl (c_la_differs, 40, .inr (.inl la_differs_14)))]) hP hD [1, 2, 16, 17, 18, 3, 11, 6, 14, 10, 5, 8, 9, 4, 7, 15, 19] [0, 12, 13] rfl rfl (by decide) (by decide) hk1 hFc hP1 hD1
      have hP := hP.sub (ws' := [(h_tr, .inr (0, [u_tr_kind, u_tr_symbols, u_tr_page, u_tr_toldBytes, u_tr_cameBytes, .ref h_te, u_tr_reader, .ref h_la, u_tr_spare, u_tr_refusedAt])), (h_te, .inr (11, [.ref h_na, .ref h_wr])), (h_la, .inr (8, [.ref h_di, .ref h_la_ways, .ref h_la_symbolOf, .ref h_la_xs, .ref h_la_ys, .ref h_la_differs, .ref h_la_sequence, .int la_count])), (h_la_ways, .inl (c_la_ways, 4, .inl la_ways)), (h_la_ys, .inl (c_la_ys, 40, .inl la_ys_7)), (h_la_symbolOf, .inl (c_la_symbolOf, 40, .inl la_symbolOf_8)), (h_di, .inr (6, [.ref h_di_widths, .ref h_di_heights, u_di_samples, .int di_count])), (h_di_heights, .inl (c_di_heights, 16, .inl di_heights)), (h_la_xs, .inl (c_la_xs, 40, .inl la_xs_9)), (h_di_widths, .inl (c_di_widths, 16, .inl di_widths)), (h_la_sequence, .inl (c_la_sequence, 40, .inl la_sequence_2)), (h_na, .inr (5, [.ref h_di, .ref h_na_lengths, .ref h_na_codes, .ref h_na_weights, .ref h_na_joinedTo])), (h_na_weights, .inl (c_na_weights, 32, .inl na_weights_3)), (h_na_joinedTo, .inl (c_na_joinedTo, 32, .inl na_joinedTo_4)), (h_na_lengths, .inl (c_na_lengths, 16, .inl na_lengths_5)), (h_na_codes, .inl (c_na_codes, 16, .inl na_codes_6)), (h_wr, .inr (3, [.ref h_tb, .int wr_keeping_16, .int wr_count_17])), (h_tb, .inr (4, [.ref h_tb_bytes, .int tb_count_18])), (h_tb_bytes, .inl (c_tb_bytes, 2000, .inl tb_bytes_19)), (h_la_differs, .inl (c_la_differs, 40, .inr (.inl la_differs_14)))]) [0, 3, 4, 8, 16, 13, 10, 17, 14, 15, 12, 9, 1, 2, 11, 18, 5, 6, 7, 19] rfl
      have hD := hD.sub (ws' := [(h_tr, .inr (0, [u_tr_kind, u_tr_symbols, u_tr_page, u_tr_toldBytes, u_tr_cameBytes, .ref h_te, u_tr_reader, .ref h_la, u_tr_spare, u_tr_refusedAt])), (h_te, .inr (11, [.ref h_na, .ref h_wr])), (h_la, .inr (8, [.ref h_di, .ref h_la_ways, .ref h_la_symbolOf, .ref h_la_xs, .ref h_la_ys, .ref h_la_differs, .ref h_la_sequence, .int la_count])), (h_la_ways, .inl (c_la_ways, 4, .inl la_ways)), (h_la_ys, .inl (c_la_ys, 40, .inl la_ys_7)), (h_la_symbolOf, .inl (c_la_symbolOf, 40, .inl la_symbolOf_8)), (h_di, .inr (6, [.ref h_di_widths, .ref h_di_heights, u_di_samples, .int di_count])), (h_di_heights, .inl (c_di_heights, 16, .inl di_heights)), (h_la_xs, .inl (c_la_xs, 40, .inl la_xs_9)), (h_di_widths, .inl (c_di_widths, 16, .inl di_widths)), (h_la_sequence, .inl (c_la_sequence, 40, .inl la_sequence_2)), (h_na, .inr (5, [.ref h_di, .ref h_na_lengths, .ref h_na_codes, .ref h_na_weights, .ref h_na_joinedTo])), (h_na_weights, .inl (c_na_weights, 32, .inl na_weights_3)), (h_na_joinedTo, .inl (c_na_joinedTo, 32, .inl na_joinedTo_4)), (h_na_lengths, .inl (c_na_lengths, 16, .inl na_lengths_5)), (h_na_codes, .inl (c_na_codes, 16, .inl na_codes_6)), (h_wr, .inr (3, [.ref h_tb, .int wr_keeping_16, .int wr_count_17])), (h_tb, .inr (4, [.ref h_tb_bytes, .int tb_count_18])), (h_tb_bytes, .inl (c_tb_bytes, 2000, .inl tb_bytes_19)), (h_la_differs, .inl (c_la_differs, 40, .inr (.inl la_differs_14)))]) [0, 3, 4, 8, 16, 13, 10, 17, 14, 15, 12, 9, 1, 2, 11, 18, 5, 6, 7, 19] (by decide) rfl
      clear hPc hKc hDc hFc hc9 hP1 hK1 hD1 hk1 hz1 hvm ht
      generalize H1 = H at hP hS ⊢
      try dsimp only at h
      subst eQ
      refine x_ret ?_
      refine W.widen (k := 1) (n := 6) (by omega) (by omega) ?_
      exact W.iret (v := r_15) hx hb hr (fun t ht hW => ⟨⟨_, (la_ys_7, la_symbolOf_8, la_xs_9, la_sequence_2, na_weights_3, na_joinedTo_4, na_lengths_5, na_codes_6, wr_keeping_16, wr_count_17, tb_count_18, tb_bytes_19, la_differs_14), rfl, Option.some.inj h, by rw [ht]; exact hP, va_K.moved hW.alike hK, hD⟩, hS.F ht⟩) hS.2.2 d_Top_order_80
    refine lv_icmp_eq (tgt := 68) hx hb d_Top_order_41 (by decide) (fun c_2 => ?_) (fun c_2 => ?_)
    · have h := if_t h c_2
      exact w_j68 _ _ _ _ _ _ _ _ _ _ _ h hP hD hS (lv_sub hl [0] rfl)
    · have h := if_f h c_2
      refine lv_iconst (v := 1) hx hb d_Top_order_44 (by decide) ?_
      refine lv_istore_n (lv' := [(2, .int (1 : Int32)), (0, .ref h_tr), (1, .int p0)]) hx hb d_Top_order_45 rfl hl (by decide) rfl (fun ls hl => ?_)
      refine lv_iconst (v := 0) hx hb d_Top_order_46 (by decide) ?_
      refine lv_istore_n (lv' := [(3, .int (0 : Int32)), (2, .int (1 : Int32)), (0, .ref h_tr), (1, .int p0)]) hx hb d_Top_order_47 rfl hl (by decide) rfl (fun ls hl => ?_)
      have w_self48 : ∀ n9 : Nat, ∀ (v3_20 : Int32) (v2_21 : Int32) (la_ys_22 : (Nat → Int32)) (la_symbolOf_23 : (Nat → Int32)) (la_xs_24 : (Nat → Int32)) (wr_keeping_25 : Int32) (wr_count_26 : Int32) (tb_count_27 : Int32) (tb_bytes_28 : (Nat → Int32)) (la_differs_29 : (Nat → Int64)) (H : Heap) (locs : List Loc) (ls : Array Slot), lp (f_Top_order_C_L48 p0 j68 la_count la_ways di_count na_lengths_5 la_sequence_2 di_widths di_heights na_codes_6) n9 (v3_20, v2_21, la_ys_22, la_symbolOf_23, la_xs_24, wr_keeping_25, wr_count_26, tb_count_27, tb_bytes_28, la_differs_29) = some o → va_P (dC, dI) CL [(h_tr, .inr (0, [u_tr_kind, u_tr_symbols, u_tr_page, u_tr_toldBytes, u_tr_cameBytes, .ref h_te, u_tr_reader, .ref h_la, u_tr_spare, u_tr_refusedAt])), (h_te, .inr (11, [.ref h_na, .ref h_wr])), (h_la, .inr (8, [.ref h_di, .ref h_la_ways, .ref h_la_symbolOf, .ref h_la_xs, .ref h_la_ys, .ref h_la_differs, .ref h_la_sequence, .int la_count])), (h_la_ways, .inl (c_la_ways, 4, .inl la_ways)), (h_la_ys, .inl (c_la_ys, 40, .inl la_ys_22)), (h_la_symbolOf, .inl (c_la_symbolOf, 40, .inl la_symbolOf_23)), (h_di, .inr (6, [.ref h_di_widths, .ref h_di_heights, u_di_samples, .int di_count])), (h_di_heights, .inl (c_di_heights, 16, .inl di_heights)), (h_la_xs, .inl (c_la_xs, 40, .inl la_xs_24)), (h_di_widths, .inl (c_di_widths, 16, .inl di_widths)), (h_la_sequence, .inl (c_la_sequence, 40, .inl la_sequence_2)), (h_na, .inr (5, [.ref h_di, .ref h_na_lengths, .ref h_na_codes, .ref h_na_weights, .ref h_na_joinedTo])), (h_na_weights, .inl (c_na_weights, 32, .inl na_weights_3)), (h_na_joinedTo, .inl (c_na_joinedTo, 32, .inl na_joinedTo_4)), (h_na_lengths, .inl (c_na_lengths, 16, .inl na_lengths_5)), (h_na_codes, .inl (c_na_codes, 16, .inl na_codes_6)), (h_wr, .inr (3, [.ref h_tb, .int wr_keeping_25, .int wr_count_26])), (h_tb, .inr (4, [.ref h_tb_bytes, .int tb_count_27])), (h_tb_bytes, .inl (c_tb_bytes, 2000, .inl tb_bytes_28)), (h_la_differs, .inl (c_la_differs, 40, .inr (.inl la_differs_29)))] H → va_D A [(h_tr, .inr (0, [u_tr_kind, u_tr_symbols, u_tr_page, u_tr_toldBytes, u_tr_cameBytes, .ref h_te, u_tr_reader, .ref h_la, u_tr_spare, u_tr_refusedAt])), (h_te, .inr (11, [.ref h_na, .ref h_wr])), (h_la, .inr (8, [.ref h_di, .ref h_la_ways, .ref h_la_symbolOf, .ref h_la_xs, .ref h_la_ys, .ref h_la_differs, .ref h_la_sequence, .int la_count])), (h_la_ways, .inl (c_la_ways, 4, .inl la_ways)), (h_la_ys, .inl (c_la_ys, 40, .inl la_ys_22)), (h_la_symbolOf, .inl (c_la_symbolOf, 40, .inl la_symbolOf_23)), (h_di, .inr (6, [.ref h_di_widths, .ref h_di_heights, u_di_samples, .int di_count])), (h_di_heights, .inl (c_di_heights, 16, .inl di_heights)), (h_la_xs, .inl (c_la_xs, 40, .inl la_xs_24)), (h_di_widths, .inl (c_di_widths, 16, .inl di_widths)), (h_la_sequence, .inl (c_la_sequence, 40, .inl la_sequence_2)), (h_na, .inr (5, [.ref h_di, .ref h_na_lengths, .ref h_na_codes, .ref h_na_weights, .ref h_na_joinedTo])), (h_na_weights, .inl (c_na_weights, 32, .inl na_weights_3)), (h_na_joinedTo, .inl (c_na_joinedTo, 32, .inl na_joinedTo_4)), (h_na_lengths, .inl (c_na_lengths, 16, .inl na_lengths_5)), (h_na_codes, .inl (c_na_codes, 16, .inl na_codes_6)), (h_wr, .inr (3, [.ref h_tb, .int wr_keeping_25, .int wr_count_26])), (h_tb, .inr (4, [.ref h_tb_bytes, .int tb_count_27])), (h_tb_bytes, .inl (c_tb_bytes, 2000, .inl tb_bytes_28)), (h_la_differs, .inl (c_la_differs, 40, .inr (.inl la_differs_29)))] → va_S A s.heap H locs → lv_has ls 4 [(3, .int v3_20), (2, .int v2_21), (0, .ref h_tr), (1, .int p0)] → W p l e ({ frames := 7, cells := 1, slots := 6, locals := 173 } : Room) s m ([.ref h_tr, .int p0] : List Value).toArray below meth c H locs 0 0 Q9 (F0 m 48 ls []) := by
        intro n9
        induction n9 with
        | zero =>
          intro v3_20 v2_21 la_ys_22 la_symbolOf_23 la_xs_24 wr_keeping_25 wr_count_26 tb_count_27 tb_bytes_28 la_differs_29 H locs ls h hP hD hS hl
          exact absurd h (by simp [lp])
        | succ n9 ih_self48 =>
          intro v3_20 v2_21 la_ys_22 la_symbolOf_23 la_xs_24 wr_keeping_25 wr_count_26 tb_count_27 tb_bytes_28 la_differs_29 H locs ls h hP hD hS hl
          obtain ⟨self48, e_self48, h⟩ := abs_k (P := fun z9 => f_Top_order_C_L48 p0 j68 la_count la_ways di_count na_lengths_5 la_sequence_2 di_widths di_heights na_codes_6 z9 (v3_20, v2_21, la_ys_22, la_symbolOf_23, la_xs_24, wr_keeping_25, wr_count_26, tb_count_27, tb_bytes_28, la_differs_29) = some o) (lp_e h)
          rw [← e_self48] at ih_self48
          unfold f_Top_order_C_L48 at h
          try dsimp only at h
          refine lv_iload_n hx hb d_Top_order_48 rfl (lv_at hl 0 rfl) ?_
          refine lv_iload_n hx hb d_Top_order_49 rfl (lv_at hl 3 rfl) ?_
          refine lv_icmp_ge (tgt := 68) hx hb d_Top_order_50 (by decide) (fun c_3 => ?_) (fun c_3 => ?_)
          · have h := if_t h c_3
            exact w_j68 _ _ _ _ _ _ _ _ _ _ _ h hP hD hS (lv_sub hl [2] rfl)
          · have h := if_f h c_3
            refine lv_iload_n hx hb d_Top_order_53 rfl (lv_at hl 1 rfl) ?_
            refine lv_if_eq (tgt := 68) hx hb d_Top_order_54 (by decide) (fun c_4 => ?_) (fun c_4 => ?_)
            · have h := if_t h c_4
              exact w_j68 _ _ _ _ _ _ _ _ _ _ _ h hP hD hS (lv_sub hl [2] rfl)
            · have h := if_f h c_4
              refine lv_aload_n hx hb d_Top_order_57 rfl (lv_at hl 2 rfl) ?_
              obtain ⟨o9, hc9, h⟩ := bd_e h
              have hPc := hP.sub (ws' := [(h_tr, .inr (0, [u_tr_kind, u_tr_symbols, u_tr_page, u_tr_toldBytes, u_tr_cameBytes, .ref h_te, u_tr_reader, .ref h_la, u_tr_spare, u_tr_refusedAt])), (h_te, .inr (11, [.ref h_na, .ref h_wr])), (h_la, .inr (8, [.ref h_di, .ref h_la_ways, .ref h_la_symbolOf, .ref h_la_xs, .ref h_la_ys, .ref h_la_differs, .ref h_la_sequence, .int la_count])), (h_wr, .inr (3, [.ref h_tb, .int wr_keeping_25, .int wr_count_26])), (h_tb, .inr (4, [.ref h_tb_bytes, .int tb_count_27])), (h_tb_bytes, .inl (c_tb_bytes, 2000, .inl tb_bytes_28)), (h_la_ways, .inl (c_la_ways, 4, .inl la_ways)), (h_na, .inr (5, [.ref h_di, .ref h_na_lengths, .ref h_na_codes, .ref h_na_weights, .ref h_na_joinedTo])), (h_di, .inr (6, [.ref h_di_widths, .ref h_di_heights, u_di_samples, .int di_count])), (h_na_lengths, .inl (c_na_lengths, 16, .inl na_lengths_5)), (h_la_sequence, .inl (c_la_sequence, 40, .inl la_sequence_2)), (h_la_symbolOf, .inl (c_la_symbolOf, 40, .inl la_symbolOf_23)), (h_la_xs, .inl (c_la_xs, 40, .inl la_xs_24)), (h_di_widths, .inl (c_di_widths, 16, .inl di_widths)), (h_la_ys, .inl (c_la_ys, 40, .inl la_ys_22)), (h_di_heights, .inl (c_di_heights, 16, .inl di_heights)), (h_na_codes, .inl (c_na_codes, 16, .inl na_codes_6)), (h_la_differs, .inl (c_la_differs, 40, .inr (.inl la_differs_29)))]) [0, 1, 2, 16, 17, 18, 3, 11, 6, 14, 10, 5, 8, 9, 4, 7, 15, 19] rfl
              have hKc := hK.sub (tys' := [(c_tb_bytes, .int), (c_la_ways, .int), (c_na_lengths, .int), (c_la_sequence, .int), (c_la_symbolOf, .int), (c_la_xs, .int), (c_di_widths, .int), (c_la_ys, .int), (c_di_heights, .int), (c_na_codes, .int), (c_la_differs, .long)]) [11, 0, 9, 6, 2, 4, 5, 1, 3, 10, 12] rfl
              have hDc := hD.sub (ws' := [(h_tr, .inr (0, [u_tr_kind, u_tr_symbols, u_tr_page, u_tr_toldBytes, u_tr_cameBytes, .ref h_te, u_tr_reader, .ref h_la, u_tr_spare, u_tr_refusedAt])), (h_te, .inr (11, [.ref h_na, .ref h_wr])), (h_la, .inr (8, [.ref h_di, .ref h_la_ways, .ref h_la_symbolOf, .ref h_la_xs, .ref h_la_ys, .ref h_la_differs, .ref h_la_sequence, .int la_count])), (h_wr, .inr (3, [.ref h_tb, .int wr_keeping_25, .int wr_count_26])), (h_tb, .inr (4, [.ref h_tb_bytes, .int tb_count_27])), (h_tb_bytes, .inl (c_tb_bytes, 2000, .inl tb_bytes_28)), (h_la_ways, .inl (c_la_ways, 4, .inl la_ways)), (h_na, .inr (5, [.ref h_di, .ref h_na_lengths, .ref h_na_codes, .ref h_na_weights, .ref h_na_joinedTo])), (h_di, .inr (6, [.ref h_di_widths, .ref h_di_heights, u_di_samples, .int di_count])), (h_na_lengths, .inl (c_na_lengths, 16, .inl na_lengths_5)), (h_la_sequence, .inl (c_la_sequence, 40, .inl la_sequence_2)), (h_la_symbolOf, .inl (c_la_symbolOf, 40, .inl la_symbolOf_23)), (h_la_xs, .inl (c_la_xs, 40, .inl la_xs_24)), (h_di_widths, .inl (c_di_widths, 16, .inl di_widths)), (h_la_ys, .inl (c_la_ys, 40, .inl la_ys_22)), (h_di_heights, .inl (c_di_heights, 16, .inl di_heights)), (h_na_codes, .inl (c_na_codes, 16, .inl na_codes_6)), (h_la_differs, .inl (c_la_differs, 40, .inr (.inl la_differs_29)))]) [0, 1, 2, 16, 17, 18, 3, 11, 6, 14, 10, 5, 8, 9, 4, 7, 15, 19] (by decide) rfl
              have hFc := va_free (wc := [(h_tr, .inr (0, [u_tr_kind, u_tr_symbols, u_tr_page, u_tr_toldBytes, u_tr_cameBytes, .ref h_te, u_tr_reader, .ref h_la, u_tr_spare, u_tr_refusedAt])), (h_te, .inr (11, [.ref h_na, .ref h_wr])), (h_la, .inr (8, [.ref h_di, .ref h_la_ways, .ref h_la_symbolOf, .ref h_la_xs, .ref h_la_ys, .ref h_la_differs, .ref h_la_sequence, .int la_count])), (h_wr, .inr (3, [.ref h_tb, .int wr_keeping_25, .int wr_count_26])), (h_tb, .inr (4, [.ref h_tb_bytes, .int tb_count_27])), (h_tb_bytes, .inl (c_tb_bytes, 2000, .inl tb_bytes_28)), (h_la_ways, .inl (c_la_ways, 4, .inl la_ways)), (h_na, .inr (5, [.ref h_di, .ref h_na_lengths, .ref h_na_codes, .ref h_na_weights, .ref h_na_joinedTo])), (h_di, .inr (6, [.ref h_di_widths, .ref h_di_heights, u_di_samples, .int di_count])), (h_na_lengths, .inl (c_na_lengths, 16, .inl na_lengths_5)), (h_la_sequence, .inl (c_la_sequence, 40, .inl la_sequence_2)), (h_la_symbolOf, .inl (c_la_symbolOf, 40, .inl la_symbolOf_23)), (h_la_xs, .inl (c_la_xs, 40, .inl la_xs_24)), (h_di_widths, .inl (c_di_widths, 16, .inl di_widths)), (h_la_ys, .inl (c_la_ys, 40, .inl la_ys_22)), (h_di_heights, .inl (c_di_heights, 16, .inl di_heights)), (h_na_codes, .inl (c_na_codes, 16, .inl na_codes_6)), (h_la_differs, .inl (c_la_differs, 40, .inr (.inl la_differs_29)))]) hD hS hA [0, 1, 2, 16, 17, 18, 3, 11, 6, 14, 10, 5, 8, 9, 4, 7, 15, 19] rfl
              refine va_calli (va_runV (As := []) (rest := []) ⟨hx, hb, hml, hown, hB⟩ (c_Top_changeNeighbours_C l dC dI h_tr h_te h_la h_wr h_tb h_tb_bytes h_la_ways h_na h_di h_na_lengths h_la_sequence h_la_symbolOf h_la_xs h_di_widths h_la_ys h_di_heights h_na_codes h_la_differs c_tb_bytes c_la_ways c_na_lengths c_la_sequence c_la_symbolOf c_la_xs c_di_widths c_la_ys c_di_heights c_na_codes c_la_differs u_tr_kind u_tr_symbols u_tr_page u_tr_toldBytes u_tr_cameBytes u_tr_reader u_tr_spare u_tr_refusedAt (.ref h_na_weights) (.ref h_na_joinedTo) u_di_samples la_count wr_keeping_25 wr_count_26 tb_count_27 tb_bytes_28 la_ways di_count na_lengths_5 la_sequence_2 la_symbolOf_23 la_xs_24 di_widths la_ys_22 di_heights na_codes_6 la_differs_29 _ o9 hc9) (cwV 0 hB (goodA (m4 bw_809 bw_811 bs_53 bw_1) (goodB bw_812)) rfl rfl rfl (by decide +kernel) ⟨Nat.le_of_ble_eq_true rfl, Nat.le_of_ble_eq_true rfl⟩) ⟨fb_s, va_recv hK hP (ci := 0) (q0 := 0) rfl rfl, (pre_s hPc hKc hDc hnw hst hS hFc [.ref h_tr])⟩ rfl rfl hl.1 rfl (lv_room (Nat.le_of_ble_eq_true rfl)) d_Top_order_58 ⟨Nat.zero_le _, Nat.zero_le _⟩) hS (fun q _ h => hFc q h) hFc (fun r_30 u9 t H1 locs ht hvm hw hB hz1 hk1 hS => ?_)
              obtain ⟨wr_keeping_31, wr_count_32, tb_count_33, tb_bytes_34, la_symbolOf_35, la_xs_36, la_ys_37, la_differs_38⟩ := u9
              subst hw
              obtain ⟨hP1, hK1, hD1⟩ := hB
              rw [ht] at hP1
              obtain ⟨hP, hD⟩ := va_join (wr := [(h_na_weights, .inl (c_na_weights, 32, .inl na_weights_3)), (h_na_joinedTo, .inl (c_na_joinedTo, 32, .inl na_joinedTo_4))]) (w1 := [(h_tr, .inr (0, [u_tr_kind, u_tr_symbols, u_tr_page, u_tr_toldBytes, u_tr_cameBytes, .ref h_te, u_tr_reader, .ref h_la, u_tr_spare, u_tr_refusedAt])), (h_te, .inr (11, [.ref h_na, .ref h_wr])), (h_la, .inr (8, [.ref h_di, .ref h_la_ways, .ref h_la_symbolOf, .ref h_la_xs, .ref h_la_ys, .ref h_la_differs, .ref h_la_sequence, .int la_count])), (h_wr, .inr (3, [.ref h_tb, .int wr_keeping_31, .int wr_count_32])), (h_tb, .inr (4, [.ref h_tb_bytes, .int tb_count_33])), (h_tb_bytes, .inl (c_tb_bytes, 2000, .inl tb_bytes_34)), (h_la_ways, .inl (c_la_ways, 4, .inl la_ways)), (h_na, .inr (5, [.ref h_di, .ref h_na_lengths, .ref h_na_codes, .ref h_na_weights, .ref h_na_joinedTo])), (h_di, .inr (6, [.ref h_di_widths, .ref h_di_heights, u_di_samples, .int di_count])), (h_na_lengths, .inl (c_na_lengths, 16, .inl na_lengths_5)), (h_la_sequence, .inl (c_la_sequence, 40, .inl la_sequence_2)), (h_la_symbolOf, .inl (c_la_symbolOf, 40, .inl la_symbolOf_35)), (h_la_xs, .inl (c_la_xs, 40, .inl la_xs_36)), (h_di_widths, .inl (c_di_widths, 16, .inl di_widths)), (h_la_ys, .inl (c_la_ys, 40, .inl la_ys_37)), (h_di_heights, .inl (c_di_heights, 16, .inl di_heights)), (h_na_codes, .inl (c_na_codes, 16, .inl na_codes_6)), (h_la_differs, .inl (c_la_differs, 40, .inr (.inl la_differs_38)))]) hP hD [0, 1, 2, 16, 17, 18, 3, 11, 6, 14, 10, 5, 8, 9, 4, 7, 15, 19] [12, 13] rfl rfl (by decide) (by decide) hk1 hFc hP1 hD1
              have hP := hP.sub (ws' := [(h_tr, .inr (0, [u_tr_kind, u_tr_symbols, u_tr_page, u_tr_toldBytes, u_tr_cameBytes, .ref h_te, u_tr_reader, .ref h_la, u_tr_spare, u_tr_refusedAt])), (h_te, .inr (11, [.ref h_na, .ref h_wr])), (h_la, .inr (8, [.ref h_di, .ref h_la_ways, .ref h_la_symbolOf, .ref h_la_xs, .ref h_la_ys, .ref h_la_differs, .ref h_la_sequence, .int la_count])), (h_la_ways, .inl (c_la_ways, 4, .inl la_ways)), (h_la_ys, .inl (c_la_ys, 40, .inl la_ys_37)), (h_la_symbolOf, .inl (c_la_symbolOf, 40, .inl la_symbolOf_35)), (h_di, .inr (6, [.ref h_di_widths, .ref h_di_heights, u_di_samples, .int di_count])), (h_di_heights, .inl (c_di_heights, 16, .inl di_heights)), (h_la_xs, .inl (c_la_xs, 40, .inl la_xs_36)), (h_di_widths, .inl (c_di_widths, 16, .inl di_widths)), (h_la_sequence, .inl (c_la_sequence, 40, .inl la_sequence_2)), (h_na, .inr (5, [.ref h_di, .ref h_na_lengths, .ref h_na_codes, .ref h_na_weights, .ref h_na_joinedTo])), (h_na_weights, .inl (c_na_weights, 32, .inl na_weights_3)), (h_na_joinedTo, .inl (c_na_joinedTo, 32, .inl na_joinedTo_4)), (h_na_lengths, .inl (c_na_lengths, 16, .inl na_lengths_5)), (h_na_codes, .inl (c_na_codes, 16, .inl na_codes_6)), (h_wr, .inr (3, [.ref h_tb, .int wr_keeping_31, .int wr_count_32])), (h_tb, .inr (4, [.ref h_tb_bytes, .int tb_count_33])), (h_tb_bytes, .inl (c_tb_bytes, 2000, .inl tb_bytes_34)), (h_la_differs, .inl (c_la_differs, 40, .inr (.inl la_differs_38)))]) [2, 3, 4, 8, 16, 13, 10, 17, 14, 15, 12, 9, 0, 1, 11, 18, 5, 6, 7, 19] rfl
              have hD := hD.sub (ws' := [(h_tr, .inr (0, [u_tr_kind, u_tr_symbols, u_tr_page, u_tr_toldBytes, u_tr_cameBytes, .ref h_te, u_tr_reader, .ref h_la, u_tr_spare, u_tr_refusedAt])), (h_te, .inr (11, [.ref h_na, .ref h_wr])), (h_la, .inr (8, [.ref h_di, .ref h_la_ways, .ref h_la_symbolOf, .ref h_la_xs, .ref h_la_ys, .ref h_la_differs, .ref h_la_sequence, .int la_count])), (h_la_ways, .inl (c_la_ways, 4, .inl la_ways)), (h_la_ys, .inl (c_la_ys, 40, .inl la_ys_37)), (h_la_symbolOf, .inl (c_la_symbolOf, 40, .inl la_symbolOf_35)), (h_di, .inr (6, [.ref h_di_widths, .ref h_di_heights, u_di_samples, .int di_count])), (h_di_heights, .inl (c_di_heights, 16, .inl di_heights)), (h_la_xs, .inl (c_la_xs, 40, .inl la_xs_36)), (h_di_widths, .inl (c_di_widths, 16, .inl di_widths)), (h_la_sequence, .inl (c_la_sequence, 40, .inl la_sequence_2)), (h_na, .inr (5, [.ref h_di, .ref h_na_lengths, .ref h_na_codes, .ref h_na_weights, .ref h_na_joinedTo])), (h_na_weights, .inl (c_na_weights, 32, .inl na_weights_3)), (h_na_joinedTo, .inl (c_na_joinedTo, 32, .inl na_joinedTo_4)), (h_na_lengths, .inl (c_na_lengths, 16, .inl na_lengths_5)), (h_na_codes, .inl (c_na_codes, 16, .inl na_codes_6)), (h_wr, .inr (3, [.ref h_tb, .int wr_keeping_31, .int wr_count_32])), (h_tb, .inr (4, [.ref h_tb_bytes, .int tb_count_33])), (h_tb_bytes, .inl (c_tb_bytes, 2000, .inl tb_bytes_34)), (h_la_differs, .inl (c_la_differs, 40, .inr (.inl la_differs_38)))]) [2, 3, 4, 8, 16, 13, 10, 17, 14, 15, 12, 9, 0, 1, 11, 18, 5, 6, 7, 19] (by decide) rfl
              clear hPc hKc hDc hFc hc9 hP1 hK1 hD1 hk1 hz1 hvm ht
              generalize H1 = H at hP hS ⊢
              try dsimp only at h
              refine lv_istore_n (lv' := [(2, .int r_30), (3, .int v3_20), (0, .ref h_tr), (1, .int p0)]) hx hb d_Top_order_61 rfl hl (by decide) rfl (fun ls hl => ?_)
              obtain ⟨v3_39, e_v3_39⟩ : ∃ y9 : Int32, y9 = (v3_20 + (1 : Int32)) := ⟨_, rfl⟩
              have h := nl_u e_v3_39 h
              refine lv_iinc (v := v3_39) (lv' := [(3, .int v3_39), (2, .int r_30), (0, .ref h_tr), (1, .int p0)]) hx hb d_Top_order_62 hl (k := 1) rfl (by rw [e_v3_39]; rfl) (by decide) rfl (fun ls hl => ?_)
              refine lv_goto (tgt := 48) hx hb d_Top_order_65 (by decide) ?_
              exact ih_self48 _ _ _ _ _ _ _ _ _ _ _ _ _ h hP hD hS hl
      exact w_self48 FU _ _ _ _ _ _ _ _ _ _ _ _ _ h hP hD hS hl
  · have h := if_t h c_1
    subst eQ
    refine th_new (names := ["java/lang/RuntimeException", "java/lang/Exception"]) hx hb hlt hown (by decide +kernel) (by decide +kernel) (hB _ bw_644) (hB _ bw_17) (x_str hxw bx_808) (x_own hB hxw ow_98) (hl.1.trans hml.symm) d_Top_order_10 d_Top_order_13 d_Top_order_14 d_Top_order_16 d_Top_order_19 (fun x hx9 => (hnt x hx9).elim) (Nat.le_of_ble_eq_true rfl) (Nat.le_of_ble_eq_true rfl) (Nat.le_of_ble_eq_true rfl) (Nat.le_of_ble_eq_true rfl) hlocks (fun U hU => x_out (cls := "java/lang/IllegalArgumentException") ?_ hU)
    exact Option.some.inj h
set_option maxHeartbeats 4000000 in
set_option maxRecDepth 100000 in
theorem c_Top_order_F (l : Launch) (dC : Nat → ClassId) (dI : Nat → Nat → Nat) (h_tr : Nat) (h_te : Nat) (h_la : Nat) (h_la_ways : Nat) (h_la_ys : Nat) (h_la_symbolOf : Nat) (h_di : Nat) (h_di_heights : Nat) (h_la_xs : Nat) (h_di_widths : Nat) (h_la_sequence : Nat) (h_na : Nat) (h_wr : Nat) (h_tb : Nat) (h_tb_bytes : Nat) (h_na_row : Nat) (h_la_differs : Nat) (c_la_ways : ClassId) (c_la_ys : ClassId) (c_la_symbolOf : ClassId) (c_di_heights : ClassId) (c_la_xs : ClassId) (c_di_widths : ClassId) (c_la_sequence : ClassId) (c_tb_bytes : ClassId) (c_na_row : ClassId) (c_la_differs : ClassId) (u_tr_kind : Value) (u_tr_symbols : Value) (u_tr_page : Value) (u_tr_toldBytes : Value) (u_tr_cameBytes : Value) (u_tr_reader : Value) (u_tr_spare : Value) (u_tr_refusedAt : Value) (u_di_samples : Value) (la_count : Int32) (la_ways : (Nat → Int32)) (la_ys : (Nat → Int32)) (la_symbolOf : (Nat → Int32)) (di_count : Int32) (di_heights : (Nat → Int32)) (la_xs : (Nat → Int32)) (di_widths : (Nat → Int32)) (la_sequence : (Nat → Int32)) (wr_keeping : Int32) (wr_count : Int32) (tb_count : Int32) (tb_bytes : (Nat → Int32)) (na_row : (Nat → Int32)) (la_differs : (Nat → Int64)) (p0 : Int32) (sz : Nat) (hlt : l.stackTraces = false) (o : String ⊕ (Int32 × (Nat → Int32) × (Nat → Int32) × (Nat → Int32) × (Nat → Int32) × Int32 × Int32 × Int32 × (Nat → Int32) × (Nat → Int32) × (Nat → Int64))) (hf : f_Top_order_F la_count la_ways la_ys la_symbolOf di_count di_heights la_xs di_widths la_sequence wr_keeping wr_count tb_count tb_bytes na_row la_differs p0 = some o) :
    XMet l y_Top_order ws_Top_order { frames := 7, cells := 1, slots := 6, locals := 173 } (va_Pc [.ref h_tr, .int p0] (fun U => (PcS (dC, dI) [(h_tr, .inr (0, [u_tr_kind, u_tr_symbols, u_tr_page, u_tr_toldBytes, u_tr_cameBytes, .ref h_te, u_tr_reader, .ref h_la, u_tr_spare, u_tr_refusedAt])), (h_te, .inr (11, [.ref h_na, .ref h_wr])), (h_la, .inr (8, [.ref h_di, .ref h_la_ways, .ref h_la_symbolOf, .ref h_la_xs, .ref h_la_ys, .ref h_la_differs, .ref h_la_sequence, .int la_count])), (h_la_ways, .inl (c_la_ways, 4, .inl la_ways)), (h_la_ys, .inl (c_la_ys, 40, .inl la_ys)), (h_la_symbolOf, .inl (c_la_symbolOf, 40, .inl la_symbolOf)), (h_di, .inr (6, [.ref h_di_widths, .ref h_di_heights, u_di_samples, .int di_count])), (h_di_heights, .inl (c_di_heights, 16, .inl di_heights)), (h_la_xs, .inl (c_la_xs, 40, .inl la_xs)), (h_di_widths, .inl (c_di_widths, 16, .inl di_widths)), (h_la_sequence, .inl (c_la_sequence, 40, .inl la_sequence)), (h_na, .inr (7, [.ref h_di, .ref h_na_row])), (h_wr, .inr (3, [.ref h_tb, .int wr_keeping, .int wr_count])), (h_tb, .inr (4, [.ref h_tb_bytes, .int tb_count])), (h_tb_bytes, .inl (c_tb_bytes, 2000, .inl tb_bytes)), (h_na_row, .inl (c_na_row, 16, .inl na_row)), (h_la_differs, .inl (c_la_differs, 40, .inr (.inl la_differs)))] [(c_la_ways, .int), (c_la_ys, .int), (c_la_symbolOf, .int), (c_di_heights, .int), (c_la_xs, .int), (c_di_widths, .int), (c_la_sequence, .int), (c_tb_bytes, .int), (c_na_row, .int), (c_la_differs, .long)] sz) U ∧ xw U))
      (va_Qi (fun (r : Int32) (u : (Nat → Int32) × (Nat → Int32) × (Nat → Int32) × (Nat → Int32) × Int32 × Int32 × Int32 × (Nat → Int32) × (Nat → Int32) × (Nat → Int64)) => (.inr (r, u) : String ⊕ (Int32 × (Nat → Int32) × (Nat → Int32) × (Nat → Int32) × (Nat → Int32) × Int32 × Int32 × Int32 × (Nat → Int32) × (Nat → Int32) × (Nat → Int64))) = o) (fun u t => va_P (dC, dI) CL [(h_tr, .inr (0, [u_tr_kind, u_tr_symbols, u_tr_page, u_tr_toldBytes, u_tr_cameBytes, .ref h_te, u_tr_reader, .ref h_la, u_tr_spare, u_tr_refusedAt])), (h_te, .inr (11, [.ref h_na, .ref h_wr])), (h_la, .inr (8, [.ref h_di, .ref h_la_ways, .ref h_la_symbolOf, .ref h_la_xs, .ref h_la_ys, .ref h_la_differs, .ref h_la_sequence, .int la_count])), (h_la_ways, .inl (c_la_ways, 4, .inl la_ways)), (h_la_ys, .inl (c_la_ys, 40, .inl (u.1))), (h_la_symbolOf, .inl (c_la_symbolOf, 40, .inl (u.2.1))), (h_di, .inr (6, [.ref h_di_widths, .ref h_di_heights, u_di_samples, .int di_count])), (h_di_heights, .inl (c_di_heights, 16, .inl di_heights)), (h_la_xs, .inl (c_la_xs, 40, .inl (u.2.2.1))), (h_di_widths, .inl (c_di_widths, 16, .inl di_widths)), (h_la_sequence, .inl (c_la_sequence, 40, .inl (u.2.2.2.1))), (h_na, .inr (7, [.ref h_di, .ref h_na_row])), (h_wr, .inr (3, [.ref h_tb, .int (u.2.2.2.2.1), .int (u.2.2.2.2.2.1)])), (h_tb, .inr (4, [.ref h_tb_bytes, .int (u.2.2.2.2.2.2.1)])), (h_tb_bytes, .inl (c_tb_bytes, 2000, .inl (u.2.2.2.2.2.2.2.1))), (h_na_row, .inl (c_na_row, 16, .inl (u.2.2.2.2.2.2.2.2.1))), (h_la_differs, .inl (c_la_differs, 40, .inr (.inl (u.2.2.2.2.2.2.2.2.2))))] t.heap ∧ va_K (dC, dI) CL [(c_la_ways, .int), (c_la_ys, .int), (c_la_symbolOf, .int), (c_di_heights, .int), (c_la_xs, .int), (c_di_widths, .int), (c_la_sequence, .int), (c_tb_bytes, .int), (c_na_row, .int), (c_la_differs, .long)] t ∧ va_D (va_A [(h_tr, .inr (0, [u_tr_kind, u_tr_symbols, u_tr_page, u_tr_toldBytes, u_tr_cameBytes, .ref h_te, u_tr_reader, .ref h_la, u_tr_spare, u_tr_refusedAt])), (h_te, .inr (11, [.ref h_na, .ref h_wr])), (h_la, .inr (8, [.ref h_di, .ref h_la_ways, .ref h_la_symbolOf, .ref h_la_xs, .ref h_la_ys, .ref h_la_differs, .ref h_la_sequence, .int la_count])), (h_la_ways, .inl (c_la_ways, 4, .inl la_ways)), (h_la_ys, .inl (c_la_ys, 40, .inl la_ys)), (h_la_symbolOf, .inl (c_la_symbolOf, 40, .inl la_symbolOf)), (h_di, .inr (6, [.ref h_di_widths, .ref h_di_heights, u_di_samples, .int di_count])), (h_di_heights, .inl (c_di_heights, 16, .inl di_heights)), (h_la_xs, .inl (c_la_xs, 40, .inl la_xs)), (h_di_widths, .inl (c_di_widths, 16, .inl di_widths)), (h_la_sequence, .inl (c_la_sequence, 40, .inl la_sequence)), (h_na, .inr (7, [.ref h_di, .ref h_na_row])), (h_wr, .inr (3, [.ref h_tb, .int wr_keeping, .int wr_count])), (h_tb, .inr (4, [.ref h_tb_bytes, .int tb_count])), (h_tb_bytes, .inl (c_tb_bytes, 2000, .inl tb_bytes)), (h_na_row, .inl (c_na_row, 16, .inl na_row)), (h_la_differs, .inl (c_la_differs, 40, .inr (.inl la_differs)))] sz) [(h_tr, .inr (0, [u_tr_kind, u_tr_symbols, u_tr_page, u_tr_toldBytes, u_tr_cameBytes, .ref h_te, u_tr_reader, .ref h_la, u_tr_spare, u_tr_refusedAt])), (h_te, .inr (11, [.ref h_na, .ref h_wr])), (h_la, .inr (8, [.ref h_di, .ref h_la_ways, .ref h_la_symbolOf, .ref h_la_xs, .ref h_la_ys, .ref h_la_differs, .ref h_la_sequence, .int la_count])), (h_la_ways, .inl (c_la_ways, 4, .inl la_ways)), (h_la_ys, .inl (c_la_ys, 40, .inl (u.1))), (h_la_symbolOf, .inl (c_la_symbolOf, 40, .inl (u.2.1))), (h_di, .inr (6, [.ref h_di_widths, .ref h_di_heights, u_di_samples, .int di_count])), (h_di_heights, .inl (c_di_heights, 16, .inl di_heights)), (h_la_xs, .inl (c_la_xs, 40, .inl (u.2.2.1))), (h_di_widths, .inl (c_di_widths, 16, .inl di_widths)), (h_la_sequence, .inl (c_la_sequence, 40, .inl (u.2.2.2.1))), (h_na, .inr (7, [.ref h_di, .ref h_na_row])), (h_wr, .inr (3, [.ref h_tb, .int (u.2.2.2.2.1), .int (u.2.2.2.2.2.1)])), (h_tb, .inr (4, [.ref h_tb_bytes, .int (u.2.2.2.2.2.2.1)])), (h_tb_bytes, .inl (c_tb_bytes, 2000, .inl (u.2.2.2.2.2.2.2.1))), (h_na_row, .inl (c_na_row, 16, .inl (u.2.2.2.2.2.2.2.2.1))), (h_la_differs, .inl (c_la_differs, 40, .inr (.inl (u.2.2.2.2.2.2.2.2.2))))]) (va_A [(h_tr, .inr (0, [u_tr_kind, u_tr_symbols, u_tr_page, u_tr_toldBytes, u_tr_cameBytes, .ref h_te, u_tr_reader, .ref h_la, u_tr_spare, u_tr_refusedAt])), (h_te, .inr (11, [.ref h_na, .ref h_wr])), (h_la, .inr (8, [.ref h_di, .ref h_la_ways, .ref h_la_symbolOf, .ref h_la_xs, .ref h_la_ys, .ref h_la_differs, .ref h_la_sequence, .int la_count])), (h_la_ways, .inl (c_la_ways, 4, .inl la_ways)), (h_la_ys, .inl (c_la_ys, 40, .inl la_ys)), (h_la_symbolOf, .inl (c_la_symbolOf, 40, .inl la_symbolOf)), (h_di, .inr (6, [.ref h_di_widths, .ref h_di_heights, u_di_samples, .int di_count])), (h_di_heights, .inl (c_di_heights, 16, .inl di_heights)), (h_la_xs, .inl (c_la_xs, 40, .inl la_xs)), (h_di_widths, .inl (c_di_widths, 16, .inl di_widths)), (h_la_sequence, .inl (c_la_sequence, 40, .inl la_sequence)), (h_na, .inr (7, [.ref h_di, .ref h_na_row])), (h_wr, .inr (3, [.ref h_tb, .int wr_keeping, .int wr_count])), (h_tb, .inr (4, [.ref h_tb_bytes, .int tb_count])), (h_tb_bytes, .inl (c_tb_bytes, 2000, .inl tb_bytes)), (h_na_row, .inl (c_na_row, 16, .inl na_row)), (h_la_differs, .inl (c_la_differs, 40, .inr (.inl la_differs)))] sz)) (fun cls => (.inl cls : String ⊕ (Int32 × (Nat → Int32) × (Nat → Int32) × (Nat → Int32) × (Nat → Int32) × Int32 × Int32 × Int32 × (Nat → Int32) × (Nat → Int32) × (Nat → Int64))) = o) 1 6 (va_A [(h_tr, .inr (0, [u_tr_kind, u_tr_symbols, u_tr_page, u_tr_toldBytes, u_tr_cameBytes, .ref h_te, u_tr_reader, .ref h_la, u_tr_spare, u_tr_refusedAt])), (h_te, .inr (11, [.ref h_na, .ref h_wr])), (h_la, .inr (8, [.ref h_di, .ref h_la_ways, .ref h_la_symbolOf, .ref h_la_xs, .ref h_la_ys, .ref h_la_differs, .ref h_la_sequence, .int la_count])), (h_la_ways, .inl (c_la_ways, 4, .inl la_ways)), (h_la_ys, .inl (c_la_ys, 40, .inl la_ys)), (h_la_symbolOf, .inl (c_la_symbolOf, 40, .inl la_symbolOf)), (h_di, .inr (6, [.ref h_di_widths, .ref h_di_heights, u_di_samples, .int di_count])), (h_di_heights, .inl (c_di_heights, 16, .inl di_heights)), (h_la_xs, .inl (c_la_xs, 40, .inl la_xs)), (h_di_widths, .inl (c_di_widths, 16, .inl di_widths)), (h_la_sequence, .inl (c_la_sequence, 40, .inl la_sequence)), (h_na, .inr (7, [.ref h_di, .ref h_na_row])), (h_wr, .inr (3, [.ref h_tb, .int wr_keeping, .int wr_count])), (h_tb, .inr (4, [.ref h_tb_bytes, .int tb_count])), (h_tb_bytes, .inl (c_tb_bytes, 2000, .inl tb_bytes)), (h_na_row, .inl (c_na_row, 16, .inl na_row)), (h_la_differs, .inl (c_la_differs, 40, .inr (.inl la_differs)))] sz) := by
  refine XMet.ofW (cc := b_Top_order) (maxL := 4) (ret := (some .int)) (by decide) rfl ?_
  intro p e s m args below meth c s₁ B hml hnt hv
  obtain ⟨e9, hv, hxw⟩ := hv
  have hv := And.intro e9 hv
  clear e9
  obtain ⟨rfl, ⟨hsz, hP, hK, hD0, hnw⟩, hst⟩ := hv
  have hx := B.exec
  have hb := B.bytes
  have hr := B.returns
  have hts := atoms_spec (ws := ws_Top_order) B.pre
  have hB : ∀ w ∈ BIG, w.before _ s = true := fun w h => hts w (List.mem_cons_of_mem _ h)
  have hown : s.vm.findClass R_Top = some m.cls := findClass_of_methodNamed B.named
  have hlocks := B.notSynchronized
  subst hsz
  have hD := hD0.self (sz := s.heap.size)
  refine W_Q (fun Q9 eQ => ?_)
  generalize hAe : va_A [(h_tr, .inr (0, [u_tr_kind, u_tr_symbols, u_tr_page, u_tr_toldBytes, u_tr_cameBytes, .ref h_te, u_tr_reader, .ref h_la, u_tr_spare, u_tr_refusedAt])), (h_te, .inr (11, [.ref h_na, .ref h_wr])), (h_la, .inr (8, [.ref h_di, .ref h_la_ways, .ref h_la_symbolOf, .ref h_la_xs, .ref h_la_ys, .ref h_la_differs, .ref h_la_sequence, .int la_count])), (h_la_ways, .inl (c_la_ways, 4, .inl la_ways)), (h_la_ys, .inl (c_la_ys, 40, .inl la_ys)), (h_la_symbolOf, .inl (c_la_symbolOf, 40, .inl la_symbolOf)), (h_di, .inr (6, [.ref h_di_widths, .ref h_di_heights, u_di_samples, .int di_count])), (h_di_heights, .inl (c_di_heights, 16, .inl di_heights)), (h_la_xs, .inl (c_la_xs, 40, .inl la_xs)), (h_di_widths, .inl (c_di_widths, 16, .inl di_widths)), (h_la_sequence, .inl (c_la_sequence, 40, .inl la_sequence)), (h_na, .inr (7, [.ref h_di, .ref h_na_row])), (h_wr, .inr (3, [.ref h_tb, .int wr_keeping, .int wr_count])), (h_tb, .inr (4, [.ref h_tb_bytes, .int tb_count])), (h_tb_bytes, .inl (c_tb_bytes, 2000, .inl tb_bytes)), (h_na_row, .inl (c_na_row, 16, .inl na_row)), (h_la_differs, .inl (c_la_differs, 40, .inr (.inl la_differs)))] s.heap.size = A at hD eQ hst
  obtain ⟨⟨h_st_MOST_OF_WAY, hz_MOST_OF_WAY, ht_MOST_OF_WAY⟩, ⟨h_st_BITS_OF_WAY, hz_BITS_OF_WAY, ht_BITS_OF_WAY⟩, ⟨h_st_WAYS_AS_TOLD, hz_WAYS_AS_TOLD, ht_WAYS_AS_TOLD⟩⟩ := id hst
  have hA : ∀ q : Nat, s.heap.size ≤ q → A q := fun q h => by rw [← hAe]; exact Or.inr h
  have hS : va_S A s.heap s.heap [] := va_S.rf
  have hl := lv_entry ([.ref h_tr, .int p0]) (n := 4) (Nat.le_of_ble_eq_true rfl)
  rw [lg_entry_eq]
  generalize (lg_sl ([.ref h_tr, .int p0]) ++ List.replicate (4 - (lg_sl ([.ref h_tr, .int p0])).length) Slot.unset).toArray = ls at hl ⊢
  have hl : lv_has ls 4 [(0, .ref h_tr), (1, .int p0)] := hl
  have h := hf
  unfold f_Top_order_F at h
  refine lv_iload_n hx hb d_Top_order_0 rfl (lv_at hl 1 rfl) ?_
  refine lv_iconst (v := 0) hx hb d_Top_order_1 (by decide) ?_
  refine lv_bipush (v := 8) hx hb d_Top_order_2 (by decide) ?_
  obtain ⟨o9, hc9, h⟩ := bd_e h
  have hPc := hP.sub (ws' := []) [] rfl
  have hKc := hK.sub (tys' := []) [] rfl
  refine vp_callSi (va_Run.run (va_runS (As := [.int p0, .int (0 : Int32), .int (8 : Int32)]) (rest := []) ⟨hx, hb, hml, hown, hB⟩ (c_Top_isWithin l dC dI p0 (0 : Int32) (8 : Int32) o9 hc9) (va_cwS 3 hB (goodA (m3 bw_600 bw_343 bw_1) (goodB bw_344)) rfl rfl rfl (by decide +kernel) ⟨Nat.le_of_ble_eq_true rfl, Nat.le_of_ble_eq_true rfl⟩) ⟨fb_p, (pre_p hPc hKc hnw [.int p0, .int (0 : Int32), .int (8 : Int32)])⟩ rfl rfl hl.1 rfl (lv_room (Nat.le_of_ble_eq_true rfl)) d_Top_order_4 ⟨Nat.zero_le _, Nat.zero_le _⟩)) (fun r_1 e_r_1 => ?_)
  subst e_r_1
  clear hPc hKc hc9
  refine lv_if_ne (tgt := 20) hx hb d_Top_order_7 (by decide) (fun c_1 => ?_) (fun c_1 => ?_)
  · have h := if_f h c_1
    refine lv_aload_n hx hb d_Top_order_20 rfl (lv_at hl 0 rfl) ?_
    refine va_get (D := (dC, dI)) (ci := 0) (v := .ref h_te) (C := R_Top) (T := T_Top) (N := 10) hx hb hB iw_Top hown hK hP 0 rfl rfl 5 (by decide) (hB _ bw_265) (fun _ h9 => h9) rfl d_Top_order_21 ?_
    refine lv_aload_n hx hb d_Top_order_24 rfl (lv_at hl 0 rfl) ?_
    refine va_get (D := (dC, dI)) (ci := 0) (v := .ref h_la) (C := R_Top) (T := T_Top) (N := 10) hx hb hB iw_Top hown hK hP 0 rfl rfl 7 (by decide) (hB _ bw_267) (fun _ h9 => h9) rfl d_Top_order_25 ?_
    obtain ⟨o9, hc9, h⟩ := bd_e h
    have hPc := hP.sub (ws' := [(h_te, .inr (11, [.ref h_na, .ref h_wr])), (h_la, .inr (8, [.ref h_di, .ref h_la_ways, .ref h_la_symbolOf, .ref h_la_xs, .ref h_la_ys, .ref h_la_differs, .ref h_la_sequence, .int la_count])), (h_la_ways, .inl (c_la_ways, 4, .inl la_ways)), (h_la_ys, .inl (c_la_ys, 40, .inl la_ys)), (h_la_symbolOf, .inl (c_la_symbolOf, 40, .inl la_symbolOf)), (h_di, .inr (6, [.ref h_di_widths, .ref h_di_heights, u_di_samples, .int di_count])), (h_di_heights, .inl (c_di_heights, 16, .inl di_heights)), (h_la_xs, .inl (c_la_xs, 40, .inl la_xs)), (h_di_widths, .inl (c_di_widths, 16, .inl di_widths)), (h_la_sequence, .inl (c_la_sequence, 40, .inl la_sequence)), (h_na, .inr (7, [.ref h_di, .ref h_na_row]))]) [1, 2, 3, 4, 5, 6, 7, 8, 9, 10, 11] rfl
    have hKc := hK.sub (tys' := [(c_la_ways, .int), (c_la_ys, .int), (c_la_symbolOf, .int), (c_di_heights, .int), (c_la_xs, .int), (c_di_widths, .int), (c_la_sequence, .int)]) [0, 1, 2, 3, 4, 5, 6] rfl
    have hDc := hD.sub (ws' := [(h_te, .inr (11, [.ref h_na, .ref h_wr])), (h_la, .inr (8, [.ref h_di, .ref h_la_ways, .ref h_la_symbolOf, .ref h_la_xs, .ref h_la_ys, .ref h_la_differs, .ref h_la_sequence, .int la_count])), (h_la_ways, .inl (c_la_ways, 4, .inl la_ways)), (h_la_ys, .inl (c_la_ys, 40, .inl la_ys)), (h_la_symbolOf, .inl (c_la_symbolOf, 40, .inl la_symbolOf)), (h_di, .inr (6, [.ref h_di_widths, .ref h_di_heights, u_di_samples, .int di_count])), (h_di_heights, .inl (c_di_heights, 16, .inl di_heights)), (h_la_xs, .inl (c_la_xs, 40, .inl la_xs)), (h_di_widths, .inl (c_di_widths, 16, .inl di_widths)), (h_la_sequence, .inl (c_la_sequence, 40, .inl la_sequence)), (h_na, .inr (7, [.ref h_di, .ref h_na_row]))]) [1, 2, 3, 4, 5, 6, 7, 8, 9, 10, 11] (by decide) rfl
    have hFc := va_free (wc := [(h_te, .inr (11, [.ref h_na, .ref h_wr])), (h_la, .inr (8, [.ref h_di, .ref h_la_ways, .ref h_la_symbolOf, .ref h_la_xs, .ref h_la_ys, .ref h_la_differs, .ref h_la_sequence, .int la_count])), (h_la_ways, .inl (c_la_ways, 4, .inl la_ways)), (h_la_ys, .inl (c_la_ys, 40, .inl la_ys)), (h_la_symbolOf, .inl (c_la_symbolOf, 40, .inl la_symbolOf)), (h_di, .inr (6, [.ref h_di_widths, .ref h_di_heights, u_di_samples, .int di_count])), (h_di_heights, .inl (c_di_heights, 16, .inl di_heights)), (h_la_xs, .inl (c_la_xs, 40, .inl la_xs)), (h_di_widths, .inl (c_di_widths, 16, .inl di_widths)), (h_la_sequence, .inl (c_la_sequence, 40, .inl la_sequence)), (h_na, .inr (7, [.ref h_di, .ref h_na_row]))]) hD hS hA [1, 2, 3, 4, 5, 6, 7, 8, 9, 10, 11] rfl
    refine va_callv (va_runVN (As := [.ref h_la]) (rest := []) ⟨hx, hb, hml, hown, hB⟩ (c_Teller_prepare_F l dC dI h_te h_la h_la_ways h_la_ys h_la_symbolOf h_di h_di_heights h_la_xs h_di_widths h_la_sequence h_na c_la_ways c_la_ys c_la_symbolOf c_di_heights c_la_xs c_di_widths c_la_sequence (.ref h_wr) (.ref h_la_differs) u_di_samples (.int di_count) (.ref h_di) (.ref h_na_row) la_count la_ways la_ys la_symbolOf di_heights la_xs di_widths la_sequence _ o9 hc9) ⟨va_cnB 1 hB (goodB bw_359) rfl rfl rfl (hnw.1 _ bn_356) (hB _ bw_8) (by decide +kernel) ⟨Nat.le_of_ble_eq_true rfl, Nat.le_of_ble_eq_true rfl⟩, hB _ bw_358, hB _ bs_12⟩ ⟨fb_m, va_recv hK hP (ci := 11) (q0 := 1) rfl rfl, (pre_m hPc hKc hDc hnw [.ref h_te, .ref h_la])⟩ rfl rfl hl.1 rfl (lv_room (Nat.le_of_ble_eq_true rfl)) d_Top_order_28 ⟨Nat.zero_le _, Nat.zero_le _⟩) hS (fun q _ h => hFc q h) hFc (fun u9 t H1 locs ht hvm hw hB hz1 hk1 hS => ?_)
    obtain ⟨la_sequence_2, rfl⟩ : ∃ z9, z9 = u9 := ⟨_, rfl⟩
    subst hw
    obtain ⟨hP1, hK1, hD1⟩ := hB
    rw [ht] at hP1
    obtain ⟨hP, hD⟩ := va_join (wr := [(h_tr, .inr (0, [u_tr_kind, u_tr_symbols, u_tr_page, u_tr_toldBytes, u_tr_cameBytes, .ref h_te, u_tr_reader, .ref h_la, u_tr_spare, u_tr_refusedAt])), (h_wr, .inr (3, [.ref h_tb, .int wr_keeping, .int wr_count])), (h_tb, .inr (4, [.ref h_tb_bytes, .int tb_count])), (h_tb_bytes, .inl (c_tb_bytes, 2000, .inl tb_bytes)), (h_na_row, .inl (c_na_row, 16, .inl na_row)), (h_la_differs, .inl (c_la_differs, 40, .inr (.inl la_differs)))]) (w1 := [(h_te, .inr (11, [.ref h_na, .ref h_wr])), (h_la, .inr (8, [.ref h_di, .ref h_la_ways, .ref h_la_symbolOf, .ref h_la_xs, .ref h_la_ys, .ref h_la_differs, .ref h_la_sequence, .int la_count])), (h_la_ways, .inl (c_la_ways, 4, .inl la_ways)), (h_la_ys, .inl (c_la_ys, 40, .inl la_ys)), (h_la_symbolOf, .inl (c_la_symbolOf, 40, .inl la_symbolOf)), (h_di, .inr (6, [.ref h_di_widths, .ref h_di_heights, u_di_samples, .int di_count])), (h_di_heights, .inl (c_di_heights, 16, .inl di_heights)), (h_la_xs, .inl (c_la_xs, 40, .inl la_xs)), (h_di_widths, .inl (c_di_widths, 16, .inl di_widths)), (h_la_sequence, .inl (c_la_sequence, 40, .inl la_sequence_2)), (h_na, .inr (7, [.ref h_di, .ref h_na_row]))]) hP hD [1, 2, 3, 4, 5, 6, 7, 8, 9, 10, 11] [0, 12, 13, 14, 15, 16] rfl rfl (by decide) (by decide) hk1 hFc hP1 hD1
    have hP := hP.sub (ws' := [(h_tr, .inr (0, [u_tr_kind, u_tr_symbols, u_tr_page, u_tr_toldBytes, u_tr_cameBytes, .ref h_te, u_tr_reader, .ref h_la, u_tr_spare, u_tr_refusedAt])), (h_te, .inr (11, [.ref h_na, .ref h_wr])), (h_la, .inr (8, [.ref h_di, .ref h_la_ways, .ref h_la_symbolOf, .ref h_la_xs, .ref h_la_ys, .ref h_la_differs, .ref h_la_sequence, .int la_count])), (h_la_ways, .inl (c_la_ways, 4, .inl la_ways)), (h_la_ys, .inl (c_la_ys, 40, .inl la_ys)), (h_la_symbolOf, .inl (c_la_symbolOf, 40, .inl la_symbolOf)), (h_di, .inr (6, [.ref h_di_widths, .ref h_di_heights, u_di_samples, .int di_count])), (h_di_heights, .inl (c_di_heights, 16, .inl di_heights)), (h_la_xs, .inl (c_la_xs, 40, .inl la_xs)), (h_di_widths, .inl (c_di_widths, 16, .inl di_widths)), (h_la_sequence, .inl (c_la_sequence, 40, .inl la_sequence_2)), (h_na, .inr (7, [.ref h_di, .ref h_na_row])), (h_wr, .inr (3, [.ref h_tb, .int wr_keeping, .int wr_count])), (h_tb, .inr (4, [.ref h_tb_bytes, .int tb_count])), (h_tb_bytes, .inl (c_tb_bytes, 2000, .inl tb_bytes)), (h_na_row, .inl (c_na_row, 16, .inl na_row)), (h_la_differs, .inl (c_la_differs, 40, .inr (.inl la_differs)))]) [0, 6, 7, 8, 9, 10, 11, 12, 13, 14, 15, 16, 1, 2, 3, 4, 5] rfl
    have hD := hD.sub (ws' := [(h_tr, .inr (0, [u_tr_kind, u_tr_symbols, u_tr_page, u_tr_toldBytes, u_tr_cameBytes, .ref h_te, u_tr_reader, .ref h_la, u_tr_spare, u_tr_refusedAt])), (h_te, .inr (11, [.ref h_na, .ref h_wr])), (h_la, .inr (8, [.ref h_di, .ref h_la_ways, .ref h_la_symbolOf, .ref h_la_xs, .ref h_la_ys, .ref h_la_differs, .ref h_la_sequence, .int la_count])), (h_la_ways, .inl (c_la_ways, 4, .inl la_ways)), (h_la_ys, .inl (c_la_ys, 40, .inl la_ys)), (h_la_symbolOf, .inl (c_la_symbolOf, 40, .inl la_symbolOf)), (h_di, .inr (6, [.ref h_di_widths, .ref h_di_heights, u_di_samples, .int di_count])), (h_di_heights, .inl (c_di_heights, 16, .inl di_heights)), (h_la_xs, .inl (c_la_xs, 40, .inl la_xs)), (h_di_widths, .inl (c_di_widths, 16, .inl di_widths)), (h_la_sequence, .inl (c_la_sequence, 40, .inl la_sequence_2)), (h_na, .inr (7, [.ref h_di, .ref h_na_row])), (h_wr, .inr (3, [.ref h_tb, .int wr_keeping, .int wr_count])), (h_tb, .inr (4, [.ref h_tb_bytes, .int tb_count])), (h_tb_bytes, .inl (c_tb_bytes, 2000, .inl tb_bytes)), (h_na_row, .inl (c_na_row, 16, .inl na_row)), (h_la_differs, .inl (c_la_differs, 40, .inr (.inl la_differs)))]) [0, 6, 7, 8, 9, 10, 11, 12, 13, 14, 15, 16, 1, 2, 3, 4, 5] (by decide) rfl
    clear hPc hKc hDc hFc hc9 hP1 hK1 hD1 hk1 hz1 hvm ht
    generalize H1 = H at hP hS ⊢
    try dsimp only at h
    refine lv_aload_n hx hb d_Top_order_31 rfl (lv_at hl 0 rfl) ?_
    refine va_get (D := (dC, dI)) (ci := 0) (v := .ref h_la) (C := R_Top) (T := T_Top) (N := 10) hx hb hB iw_Top hown hK hP 0 rfl rfl 7 (by decide) (hB _ bw_267) (fun _ h9 => h9) rfl d_Top_order_32 ?_
    refine va_getN (D := (dC, dI)) (ci := 8) (v := .ref h_la_ways) (C := R_Layout) (T := T_Layout) (N := 8) hx hb hB iw_Layout hown hK hP 2 rfl rfl 1 (by decide) (va_Nw.use rfl (hnw.1 _ bn_217)) (fun _ h9 => h9) rfl d_Top_order_35 ?_
    refine lv_iconst (v := 3) hx hb d_Top_order_38 (by decide) ?_
    obtain ⟨hin, h⟩ := gq_e h
    refine va_iald hx hb hK hP 3 0 rfl rfl hin d_Top_order_39 ?_
    refine lv_iconst (v := 4) hx hb d_Top_order_40 (by decide) ?_
    obtain ⟨j68, e_j68, h⟩ := jn_e h
    have w_j68 : ∀ (la_ys_3 : (Nat → Int32)) (la_symbolOf_4 : (Nat → Int32)) (la_xs_5 : (Nat → Int32)) (wr_keeping_6 : Int32) (wr_count_7 : Int32) (tb_count_8 : Int32) (tb_bytes_9 : (Nat → Int32)) (na_row_10 : (Nat → Int32)) (la_differs_11 : (Nat → Int64)) (H : Heap) (locs : List Loc) (ls : Array Slot), j68 la_ys_3 la_symbolOf_4 la_xs_5 wr_keeping_6 wr_count_7 tb_count_8 tb_bytes_9 na_row_10 la_differs_11 = some o → va_P (dC, dI) CL [(h_tr, .inr (0, [u_tr_kind, u_tr_symbols, u_tr_page, u_tr_toldBytes, u_tr_cameBytes, .ref h_te, u_tr_reader, .ref h_la, u_tr_spare, u_tr_refusedAt])), (h_te, .inr (11, [.ref h_na, .ref h_wr])), (h_la, .inr (8, [.ref h_di, .ref h_la_ways, .ref h_la_symbolOf, .ref h_la_xs, .ref h_la_ys, .ref h_la_differs, .ref h_la_sequence, .int la_count])), (h_la_ways, .inl (c_la_ways, 4, .inl la_ways)), (h_la_ys, .inl (c_la_ys, 40, .inl la_ys_3)), (h_la_symbolOf, .inl (c_la_symbolOf, 40, .inl la_symbolOf_4)), (h_di, .inr (6, [.ref h_di_widths, .ref h_di_heights, u_di_samples, .int di_count])), (h_di_heights, .inl (c_di_heights, 16, .inl di_heights)), (h_la_xs, .inl (c_la_xs, 40, .inl la_xs_5)), (h_di_widths, .inl (c_di_widths, 16, .inl di_widths)), (h_la_sequence, .inl (c_la_sequence, 40, .inl la_sequence_2)), (h_na, .inr (7, [.ref h_di, .ref h_na_row])), (h_wr, .inr (3, [.ref h_tb, .int wr_keeping_6, .int wr_count_7])), (h_tb, .inr (4, [.ref h_tb_bytes, .int tb_count_8])), (h_tb_bytes, .inl (c_tb_bytes, 2000, .inl tb_bytes_9)), (h_na_row, .inl (c_na_row, 16, .inl na_row_10)), (h_la_differs, .inl (c_la_differs, 40, .inr (.inl la_differs_11)))] H → va_D A [(h_tr, .inr (0, [u_tr_kind, u_tr_symbols, u_tr_page, u_tr_toldBytes, u_tr_cameBytes, .ref h_te, u_tr_reader, .ref h_la, u_tr_spare, u_tr_refusedAt])), (h_te, .inr (11, [.ref h_na, .ref h_wr])), (h_la, .inr (8, [.ref h_di, .ref h_la_ways, .ref h_la_symbolOf, .ref h_la_xs, .ref h_la_ys, .ref h_la_differs, .ref h_la_sequence, .int la_count])), (h_la_ways, .inl (c_la_ways, 4, .inl la_ways)), (h_la_ys, .inl (c_la_ys, 40, .inl la_ys_3)), (h_la_symbolOf, .inl (c_la_symbolOf, 40, .inl la_symbolOf_4)), (h_di, .inr (6, [.ref h_di_widths, .ref h_di_heights, u_di_samples, .int di_count])), (h_di_heights, .inl (c_di_heights, 16, .inl di_heights)), (h_la_xs, .inl (c_la_xs, 40, .inl la_xs_5)), (h_di_widths, .inl (c_di_widths, 16, .inl di_widths)), (h_la_sequence, .inl (c_la_sequence, 40, .inl la_sequence_2)), (h_na, .inr (7, [.ref h_di, .ref h_na_row])), (h_wr, .inr (3, [.ref h_tb, .int wr_keeping_6, .int wr_count_7])), (h_tb, .inr (4, [.ref h_tb_bytes, .int tb_count_8])), (h_tb_bytes, .inl (c_tb_bytes, 2000, .inl tb_bytes_9)), (h_na_row, .inl (c_na_row, 16, .inl na_row_10)), (h_la_differs, .inl (c_la_differs, 40, .inr (.inl la_differs_11)))] → va_S A s.heap H locs → lv_has ls 4 [(0, .ref h_tr)] → W p l e ({ frames := 7, cells := 1, slots := 6, locals := 173 } : Room) s m ([.ref h_tr, .int p0] : List Value).toArray below meth c H locs 0 0 Q9 (F0 m 68 ls []) := by
      intro la_ys_3 la_symbolOf_4 la_xs_5 wr_keeping_6 wr_count_7 tb_count_8 tb_bytes_9 na_row_10 la_differs_11 H locs ls h hP hD hS hl
      rw [e_j68] at h
      refine lv_aload_n hx hb d_Top_order_68 rfl (lv_at hl 0 rfl) ?_
      refine va_get (D := (dC, dI)) (ci := 0) (v := .ref h_te) (C := R_Top) (T := T_Top) (N := 10) hx hb hB iw_Top hown hK hP 0 rfl rfl 5 (by decide) (hB _ bw_265) (fun _ h9 => h9) rfl d_Top_order_69 ?_
      refine lv_aload_n hx hb d_Top_order_72 rfl (lv_at hl 0 rfl) ?_
      refine va_get (D := (dC, dI)) (ci := 0) (v := .ref h_la) (C := R_Top) (T := T_Top) (N := 10) hx hb hB iw_Top hown hK hP 0 rfl rfl 7 (by decide) (hB _ bw_267) (fun _ h9 => h9) rfl d_Top_order_73 ?_
      refine lv_iconst (v := 0) hx hb d_Top_order_76 (by decide) ?_
      obtain ⟨o9, hc9, h⟩ := bd_e h
      have hPc := hP.sub (ws' := [(h_te, .inr (11, [.ref h_na, .ref h_wr])), (h_la, .inr (8, [.ref h_di, .ref h_la_ways, .ref h_la_symbolOf, .ref h_la_xs, .ref h_la_ys, .ref h_la_differs, .ref h_la_sequence, .int la_count])), (h_wr, .inr (3, [.ref h_tb, .int wr_keeping_6, .int wr_count_7])), (h_tb, .inr (4, [.ref h_tb_bytes, .int tb_count_8])), (h_tb_bytes, .inl (c_tb_bytes, 2000, .inl tb_bytes_9)), (h_la_ways, .inl (c_la_ways, 4, .inl la_ways)), (h_na, .inr (7, [.ref h_di, .ref h_na_row])), (h_na_row, .inl (c_na_row, 16, .inl na_row_10)), (h_la_sequence, .inl (c_la_sequence, 40, .inl la_sequence_2)), (h_la_symbolOf, .inl (c_la_symbolOf, 40, .inl la_symbolOf_4)), (h_la_xs, .inl (c_la_xs, 40, .inl la_xs_5)), (h_di, .inr (6, [.ref h_di_widths, .ref h_di_heights, u_di_samples, .int di_count])), (h_di_widths, .inl (c_di_widths, 16, .inl di_widths)), (h_la_ys, .inl (c_la_ys, 40, .inl la_ys_3)), (h_di_heights, .inl (c_di_heights, 16, .inl di_heights)), (h_la_differs, .inl (c_la_differs, 40, .inr (.inl la_differs_11)))]) [1, 2, 12, 13, 14, 3, 11, 15, 10, 5, 8, 6, 9, 4, 7, 16] rfl
      have hKc := hK.sub (tys' := [(c_tb_bytes, .int), (c_la_ways, .int), (c_na_row, .int), (c_la_sequence, .int), (c_la_symbolOf, .int), (c_la_xs, .int), (c_di_widths, .int), (c_la_ys, .int), (c_di_heights, .int), (c_la_differs, .long)]) [7, 0, 8, 6, 2, 4, 5, 1, 3, 9] rfl
      have hDc := hD.sub (ws' := [(h_te, .inr (11, [.ref h_na, .ref h_wr])), (h_la, .inr (8, [.ref h_di, .ref h_la_ways, .ref h_la_symbolOf, .ref h_la_xs, .ref h_la_ys, .ref h_la_differs, .ref h_la_sequence, .int la_count])), (h_wr, .inr (3, [.ref h_tb, .int wr_keeping_6, .int wr_count_7])), (h_tb, .inr (4, [.ref h_tb_bytes, .int tb_count_8])), (h_tb_bytes, .inl (c_tb_bytes, 2000, .inl tb_bytes_9)), (h_la_ways, .inl (c_la_ways, 4, .inl la_ways)), (h_na, .inr (7, [.ref h_di, .ref h_na_row])), (h_na_row, .inl (c_na_row, 16, .inl na_row_10)), (h_la_sequence, .inl (c_la_sequence, 40, .inl la_sequence_2)), (h_la_symbolOf, .inl (c_la_symbolOf, 40, .inl la_symbolOf_4)), (h_la_xs, .inl (c_la_xs, 40, .inl la_xs_5)), (h_di, .inr (6, [.ref h_di_widths, .ref h_di_heights, u_di_samples, .int di_count])), (h_di_widths, .inl (c_di_widths, 16, .inl di_widths)), (h_la_ys, .inl (c_la_ys, 40, .inl la_ys_3)), (h_di_heights, .inl (c_di_heights, 16, .inl di_heights)), (h_la_differs, .inl (c_la_differs, 40, .inr (.inl la_differs_11)))]) [1, 2, 12, 13, 14, 3, 11, 15, 10, 5, 8, 6, 9, 4, 7, 16] (by decide) rfl
      have hFc := va_free (wc := [(h_te, .inr (11, [.ref h_na, .ref h_wr])), (h_la, .inr (8, [.ref h_di, .ref h_la_ways, .ref h_la_symbolOf, .ref h_la_xs, .ref h_la_ys, .ref h_la_differs, .ref h_la_sequence, .int la_count])), (h_wr, .inr (3, [.ref h_tb, .int wr_keeping_6, .int wr_count_7])), (h_tb, .inr (4, [.ref h_tb_bytes, .int tb_count_8])), (h_tb_bytes, .inl (c_tb_bytes, 2000, .inl tb_bytes_9)), (h_la_ways, .inl (c_la_ways, 4, .inl la_ways)), (h_na, .inr (7, [.ref h_di, .ref h_na_row])), (h_na_row, .inl (c_na_row, 16, .inl na_row_10)), (h_la_sequence, .inl (c_la_sequence, 40, .inl la_sequence_2)), (h_la_symbolOf, .inl (c_la_symbolOf, 40, .inl la_symbolOf_4)), (h_la_xs, .inl (c_la_xs, 40, .inl la_xs_5)), (h_di, .inr (6, [.ref h_di_widths, .ref h_di_heights, u_di_samples, .int di_count])), (h_di_widths, .inl (c_di_widths, 16, .inl di_widths)), (h_la_ys, .inl (c_la_ys, 40, .inl la_ys_3)), (h_di_heights, .inl (c_di_heights, 16, .inl di_heights)), (h_la_differs, .inl (c_la_differs, 40, .inr (.inl la_differs_11)))]) hD hS hA [1, 2, 12, 13, 14, 3, 11, 15, 10, 5, 8, 6, 9, 4, 7, 16] rfl
      refine va_calli (va_runVN (As := [.ref h_la, .int (0 : Int32)]) (rest := []) ⟨hx, hb, hml, hown, hB⟩ (c_Teller_tellAll_F l dC dI h_te h_la h_wr h_tb h_tb_bytes h_la_ways h_na h_na_row h_la_sequence h_la_symbolOf h_la_xs h_di h_di_widths h_la_ys h_di_heights h_la_differs c_tb_bytes c_la_ways c_na_row c_la_sequence c_la_symbolOf c_la_xs c_di_widths c_la_ys c_di_heights c_la_differs u_di_samples la_count wr_keeping_6 wr_count_7 tb_count_8 tb_bytes_9 la_ways na_row_10 la_sequence_2 la_symbolOf_4 la_xs_5 di_count di_widths la_ys_3 di_heights la_differs_11 (0 : Int32) _ o9 hc9) ⟨va_cnB 2 hB (goodB bw_396) rfl rfl rfl (hnw.1 _ bn_393) (hB _ bw_8) (by decide +kernel) ⟨Nat.le_of_ble_eq_true rfl, Nat.le_of_ble_eq_true rfl⟩, hB _ bw_395, hB _ bs_17⟩ ⟨fb_s, va_recv hK hP (ci := 11) (q0 := 1) rfl rfl, (pre_s hPc hKc hDc hnw hst hS hFc [.ref h_te, .ref h_la, .int (0 : Int32)])⟩ rfl rfl hl.1 rfl (lv_room (Nat.le_of_ble_eq_true rfl)) d_Top_order_77 ⟨Nat.zero_le _, Nat.zero_le _⟩) hS (fun q _ h => hFc q h) hFc (fun r_12 u9 t H1 locs ht hvm hw hB hz1 hk1 hS => ?_)
      obtain ⟨wr_keeping_13, wr_count_14, tb_count_15, tb_bytes_16, na_row_17⟩ := u9
      subst hw
      obtain ⟨hP1, hK1, hD1⟩ := hB
      rw [ht] at hP1
      obtain ⟨hP, hD⟩ := va_join (wr := [(h_tr, .inr (0, [u_tr_kind, u_tr_symbols, u_tr_page, u_tr_toldBytes, u_tr_cameBytes, .ref h_te, u_tr_reader, .ref h_la, u_tr_spare, u_tr_refusedAt]))]) (w1 := [(h_te, .inr (11, [.ref h_na, .ref h_wr])), (h_la, .inr (8, [.ref h_di, .ref h_la_ways, .ref h_la_symbolOf, .ref h_la_xs, .ref h_la_ys, .ref h_la_differs, .ref h_la_sequence, .int la_count])), (h_wr, .inr (3, [.ref h_tb, .int wr_keeping_13, .int wr_count_14])), (h_tb, .inr (4, [.ref h_tb_bytes, .int tb_count_15])), (h_tb_bytes, .inl (c_tb_bytes, 2000, .inl tb_bytes_16)), (h_la_ways, .inl (c_la_ways, 4, .inl la_ways)), (h_na, .inr (7, [.ref h_di, .ref h_na_row])), (h_na_row, .inl (c_na_row, 16, .inl na_row_17)), (h_la_sequence, .inl (c_la_sequence, 40, .inl la_sequence_2)), (h_la_symbolOf, .inl (c_la_symbolOf, 40, .inl la_symbolOf_4)), (h_la_xs, .inl (c_la_xs, 40, .inl la_xs_5)), (h_di, .inr (6, [.ref h_di_widths, .ref h_di_heights, u_di_samples, .int di_count])), (h_di_widths, .inl (c_di_widths, 16, .inl di_widths)), (h_la_ys, .inl (c_la_ys, 40, .inl la_ys_3)), (h_di_heights, .inl (c_di_heights, 16, .inl di_heights)), (h_la_differs, .inl (c_la_differs, 40, .inr (.inl la_differs_11)))]) hP hD [1, 2, 12, 13, 14, 3, 11, 15, 10, 5, 8, 6, 9, 4, 7, 16] [0] rfl rfl (by decide) (by decide) hk1 hFc hP1 hD1
      have hP := hP.sub (ws' := [(h_tr, .inr (0, [u_tr_kind, u_tr_symbols, u_tr_page, u_tr_toldBytes, u_tr_cameBytes, .ref h_te, u_tr_reader, .ref h_la, u_tr_spare, u_tr_refusedAt])), (h_te, .inr (11, [.ref h_na, .ref h_wr])), (h_la, .inr (8, [.ref h_di, .ref h_la_ways, .ref h_la_symbolOf, .ref h_la_xs, .ref h_la_ys, .ref h_la_differs, .ref h_la_sequence, .int la_count])), (h_la_ways, .inl (c_la_ways, 4, .inl la_ways)), (h_la_ys, .inl (c_la_ys, 40, .inl la_ys_3)), (h_la_symbolOf, .inl (c_la_symbolOf, 40, .inl la_symbolOf_4)), (h_di, .inr (6, [.ref h_di_widths, .ref h_di_heights, u_di_samples, .int di_count])), (h_di_heights, .inl (c_di_heights, 16, .inl di_heights)), (h_la_xs, .inl (c_la_xs, 40, .inl la_xs_5)), (h_di_widths, .inl (c_di_widths, 16, .inl di_widths)), (h_la_sequence, .inl (c_la_sequence, 40, .inl la_sequence_2)), (h_na, .inr (7, [.ref h_di, .ref h_na_row])), (h_wr, .inr (3, [.ref h_tb, .int wr_keeping_13, .int wr_count_14])), (h_tb, .inr (4, [.ref h_tb_bytes, .int tb_count_15])), (h_tb_bytes, .inl (c_tb_bytes, 2000, .inl tb_bytes_16)), (h_na_row, .inl (c_na_row, 16, .inl na_row_17)), (h_la_differs, .inl (c_la_differs, 40, .inr (.inl la_differs_11)))]) [0, 1, 2, 6, 14, 10, 12, 15, 11, 13, 9, 7, 3, 4, 5, 8, 16] rfl
      have hD := hD.sub (ws' := [(h_tr, .inr (0, [u_tr_kind, u_tr_symbols, u_tr_page, u_tr_toldBytes, u_tr_cameBytes, .ref h_te, u_tr_reader, .ref h_la, u_tr_spare, u_tr_refusedAt])), (h_te, .inr (11, [.ref h_na, .ref h_wr])), (h_la, .inr (8, [.ref h_di, .ref h_la_ways, .ref h_la_symbolOf, .ref h_la_xs, .ref h_la_ys, .ref h_la_differs, .ref h_la_sequence, .int la_count])), (h_la_ways, .inl (c_la_ways, 4, .inl la_ways)), (h_la_ys, .inl (c_la_ys, 40, .inl la_ys_3)), (h_la_symbolOf, .inl (c_la_symbolOf, 40, .inl la_symbolOf_4)), (h_di, .inr (6, [.ref h_di_widths, .ref h_di_heights, u_di_samples, .int di_count])), (h_di_heights, .inl (c_di_heights, 16, .inl di_heights)), (h_la_xs, .inl (c_la_xs, 40, .inl la_xs_5)), (h_di_widths, .inl (c_di_widths, 16, .inl di_widths)), (h_la_sequence, .inl (c_la_sequence, 40, .inl la_sequence_2)), (h_na, .inr (7, [.ref h_di, .ref h_na_row])), (h_wr, .inr (3, [.ref h_tb, .int wr_keeping_13, .int wr_count_14])), (h_tb, .inr (4, [.ref h_tb_bytes, .int tb_count_15])), (h_tb_bytes, .inl (c_tb_bytes, 2000, .inl tb_bytes_16)), (h_na_row, .inl (c_na_row, 16, .inl na_row_17)), (h_la_differs, .inl (c_la_differs, 40, .inr (.inl la_differs_11)))]) [0, 1, 2, 6, 14, 10, 12, 15, 11, 13, 9, 7, 3, 4, 5, 8, 16] (by decide) rfl
      clear hPc hKc hDc hFc hc9 hP1 hK1 hD1 hk1 hz1 hvm ht
      generalize H1 = H at hP hS ⊢
      try dsimp only at h
      subst eQ
      refine x_ret ?_
      refine W.widen (k := 1) (n := 6) (by omega) (by omega) ?_
      exact W.iret (v := r_12) hx hb hr (fun t ht hW => ⟨⟨_, (la_ys_3, la_symbolOf_4, la_xs_5, la_sequence_2, wr_keeping_13, wr_count_14, tb_count_15, tb_bytes_16, na_row_17, la_differs_11), rfl, Option.some.inj h, by rw [ht]; exact hP, va_K.moved hW.alike hK, hD⟩, hS.F ht⟩) hS.2.2 d_Top_order_80
    refine lv_icmp_eq (tgt := 68) hx hb d_Top_order_41 (by decide) (fun c_2 => ?_) (fun c_2 => ?_)
    · have h := if_t h c_2
      exact w_j68 _ _ _ _ _ _ _ _ _ _ _ _ h hP hD hS (lv_sub hl [0] rfl)
    · have h := if_f h c_2
      refine lv_iconst (v := 1) hx hb d_Top_order_44 (by decide) ?_
      refine lv_istore_n (lv' := [(2, .int (1 : Int32)), (0, .ref h_tr), (1, .int p0)]) hx hb d_Top_order_45 rfl hl (by decide) rfl (fun ls hl => ?_)
      refine lv_iconst (v := 0) hx hb d_Top_order_46 (by decide) ?_
      refine lv_istore_n (lv' := [(3, .int (0 : Int32)), (2, .int (1 : Int32)), (0, .ref h_tr), (1, .int p0)]) hx hb d_Top_order_47 rfl hl (by decide) rfl (fun ls hl => ?_)
      have w_self48 : ∀ n9 : Nat, ∀ (v3_18 : Int32) (v2_19 : Int32) (la_ys_20 : (Nat → Int32)) (la_symbolOf_21 : (Nat → Int32)) (la_xs_22 : (Nat → Int32)) (wr_keeping_23 : Int32) (wr_count_24 : Int32) (tb_count_25 : Int32) (tb_bytes_26 : (Nat → Int32)) (na_row_27 : (Nat → Int32)) (la_differs_28 : (Nat → Int64)) (H : Heap) (locs : List Loc) (ls : Array Slot), lp (f_Top_order_F_L48 p0 j68 la_count la_ways la_sequence_2 di_count di_widths di_heights) n9 (v3_18, v2_19, la_ys_20, la_symbolOf_21, la_xs_22, wr_keeping_23, wr_count_24, tb_count_25, tb_bytes_26, na_row_27, la_differs_28) = some o → va_P (dC, dI) CL [(h_tr, .inr (0, [u_tr_kind, u_tr_symbols, u_tr_page, u_tr_toldBytes, u_tr_cameBytes, .ref h_te, u_tr_reader, .ref h_la, u_tr_spare, u_tr_refusedAt])), (h_te, .inr (11, [.ref h_na, .ref h_wr])), (h_la, .inr (8, [.ref h_di, .ref h_la_ways, .ref h_la_symbolOf, .ref h_la_xs, .ref h_la_ys, .ref h_la_differs, .ref h_la_sequence, .int la_count])), (h_la_ways, .inl (c_la_ways, 4, .inl la_ways)), (h_la_ys, .inl (c_la_ys, 40, .inl la_ys_20)), (h_la_symbolOf, .inl (c_la_symbolOf, 40, .inl la_symbolOf_21)), (h_di, .inr (6, [.ref h_di_widths, .ref h_di_heights, u_di_samples, .int di_count])), (h_di_heights, .inl (c_di_heights, 16, .inl di_heights)), (h_la_xs, .inl (c_la_xs, 40, .inl la_xs_22)), (h_di_widths, .inl (c_di_widths, 16, .inl di_widths)), (h_la_sequence, .inl (c_la_sequence, 40, .inl la_sequence_2)), (h_na, .inr (7, [.ref h_di, .ref h_na_row])), (h_wr, .inr (3, [.ref h_tb, .int wr_keeping_23, .int wr_count_24])), (h_tb, .inr (4, [.ref h_tb_bytes, .int tb_count_25])), (h_tb_bytes, .inl (c_tb_bytes, 2000, .inl tb_bytes_26)), (h_na_row, .inl (c_na_row, 16, .inl na_row_27)), (h_la_differs, .inl (c_la_differs, 40, .inr (.inl la_differs_28)))] H → va_D A [(h_tr, .inr (0, [u_tr_kind, u_tr_symbols, u_tr_page, u_tr_toldBytes, u_tr_cameBytes, .ref h_te, u_tr_reader, .ref h_la, u_tr_spare, u_tr_refusedAt])), (h_te, .inr (11, [.ref h_na, .ref h_wr])), (h_la, .inr (8, [.ref h_di, .ref h_la_ways, .ref h_la_symbolOf, .ref h_la_xs, .ref h_la_ys, .ref h_la_differs, .ref h_la_sequence, .int la_count])), (h_la_ways, .inl (c_la_ways, 4, .inl la_ways)), (h_la_ys, .inl (c_la_ys, 40, .inl la_ys_20)), (h_la_symbolOf, .inl (c_la_symbolOf, 40, .inl la_symbolOf_21)), (h_di, .inr (6, [.ref h_di_widths, .ref h_di_heights, u_di_samples, .int di_count])), (h_di_heights, .inl (c_di_heights, 16, .inl di_heights)), (h_la_xs, .inl (c_la_xs, 40, .inl la_xs_22)), (h_di_widths, .inl (c_di_widths, 16, .inl di_widths)), (h_la_sequence, .inl (c_la_sequence, 40, .inl la_sequence_2)), (h_na, .inr (7, [.ref h_di, .ref h_na_row])), (h_wr, .inr (3, [.ref h_tb, .int wr_keeping_23, .int wr_count_24])), (h_tb, .inr (4, [.ref h_tb_bytes, .int tb_count_25])), (h_tb_bytes, .inl (c_tb_bytes, 2000, .inl tb_bytes_26)), (h_na_row, .inl (c_na_row, 16, .inl na_row_27)), (h_la_differs, .inl (c_la_differs, 40, .inr (.inl la_differs_28)))] → va_S A s.heap H locs → lv_has ls 4 [(3, .int v3_18), (2, .int v2_19), (0, .ref h_tr), (1, .int p0)] → W p l e ({ frames := 7, cells := 1, slots := 6, locals := 173 } : Room) s m ([.ref h_tr, .int p0] : List Value).toArray below meth c H locs 0 0 Q9 (F0 m 48 ls []) := by
        intro n9
        induction n9 with
        | zero =>
          intro v3_18 v2_19 la_ys_20 la_symbolOf_21 la_xs_22 wr_keeping_23 wr_count_24 tb_count_25 tb_bytes_26 na_row_27 la_differs_28 H locs ls h hP hD hS hl
          exact absurd h (by simp [lp])
        | succ n9 ih_self48 =>
          intro v3_18 v2_19 la_ys_20 la_symbolOf_21 la_xs_22 wr_keeping_23 wr_count_24 tb_count_25 tb_bytes_26 na_row_27 la_differs_28 H locs ls h hP hD hS hl
          obtain ⟨self48, e_self48, h⟩ := abs_k (P := fun z9 => f_Top_order_F_L48 p0 j68 la_count la_ways la_sequence_2 di_count di_widths di_heights z9 (v3_18, v2_19, la_ys_20, la_symbolOf_21, la_xs_22, wr_keeping_23, wr_count_24, tb_count_25, tb_bytes_26, na_row_27, la_differs_28) = some o) (lp_e h)
          rw [← e_self48] at ih_self48
          unfold f_Top_order_F_L48 at h
          try dsimp only at h
          refine lv_iload_n hx hb d_Top_order_48 rfl (lv_at hl 0 rfl) ?_
          refine lv_iload_n hx hb d_Top_order_49 rfl (lv_at hl 3 rfl) ?_
          refine lv_icmp_ge (tgt := 68) hx hb d_Top_order_50 (by decide) (fun c_3 => ?_) (fun c_3 => ?_)
          · have h := if_t h c_3
            exact w_j68 _ _ _ _ _ _ _ _ _ _ _ _ h hP hD hS (lv_sub hl [2] rfl)
          · have h := if_f h c_3
            refine lv_iload_n hx hb d_Top_order_53 rfl (lv_at hl 1 rfl) ?_
            refine lv_if_eq (tgt := 68) hx hb d_Top_order_54 (by decide) (fun c_4 => ?_) (fun c_4 => ?_)
            · have h := if_t h c_4
              exact w_j68 _ _ _ _ _ _ _ _ _ _ _ _ h hP hD hS (lv_sub hl [2] rfl)
            · have h := if_f h c_4
              refine lv_aload_n hx hb d_Top_order_57 rfl (lv_at hl 2 rfl) ?_
              obtain ⟨o9, hc9, h⟩ := bd_e h
              have hPc := hP.sub (ws' := [(h_tr, .inr (0, [u_tr_kind, u_tr_symbols, u_tr_page, u_tr_toldBytes, u_tr_cameBytes, .ref h_te, u_tr_reader, .ref h_la, u_tr_spare, u_tr_refusedAt])), (h_te, .inr (11, [.ref h_na, .ref h_wr])), (h_la, .inr (8, [.ref h_di, .ref h_la_ways, .ref h_la_symbolOf, .ref h_la_xs, .ref h_la_ys, .ref h_la_differs, .ref h_la_sequence, .int la_count])), (h_wr, .inr (3, [.ref h_tb, .int wr_keeping_23, .int wr_count_24])), (h_tb, .inr (4, [.ref h_tb_bytes, .int tb_count_25])), (h_tb_bytes, .inl (c_tb_bytes, 2000, .inl tb_bytes_26)), (h_la_ways, .inl (c_la_ways, 4, .inl la_ways)), (h_na, .inr (7, [.ref h_di, .ref h_na_row])), (h_na_row, .inl (c_na_row, 16, .inl na_row_27)), (h_la_sequence, .inl (c_la_sequence, 40, .inl la_sequence_2)), (h_la_symbolOf, .inl (c_la_symbolOf, 40, .inl la_symbolOf_21)), (h_la_xs, .inl (c_la_xs, 40, .inl la_xs_22)), (h_di, .inr (6, [.ref h_di_widths, .ref h_di_heights, u_di_samples, .int di_count])), (h_di_widths, .inl (c_di_widths, 16, .inl di_widths)), (h_la_ys, .inl (c_la_ys, 40, .inl la_ys_20)), (h_di_heights, .inl (c_di_heights, 16, .inl di_heights)), (h_la_differs, .inl (c_la_differs, 40, .inr (.inl la_differs_28)))]) [0, 1, 2, 12, 13, 14, 3, 11, 15, 10, 5, 8, 6, 9, 4, 7, 16] rfl
              have hKc := hK.sub (tys' := [(c_tb_bytes, .int), (c_la_ways, .int), (c_na_row, .int), (c_la_sequence, .int), (c_la_symbolOf, .int), (c_la_xs, .int), (c_di_widths, .int), (c_la_ys, .int), (c_di_heights, .int), (c_la_differs, .long)]) [7, 0, 8, 6, 2, 4, 5, 1, 3, 9] rfl
              have hDc := hD.sub (ws' := [(h_tr, .inr (0, [u_tr_kind, u_tr_symbols, u_tr_page, u_tr_toldBytes, u_tr_cameBytes, .ref h_te, u_tr_reader, .ref h_la, u_tr_spare, u_tr_refusedAt])), (h_te, .inr (11, [.ref h_na, .ref h_wr])), (h_la, .inr (8, [.ref h_di, .ref h_la_ways, .ref h_la_symbolOf, .ref h_la_xs, .ref h_la_ys, .ref h_la_differs, .ref h_la_sequence, .int la_count])), (h_wr, .inr (3, [.ref h_tb, .int wr_keeping_23, .int wr_count_24])), (h_tb, .inr (4, [.ref h_tb_bytes, .int tb_count_25])), (h_tb_bytes, .inl (c_tb_bytes, 2000, .inl tb_bytes_26)), (h_la_ways, .inl (c_la_ways, 4, .inl la_ways)), (h_na, .inr (7, [.ref h_di, .ref h_na_row])), (h_na_row, .inl (c_na_row, 16, .inl na_row_27)), (h_la_sequence, .inl (c_la_sequence, 40, .inl la_sequence_2)), (h_la_symbolOf, .inl (c_la_symbolOf, 40, .inl la_symbolOf_21)), (h_la_xs, .inl (c_la_xs, 40, .inl la_xs_22)), (h_di, .inr (6, [.ref h_di_widths, .ref h_di_heights, u_di_samples, .int di_count])), (h_di_widths, .inl (c_di_widths, 16, .inl di_widths)), (h_la_ys, .inl (c_la_ys, 40, .inl la_ys_20)), (h_di_heights, .inl (c_di_heights, 16, .inl di_heights)), (h_la_differs, .inl (c_la_differs, 40, .inr (.inl la_differs_28)))]) [0, 1, 2, 12, 13, 14, 3, 11, 15, 10, 5, 8, 6, 9, 4, 7, 16] (by decide) rfl
              have hFc := va_free (wc := [(h_tr, .inr (0, [u_tr_kind, u_tr_symbols, u_tr_page, u_tr_toldBytes, u_tr_cameBytes, .ref h_te, u_tr_reader, .ref h_la, u_tr_spare, u_tr_refusedAt])), (h_te, .inr (11, [.ref h_na, .ref h_wr])), (h_la, .inr (8, [.ref h_di, .ref h_la_ways, .ref h_la_symbolOf, .ref h_la_xs, .ref h_la_ys, .ref h_la_differs, .ref h_la_sequence, .int la_count])), (h_wr, .inr (3, [.ref h_tb, .int wr_keeping_23, .int wr_count_24])), (h_tb, .inr (4, [.ref h_tb_bytes, .int tb_count_25])), (h_tb_bytes, .inl (c_tb_bytes, 2000, .inl tb_bytes_26)), (h_la_ways, .inl (c_la_ways, 4, .inl la_ways)), (h_na, .inr (7, [.ref h_di, .ref h_na_row])), (h_na_row, .inl (c_na_row, 16, .inl na_row_27)), (h_la_sequence, .inl (c_la_sequence, 40, .inl la_sequence_2)), (h_la_symbolOf, .inl (c_la_symbolOf, 40, .inl la_symbolOf_21)), (h_la_xs, .inl (c_la_xs, 40, .inl la_xs_22)), (h_di, .inr (6, [.ref h_di_widths, .ref h_di_heights, u_di_samples, .int di_count])), (h_di_widths, .inl (c_di_widths, 16, .inl di_widths)), (h_la_ys, .inl (c_la_ys, 40, .inl la_ys_20)), (h_di_heights, .inl (c_di_heights, 16, .inl di_heights)), (h_la_differs, .inl (c_la_differs, 40, .inr (.inl la_differs_28)))]) hD hS hA [0, 1, 2, 12, 13, 14, 3, 11, 15, 10, 5, 8, 6, 9, 4, 7, 16] rfl
              refine va_calli (va_runV (As := []) (rest := []) ⟨hx, hb, hml, hown, hB⟩ (c_Top_changeNeighbours_F l dC dI h_tr h_te h_la h_wr h_tb h_tb_bytes h_la_ways h_na h_na_row h_la_sequence h_la_symbolOf h_la_xs h_di h_di_widths h_la_ys h_di_heights h_la_differs c_tb_bytes c_la_ways c_na_row c_la_sequence c_la_symbolOf c_la_xs c_di_widths c_la_ys c_di_heights c_la_differs u_tr_kind u_tr_symbols u_tr_page u_tr_toldBytes u_tr_cameBytes u_tr_reader u_tr_spare u_tr_refusedAt u_di_samples la_count wr_keeping_23 wr_count_24 tb_count_25 tb_bytes_26 la_ways na_row_27 la_sequence_2 la_symbolOf_21 la_xs_22 di_count di_widths la_ys_20 di_heights la_differs_28 _ o9 hc9) (cwV 0 hB (goodA (m4 bw_809 bw_811 bs_53 bw_1) (goodB bw_812)) rfl rfl rfl (by decide +kernel) ⟨Nat.le_of_ble_eq_true rfl, Nat.le_of_ble_eq_true rfl⟩) ⟨fb_s, va_recv hK hP (ci := 0) (q0 := 0) rfl rfl, (pre_s hPc hKc hDc hnw hst hS hFc [.ref h_tr])⟩ rfl rfl hl.1 rfl (lv_room (Nat.le_of_ble_eq_true rfl)) d_Top_order_58 ⟨Nat.zero_le _, Nat.zero_le _⟩) hS (fun q _ h => hFc q h) hFc (fun r_29 u9 t H1 locs ht hvm hw hB hz1 hk1 hS => ?_)
              obtain ⟨wr_keeping_30, wr_count_31, tb_count_32, tb_bytes_33, na_row_34, la_symbolOf_35, la_xs_36, la_ys_37, la_differs_38⟩ := u9
              subst hw
              obtain ⟨hP1, hK1, hD1⟩ := hB
              rw [ht] at hP1
              obtain ⟨hP, hD⟩ := va_join (wr := []) (w1 := [(h_tr, .inr (0, [u_tr_kind, u_tr_symbols, u_tr_page, u_tr_toldBytes, u_tr_cameBytes, .ref h_te, u_tr_reader, .ref h_la, u_tr_spare, u_tr_refusedAt])), (h_te, .inr (11, [.ref h_na, .ref h_wr])), (h_la, .inr (8, [.ref h_di, .ref h_la_ways, .ref h_la_symbolOf, .ref h_la_xs, .ref h_la_ys, .ref h_la_differs, .ref h_la_sequence, .int la_count])), (h_wr, .inr (3, [.ref h_tb, .int wr_keeping_30, .int wr_count_31])), (h_tb, .inr (4, [.ref h_tb_bytes, .int tb_count_32])), (h_tb_bytes, .inl (c_tb_bytes, 2000, .inl tb_bytes_33)), (h_la_ways, .inl (c_la_ways, 4, .inl la_ways)), (h_na, .inr (7, [.ref h_di, .ref h_na_row])), (h_na_row, .inl (c_na_row, 16, .inl na_row_34)), (h_la_sequence, .inl (c_la_sequence, 40, .inl la_sequence_2)), (h_la_symbolOf, .inl (c_la_symbolOf, 40, .inl la_symbolOf_35)), (h_la_xs, .inl (c_la_xs, 40, .inl la_xs_36)), (h_di, .inr (6, [.ref h_di_widths, .ref h_di_heights, u_di_samples, .int di_count])), (h_di_widths, .inl (c_di_widths, 16, .inl di_widths)), (h_la_ys, .inl (c_la_ys, 40, .inl la_ys_37)), (h_di_heights, .inl (c_di_heights, 16, .inl di_heights)), (h_la_differs, .inl (c_la_differs, 40, .inr (.inl la_differs_38)))]) hP hD [0, 1, 2, 12, 13, 14, 3, 11, 15, 10, 5, 8, 6, 9, 4, 7, 16] [] rfl rfl (by decide) (by decide) hk1 hFc hP1 hD1
              have hP := hP.sub (ws' := [(h_tr, .inr (0, [u_tr_kind, u_tr_symbols, u_tr_page, u_tr_toldBytes, u_tr_cameBytes, .ref h_te, u_tr_reader, .ref h_la, u_tr_spare, u_tr_refusedAt])), (h_te, .inr (11, [.ref h_na, .ref h_wr])), (h_la, .inr (8, [.ref h_di, .ref h_la_ways, .ref h_la_symbolOf, .ref h_la_xs, .ref h_la_ys, .ref h_la_differs, .ref h_la_sequence, .int la_count])), (h_la_ways, .inl (c_la_ways, 4, .inl la_ways)), (h_la_ys, .inl (c_la_ys, 40, .inl la_ys_37)), (h_la_symbolOf, .inl (c_la_symbolOf, 40, .inl la_symbolOf_35)), (h_di, .inr (6, [.ref h_di_widths, .ref h_di_heights, u_di_samples, .int di_count])), (h_di_heights, .inl (c_di_heights, 16, .inl di_heights)), (h_la_xs, .inl (c_la_xs, 40, .inl la_xs_36)), (h_di_widths, .inl (c_di_widths, 16, .inl di_widths)), (h_la_sequence, .inl (c_la_sequence, 40, .inl la_sequence_2)), (h_na, .inr (7, [.ref h_di, .ref h_na_row])), (h_wr, .inr (3, [.ref h_tb, .int wr_keeping_30, .int wr_count_31])), (h_tb, .inr (4, [.ref h_tb_bytes, .int tb_count_32])), (h_tb_bytes, .inl (c_tb_bytes, 2000, .inl tb_bytes_33)), (h_na_row, .inl (c_na_row, 16, .inl na_row_34)), (h_la_differs, .inl (c_la_differs, 40, .inr (.inl la_differs_38)))]) [0, 1, 2, 6, 14, 10, 12, 15, 11, 13, 9, 7, 3, 4, 5, 8, 16] rfl
              have hD := hD.sub (ws' := [(h_tr, .inr (0, [u_tr_kind, u_tr_symbols, u_tr_page, u_tr_toldBytes, u_tr_cameBytes, .ref h_te, u_tr_reader, .ref h_la, u_tr_spare, u_tr_refusedAt])), (h_te, .inr (11, [.ref h_na, .ref h_wr])), (h_la, .inr (8, [.ref h_di, .ref h_la_ways, .ref h_la_symbolOf, .ref h_la_xs, .ref h_la_ys, .ref h_la_differs, .ref h_la_sequence, .int la_count])), (h_la_ways, .inl (c_la_ways, 4, .inl la_ways)), (h_la_ys, .inl (c_la_ys, 40, .inl la_ys_37)), (h_la_symbolOf, .inl (c_la_symbolOf, 40, .inl la_symbolOf_35)), (h_di, .inr (6, [.ref h_di_widths, .ref h_di_heights, u_di_samples, .int di_count])), (h_di_heights, .inl (c_di_heights, 16, .inl di_heights)), (h_la_xs, .inl (c_la_xs, 40, .inl la_xs_36)), (h_di_widths, .inl (c_di_widths, 16, .inl di_widths)), (h_la_sequence, .inl (c_la_sequence, 40, .inl la_sequence_2)), (h_na, .inr (7, [.ref h_di, .ref h_na_row])), (h_wr, .inr (3, [.ref h_tb, .int wr_keeping_30, .int wr_count_31])), (h_tb, .inr (4, [.ref h_tb_bytes, .int tb_count_32])), (h_tb_bytes, .inl (c_tb_bytes, 2000, .inl tb_bytes_33)), (h_na_row, .inl (c_na_row, 16, .inl na_row_34)), (h_la_differs, .inl (c_la_differs, 40, .inr (.inl la_differs_38)))]) [0, 1, 2, 6, 14, 10, 12, 15, 11, 13, 9, 7, 3, 4, 5, 8, 16] (by decide) rfl
              clear hPc hKc hDc hFc hc9 hP1 hK1 hD1 hk1 hz1 hvm ht
              generalize H1 = H at hP hS ⊢
              try dsimp only at h
              refine lv_istore_n (lv' := [(2, .int r_29), (3, .int v3_18), (0, .ref h_tr), (1, .int p0)]) hx hb d_Top_order_61 rfl hl (by decide) rfl (fun ls hl => ?_)
              obtain ⟨v3_39, e_v3_39⟩ : ∃ y9 : Int32, y9 = (v3_18 + (1 : Int32)) := ⟨_, rfl⟩
              have h := nl_u e_v3_39 h
              refine lv_iinc (v := v3_39) (lv' := [(3, .int v3_39), (2, .int r_29), (0, .ref h_tr), (1, .int p0)]) hx hb d_Top_order_62 hl (k := 1) rfl (by rw [e_v3_39]; rfl) (by decide) rfl (fun ls hl => ?_)
              refine lv_goto (tgt := 48) hx hb d_Top_order_65 (by decide) ?_
              exact ih_self48 _ _ _ _ _ _ _ _ _ _ _ _ _ _ h hP hD hS hl
      exact w_self48 FU _ _ _ _ _ _ _ _ _ _ _ _ _ _ h hP hD hS hl
  · have h := if_t h c_1
    subst eQ
    refine th_new (names := ["java/lang/RuntimeException", "java/lang/Exception"]) hx hb hlt hown (by decide +kernel) (by decide +kernel) (hB _ bw_644) (hB _ bw_17) (x_str hxw bx_808) (x_own hB hxw ow_98) (hl.1.trans hml.symm) d_Top_order_10 d_Top_order_13 d_Top_order_14 d_Top_order_16 d_Top_order_19 (fun x hx9 => (hnt x hx9).elim) (Nat.le_of_ble_eq_true rfl) (Nat.le_of_ble_eq_true rfl) (Nat.le_of_ble_eq_true rfl) (Nat.le_of_ble_eq_true rfl) hlocks (fun U hU => x_out (cls := "java/lang/IllegalArgumentException") ?_ hU)
    exact Option.some.inj h
