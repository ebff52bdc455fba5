set_option maxHeartbeats 4000000 in
set_option maxRecDepth 100000 in
theorem c_Page_has (l : Launch) (dC : Nat → ClassId) (dI : Nat → Nat → Nat) (h_pg : Nat) (u_pg_dark : Value) (pg_width : Int32) (pg_height : Int32) (p0 : Int32) (p1 : Int32) (o : Int32) (hf : f_Page_has pg_width pg_height p0 p1 = some o) :
    Met l y_Page_has ws_Page_has { frames := 1, cells := 0, slots := 0, locals := 22 } (va_Pc [.ref h_pg, .int p0, .int p1] (PcP (dC, dI) [(h_pg, .inr (9, [.int pg_width, .int pg_height, u_pg_dark]))] []))
      (vp_Si (fun r => r = o)) 0 0 (fun _ => False) := by
  refine Met.ofW (cc := b_Page_has) (maxL := 3) (ret := (some .boolean)) (by decide) rfl ?_
  intro p e s m args below meth c s₁ B hml hv
  obtain ⟨rfl, hP, hK, hnw⟩ := hv
  have hx := B.exec
  have hb := B.bytes
  have hr := B.returns
  have hts := atoms_spec (ws := ws_Page_has) B.pre
  have hB : ∀ w ∈ BIG, w.before _ s = true := fun w h => hts w (List.mem_cons_of_mem _ h)
  have hown : s.vm.findClass R_Page = some m.cls := findClass_of_methodNamed B.named
  have hlocks := B.notSynchronized
  refine W_Q (fun Q9 eQ => ?_)
  have hl := lv_entry ([.ref h_pg, .int p0, .int p1]) (n := 3) (Nat.le_of_ble_eq_true rfl)
  rw [lg_entry_eq]
  generalize (lg_sl ([.ref h_pg, .int p0, .int p1]) ++ List.replicate (3 - (lg_sl ([.ref h_pg, .int p0, .int p1])).length) Slot.unset).toArray = ls at hl ⊢
  have hl : lv_has ls 3 [(0, .ref h_pg), (1, .int p0), (2, .int p1)] := hl
  have h := hf
  unfold f_Page_has at h
  refine lv_iload_n hx hb d_Page_has_0 rfl (lv_at hl 1 rfl) ?_
  refine lv_iconst (v := 0) hx hb d_Page_has_1 (by decide) ?_
  refine lv_aload_n hx hb d_Page_has_2 rfl (lv_at hl 0 rfl) ?_
  refine va_get (D := (dC, dI)) (ci := 9) (v := .int pg_width) (C := R_Page) (T := T_Page) (N := 3) hx hb hB iw_Page hown hK hP 0 rfl rfl 0 (by decide) (hB _ bw_74) (fun _ h9 => h9) rfl d_Page_has_3 ?_
  refine lv_iconst (v := 1) hx hb d_Page_has_6 (by decide) ?_
  refine lv_isub hx hb d_Page_has_7 ?_
  obtain ⟨o9, hc9, h⟩ := bd_e h
  have hPc := hP.sub (ws' := []) [] rfl
  have hKc := hK.sub (tys' := []) [] rfl
  refine vp_callSi (va_Run.run (va_runSN (As := [.int p0, .int (0 : Int32), .int (pg_width - (1 : Int32))]) (rest := []) ⟨hx, hb, hml, hown, hB⟩ (c_Top_isWithin l dC dI p0 (0 : Int32) (pg_width - (1 : Int32)) o9 hc9) ⟨va_cnB 3 hB (goodB bw_344) rfl rfl rfl (hnw.1 _ bn_342) (hB _ bw_1) (by decide +kernel) ⟨Nat.le_of_ble_eq_true rfl, Nat.le_of_ble_eq_true rfl⟩, hB _ bw_343, trivial⟩ ⟨fb_p, (pre_p hPc hKc hnw [.int p0, .int (0 : Int32), .int (pg_width - (1 : Int32))])⟩ rfl rfl hl.1 rfl (lv_room (Nat.le_of_ble_eq_true rfl)) d_Page_has_8 ⟨Nat.zero_le _, Nat.zero_le _⟩)) (fun r_1 e_r_1 => ?_)
  subst e_r_1
  clear hPc hKc hc9
  refine lv_if_eq (tgt := 32) hx hb d_Page_has_11 (by decide) (fun c_1 => ?_) (fun c_1 => ?_)
  · have h := if_t h c_1
    refine lv_iconst (v := 0) hx hb d_Page_has_32 (by decide) ?_
    subst eQ
    exact W.zret (v := (0 : Int32)) hx hb hr rfl (fun t ht hW => ⟨_, rfl, Option.some.inj h, ht⟩) (fun _ h9 => absurd h9 List.not_mem_nil) d_Page_has_33
  · have h := if_f h c_1
    refine lv_iload_n hx hb d_Page_has_14 rfl (lv_at hl 2 rfl) ?_
    refine lv_iconst (v := 0) hx hb d_Page_has_15 (by decide) ?_
    refine lv_aload_n hx hb d_Page_has_16 rfl (lv_at hl 0 rfl) ?_
    refine va_get (D := (dC, dI)) (ci := 9) (v := .int pg_height) (C := R_Page) (T := T_Page) (N := 3) hx hb hB iw_Page hown hK hP 0 rfl rfl 1 (by decide) (hB _ bw_76) (fun _ h9 => h9) rfl d_Page_has_17 ?_
    refine lv_iconst (v := 1) hx hb d_Page_has_20 (by decide) ?_
    refine lv_isub hx hb d_Page_has_21 ?_
    obtain ⟨o9, hc9, h⟩ := bd_e h
    have hPc := hP.sub (ws' := []) [] rfl
    have hKc := hK.sub (tys' := []) [] rfl
    refine vp_callSi (va_Run.run (va_runSN (As := [.int p1, .int (0 : Int32), .int (pg_height - (1 : Int32))]) (rest := []) ⟨hx, hb, hml, hown, hB⟩ (c_Top_isWithin l dC dI p1 (0 : Int32) (pg_height - (1 : Int32)) o9 hc9) ⟨va_cnB 3 hB (goodB bw_344) rfl rfl rfl (hnw.1 _ bn_342) (hB _ bw_1) (by decide +kernel) ⟨Nat.le_of_ble_eq_true rfl, Nat.le_of_ble_eq_true rfl⟩, hB _ bw_343, trivial⟩ ⟨fb_p, (pre_p hPc hKc hnw [.int p1, .int (0 : Int32), .int (pg_height - (1 : Int32))])⟩ rfl rfl hl.1 rfl (lv_room (Nat.le_of_ble_eq_true rfl)) d_Page_has_22 ⟨Nat.zero_le _, Nat.zero_le _⟩)) (fun r_2 e_r_2 => ?_)
    subst e_r_2
    clear hPc hKc hc9
    refine lv_if_eq (tgt := 32) hx hb d_Page_has_25 (by decide) (fun c_2 => ?_) (fun c_2 => ?_)
    · have h := if_t h c_2
      refine lv_iconst (v := 0) hx hb d_Page_has_32 (by decide) ?_
      subst eQ
      exact W.zret (v := (0 : Int32)) hx hb hr rfl (fun t ht hW => ⟨_, rfl, Option.some.inj h, ht⟩) (fun _ h9 => absurd h9 List.not_mem_nil) d_Page_has_33
    · have h := if_f h c_2
      refine lv_iconst (v := 1) hx hb d_Page_has_28 (by decide) ?_
      refine lv_goto (tgt := 33) hx hb d_Page_has_29 (by decide) ?_
      subst eQ
      exact W.zret (v := (1 : Int32)) hx hb hr rfl (fun t ht hW => ⟨_, rfl, Option.some.inj h, ht⟩) (fun _ h9 => absurd h9 List.not_mem_nil) d_Page_has_33
set_option maxHeartbeats 4000000 in
set_option maxRecDepth 100000 in
theorem c_Page_lighten (l : Launch) (dC : Nat → ClassId) (dI : Nat → Nat → Nat) (h_pg : Nat) (h_pg_dark : Nat) (c_pg_dark : ClassId) (u_pg_width : Value) (u_pg_height : Value) (n_pg_dark : Nat) (pg_dark : (Nat → Int32)) (sz : Nat) (o : (Nat → Int32)) (hf : f_Page_lighten n_pg_dark pg_dark = some o) :
    Met l y_Page_lighten ws_Page_lighten { frames := 0, cells := 0, slots := 0, locals := 0 } (va_Pc [.ref h_pg] (PcM (dC, dI) [(h_pg, .inr (9, [u_pg_width, u_pg_height, .ref h_pg_dark])), (h_pg_dark, .inl (c_pg_dark, n_pg_dark, .inl pg_dark))] [(c_pg_dark, .boolean)] sz))
      (va_Qv (fun u : (Nat → Int32) => u = o) (fun u t => va_P (dC, dI) CL [(h_pg, .inr (9, [u_pg_width, u_pg_height, .ref h_pg_dark])), (h_pg_dark, .inl (c_pg_dark, n_pg_dark, .inl u))] t.heap ∧ va_K (dC, dI) CL [(c_pg_dark, .boolean)] t ∧ va_D (va_A [(h_pg, .inr (9, [u_pg_width, u_pg_height, .ref h_pg_dark])), (h_pg_dark, .inl (c_pg_dark, n_pg_dark, .inl pg_dark))] sz) [(h_pg, .inr (9, [u_pg_width, u_pg_height, .ref h_pg_dark])), (h_pg_dark, .inl (c_pg_dark, n_pg_dark, .inl u))]) (va_A [(h_pg, .inr (9, [u_pg_width, u_pg_height, .ref h_pg_dark])), (h_pg_dark, .inl (c_pg_dark, n_pg_dark, .inl pg_dark))] sz)) 0 0 (va_A [(h_pg, .inr (9, [u_pg_width, u_pg_height, .ref h_pg_dark])), (h_pg_dark, .inl (c_pg_dark, n_pg_dark, .inl pg_dark))] sz) := by
  refine Met.ofW (cc := b_Page_lighten) (maxL := 2) (ret := none) (by decide) rfl ?_
  intro p e s m args below meth c s₁ B hml hv
  obtain ⟨rfl, hsz, hP, hK, hD0, hnw⟩ := hv
  have hx := B.exec
  have hb := B.bytes
  have hr := B.returns
  have hts := atoms_spec (ws := ws_Page_lighten) B.pre
  have hB : ∀ w ∈ BIG, w.before _ s = true := fun w h => hts w (List.mem_cons_of_mem _ h)
  have hown : s.vm.findClass R_Page = some m.cls := findClass_of_methodNamed B.named
  have hlocks := B.notSynchronized
  subst hsz
  have hD := hD0.self (sz := s.heap.size)
  refine W_Q (fun Q9 eQ => ?_)
  generalize hAe : va_A [(h_pg, .inr (9, [u_pg_width, u_pg_height, .ref h_pg_dark])), (h_pg_dark, .inl (c_pg_dark, n_pg_dark, .inl pg_dark))] s.heap.size = A at hD eQ
  have hA : ∀ q : Nat, s.heap.size ≤ q → A q := fun q h => by rw [← hAe]; exact Or.inr h
  have hS : va_S A s.heap s.heap [] := va_S.rf
  have hl := lv_entry ([.ref h_pg]) (n := 2) (Nat.le_of_ble_eq_true rfl)
  rw [lg_entry_eq]
  generalize (lg_sl ([.ref h_pg]) ++ List.replicate (2 - (lg_sl ([.ref h_pg])).length) Slot.unset).toArray = ls at hl ⊢
  have hl : lv_has ls 2 [(0, .ref h_pg)] := hl
  have h := hf
  unfold f_Page_lighten at h
  refine lv_iconst (v := 0) hx hb d_Page_lighten_0 (by decide) ?_
  refine lv_istore_n (lv' := [(1, .int (0 : Int32)), (0, .ref h_pg)]) hx hb d_Page_lighten_1 rfl hl (by decide) rfl (fun ls hl => ?_)
  have w_self2 : ∀ n9 : Nat, ∀ (v1_1 : Int32) (pg_dark_2 : (Nat → Int32)) (H : Heap) (locs : List Loc) (ls : Array Slot), lp (f_Page_lighten_L2 n_pg_dark) n9 (v1_1, pg_dark_2) = some o → va_P (dC, dI) CL [(h_pg, .inr (9, [u_pg_width, u_pg_height, .ref h_pg_dark])), (h_pg_dark, .inl (c_pg_dark, n_pg_dark, .inl pg_dark_2))] H → va_D A [(h_pg, .inr (9, [u_pg_width, u_pg_height, .ref h_pg_dark])), (h_pg_dark, .inl (c_pg_dark, n_pg_dark, .inl pg_dark_2))] → va_S A s.heap H locs → lv_has ls 2 [(1, .int v1_1), (0, .ref h_pg)] → W p l e ({ frames := 0, cells := 0, slots := 0, locals := 0 } : Room) s m ([.ref h_pg] : List Value).toArray below meth c H locs 0 0 Q9 (F0 m 2 ls []) := by
    intro n9
    induction n9 with
    | zero =>
      intro v1_1 pg_dark_2 H locs ls h hP hD hS hl
      exact absurd h (by simp [lp])
    | succ n9 ih_self2 =>
      intro v1_1 pg_dark_2 H locs ls h hP hD hS hl
      obtain ⟨self2, e_self2, h⟩ := abs_k (P := fun z9 => f_Page_lighten_L2 n_pg_dark z9 (v1_1, pg_dark_2) = some o) (lp_e h)
      rw [← e_self2] at ih_self2
      unfold f_Page_lighten_L2 at h
      try dsimp only at h
      refine lv_iload_n hx hb d_Page_lighten_2 rfl (lv_at hl 0 rfl) ?_
      refine lv_aload_n hx hb d_Page_lighten_3 rfl (lv_at hl 1 rfl) ?_
      refine va_get (D := (dC, dI)) (ci := 9) (v := .ref h_pg_dark) (C := R_Page) (T := T_Page) (N := 3) hx hb hB iw_Page hown hK hP 0 rfl rfl 2 (by decide) (hB _ bw_78) (fun _ h9 => h9) rfl d_Page_lighten_4 ?_
      refine va_alen hx hb hK hP 1 0 rfl rfl rfl d_Page_lighten_7 ?_
      refine lv_icmp_ge (tgt := 24) hx hb d_Page_lighten_8 (by decide) (fun c_1 => ?_) (fun c_1 => ?_)
      · have h := if_t h c_1
        subst eQ
        exact W.vret hx hb hr (fun t ht hW => ⟨⟨pg_dark_2, rfl, Option.some.inj h, by rw [ht]; exact hP, va_K.moved hW.alike hK, hD⟩, hS.F ht⟩) hS.2.2 d_Page_lighten_24
      · have h := if_f h c_1
        refine lv_aload_n hx hb d_Page_lighten_11 rfl (lv_at hl 1 rfl) ?_
        refine va_get (D := (dC, dI)) (ci := 9) (v := .ref h_pg_dark) (C := R_Page) (T := T_Page) (N := 3) hx hb hB iw_Page hown hK hP 0 rfl rfl 2 (by decide) (hB _ bw_78) (fun _ h9 => h9) rfl d_Page_lighten_12 ?_
        refine lv_iload_n hx hb d_Page_lighten_15 rfl (lv_at hl 0 rfl) ?_
        refine lv_iconst (v := 0) hx hb d_Page_lighten_16 (by decide) ?_
        obtain ⟨hin, h⟩ := gq_e h
        refine va_zast hx hb hK hP hD hS 1 0 rfl rfl hin d_Page_lighten_17 (fun H locs hP hD hS => ?_)
        have hP : va_P (dC, dI) CL [(h_pg, .inr (9, [u_pg_width, u_pg_height, .ref h_pg_dark])), (h_pg_dark, .inl (c_pg_dark, n_pg_dark, .inl (upd pg_dark_2 (v1_1).toNatClampNeg (vp_nar .boolean (0 : Int32)))))] H := hP
        have hD : va_D A [(h_pg, .inr (9, [u_pg_width, u_pg_height, .ref h_pg_dark])), (h_pg_dark, .inl (c_pg_dark, n_pg_dark, .inl (upd pg_dark_2 (v1_1).toNatClampNeg (vp_nar .boolean (0 : Int32)))))] := hD
        obtain ⟨v1_3, e_v1_3⟩ : ∃ y9 : Int32, y9 = (v1_1 + (1 : Int32)) := ⟨_, rfl⟩
        have h := nl_u e_v1_3 h
        refine lv_iinc (v := v1_3) (lv' := [(1, .int v1_3), (0, .ref h_pg)]) hx hb d_Page_lighten_18 hl (k := 0) rfl (by rw [e_v1_3]; rfl) (by decide) rfl (fun ls hl => ?_)
        refine lv_goto (tgt := 2) hx hb d_Page_lighten_21 (by decide) ?_
        exact ih_self2 _ _ _ _ _ h hP hD hS hl
  exact w_self2 FU _ _ _ _ _ h hP hD hS hl
set_option maxHeartbeats 4000000 in
set_option maxRecDepth 100000 in
theorem c_Page_countDark (l : Launch) (dC : Nat → ClassId) (dI : Nat → Nat → Nat) (h_pg : Nat) (h_pg_dark : Nat) (c_pg_dark : ClassId) (u_pg_width : Value) (u_pg_height : Value) (n_pg_dark : Nat) (pg_dark : (Nat → Int32)) (o : Int32) (hf : f_Page_countDark n_pg_dark pg_dark = some o) :
    Met l y_Page_countDark ws_Page_countDark { frames := 0, cells := 0, slots := 0, locals := 0 } (va_Pc [.ref h_pg] (PcP (dC, dI) [(h_pg, .inr (9, [u_pg_width, u_pg_height, .ref h_pg_dark])), (h_pg_dark, .inl (c_pg_dark, n_pg_dark, .inl pg_dark))] [(c_pg_dark, .boolean)]))
      (vp_Si (fun r => r = o)) 0 0 (fun _ => False) := by
  refine Met.ofW (cc := b_Page_countDark) (maxL := 3) (ret := (some .int)) (by decide) rfl ?_
  intro p e s m args below meth c s₁ B hml hv
  obtain ⟨rfl, hP, hK, hnw⟩ := hv
  have hx := B.exec
  have hb := B.bytes
  have hr := B.returns
  have hts := atoms_spec (ws := ws_Page_countDark) B.pre
  have hB : ∀ w ∈ BIG, w.before _ s = true := fun w h => hts w (List.mem_cons_of_mem _ h)
  have hown : s.vm.findClass R_Page = some m.cls := findClass_of_methodNamed B.named
  have hlocks := B.notSynchronized
  refine W_Q (fun Q9 eQ => ?_)
  have hl := lv_entry ([.ref h_pg]) (n := 3) (Nat.le_of_ble_eq_true rfl)
  rw [lg_entry_eq]
  generalize (lg_sl ([.ref h_pg]) ++ List.replicate (3 - (lg_sl ([.ref h_pg])).length) Slot.unset).toArray = ls at hl ⊢
  have hl : lv_has ls 3 [(0, .ref h_pg)] := hl
  have h := hf
  unfold f_Page_countDark at h
  refine lv_iconst (v := 0) hx hb d_Page_countDark_0 (by decide) ?_
  refine lv_istore_n (lv' := [(1, .int (0 : Int32)), (0, .ref h_pg)]) hx hb d_Page_countDark_1 rfl hl (by decide) rfl (fun ls hl => ?_)
  refine lv_iconst (v := 0) hx hb d_Page_countDark_2 (by decide) ?_
  refine lv_istore_n (lv' := [(2, .int (0 : Int32)), (1, .int (0 : Int32)), (0, .ref h_pg)]) hx hb d_Page_countDark_3 rfl hl (by decide) rfl (fun ls hl => ?_)
  have w_self4 : ∀ n9 : Nat, ∀ (v2_1 : Int32) (v1_2 : Int32) (ls : Array Slot), lp (f_Page_countDark_L4 n_pg_dark pg_dark) n9 (v2_1, v1_2) = some o → lv_has ls 3 [(2, .int v2_1), (1, .int v1_2), (0, .ref h_pg)] → W p l e ({ frames := 0, cells := 0, slots := 0, locals := 0 } : Room) s m ([.ref h_pg] : List Value).toArray below meth c s.heap [] 0 0 Q9 (F0 m 4 ls []) := by
    intro n9
    induction n9 with
    | zero =>
      intro v2_1 v1_2 ls h hl
      exact absurd h (by simp [lp])
    | succ n9 ih_self4 =>
      intro v2_1 v1_2 ls h hl
      obtain ⟨self4, e_self4, h⟩ := abs_k (P := fun z9 => f_Page_countDark_L4 n_pg_dark pg_dark z9 (v2_1, v1_2) = some o) (lp_e h)
      rw [← e_self4] at ih_self4
      unfold f_Page_countDark_L4 at h
      try dsimp only at h
      refine lv_iload_n hx hb d_Page_countDark_4 rfl (lv_at hl 0 rfl) ?_
      refine lv_aload_n hx hb d_Page_countDark_5 rfl (lv_at hl 2 rfl) ?_
      refine va_get (D := (dC, dI)) (ci := 9) (v := .ref h_pg_dark) (C := R_Page) (T := T_Page) (N := 3) hx hb hB iw_Page hown hK hP 0 rfl rfl 2 (by decide) (hB _ bw_78) (fun _ h9 => h9) rfl d_Page_countDark_6 ?_
      refine va_alen hx hb hK hP 1 0 rfl rfl rfl d_Page_countDark_9 ?_
      refine lv_icmp_ge (tgt := 36) hx hb d_Page_countDark_10 (by decide) (fun c_1 => ?_) (fun c_1 => ?_)
      · have h := if_t h c_1
        refine lv_iload_n hx hb d_Page_countDark_36 rfl (lv_at hl 1 rfl) ?_
        subst eQ
        exact W.iret (v := v1_2) hx hb hr (fun t ht hW => ⟨_, rfl, Option.some.inj h, ht⟩) (fun _ h9 => absurd h9 List.not_mem_nil) d_Page_countDark_37
      · have h := if_f h c_1
        refine lv_iload_n hx hb d_Page_countDark_13 rfl (lv_at hl 1 rfl) ?_
        refine lv_aload_n hx hb d_Page_countDark_14 rfl (lv_at hl 2 rfl) ?_
        refine va_get (D := (dC, dI)) (ci := 9) (v := .ref h_pg_dark) (C := R_Page) (T := T_Page) (N := 3) hx hb hB iw_Page hown hK hP 0 rfl rfl 2 (by decide) (hB _ bw_78) (fun _ h9 => h9) rfl d_Page_countDark_15 ?_
        refine lv_iload_n hx hb d_Page_countDark_18 rfl (lv_at hl 0 rfl) ?_
        obtain ⟨hin, h⟩ := gq_e h
        refine va_zald hx hb hK hP 1 0 rfl rfl hin d_Page_countDark_19 ?_
        obtain ⟨j28, e_j28, h⟩ := jn_e h
        have w_j28 : ∀ (s_3 : Int32) (s_4 : Int32) (ls : Array Slot), j28 s_3 s_4 = some o → lv_has ls 3 [(2, .int v2_1), (0, .ref h_pg)] → W p l e ({ frames := 0, cells := 0, slots := 0, locals := 0 } : Room) s m ([.ref h_pg] : List Value).toArray below meth c s.heap [] 0 0 Q9 (F0 m 28 ls [.int s_4, .int s_3]) := by
          intro s_3 s_4 ls h hl
          rw [e_j28] at h
          refine lv_iadd hx hb d_Page_countDark_28 ?_
          refine lv_topi (fun v1_5 e_v1_5 => ?_)
          have h := nl_u e_v1_5 h
          refine lv_istore_n (lv' := [(1, .int v1_5), (2, .int v2_1), (0, .ref h_pg)]) hx hb d_Page_countDark_29 rfl hl (by decide) rfl (fun ls hl => ?_)
          obtain ⟨v2_6, e_v2_6⟩ : ∃ y9 : Int32, y9 = (v2_1 + (1 : Int32)) := ⟨_, rfl⟩
          have h := nl_u e_v2_6 h
          refine lv_iinc (v := v2_6) (lv' := [(2, .int v2_6), (1, .int v1_5), (0, .ref h_pg)]) hx hb d_Page_countDark_30 hl (k := 1) rfl (by rw [e_v2_6]; rfl) (by decide) rfl (fun ls hl => ?_)
          refine lv_goto (tgt := 4) hx hb d_Page_countDark_33 (by decide) ?_
          exact ih_self4 _ _ _ h hl
        refine lv_if_eq (tgt := 27) hx hb d_Page_countDark_20 (by decide) (fun c_2 => ?_) (fun c_2 => ?_)
        · have h := if_t h c_2
          refine lv_iconst (v := 0) hx hb d_Page_countDark_27 (by decide) ?_
          exact w_j28 _ _ _ h (lv_sub hl [0, 2] rfl)
        · have h := if_f h c_2
          refine lv_iconst (v := 1) hx hb d_Page_countDark_23 (by decide) ?_
          refine lv_goto (tgt := 28) hx hb d_Page_countDark_24 (by decide) ?_
          exact w_j28 _ _ _ h (lv_sub hl [0, 2] rfl)
  exact w_self4 FU _ _ _ h hl
set_option maxHeartbeats 4000000 in
set_option maxRecDepth 100000 in
theorem c_Page_composed (l : Launch) (dC : Nat → ClassId) (dI : Nat → Nat → Nat) (p0 : Int32) (p1 : Int32) (p2 : Int32) (o : Int32) (hf : f_Page_composed p0 p1 p2 = some o) :
    Met l y_Page_composed ws_Page_composed { frames := 0, cells := 0, slots := 0, locals := 0 } (va_Pc [.int p0, .int p1, .int p2] (PcP (dC, dI) [] []))
      (vp_Si (fun r => r = o)) 0 0 (fun _ => False) := by
  refine Met.ofW (cc := b_Page_composed) (maxL := 3) (ret := (some .boolean)) (by decide) rfl ?_
  intro p e s m args below meth c s₁ B hml hv
  obtain ⟨rfl, hP, hK, hnw⟩ := hv
  have hx := B.exec
  have hb := B.bytes
  have hr := B.returns
  have hts := atoms_spec (ws := ws_Page_composed) B.pre
  have hB : ∀ w ∈ BIG, w.before _ s = true := fun w h => hts w (List.mem_cons_of_mem _ h)
  have hown : s.vm.findClass R_Page = some m.cls := findClass_of_methodNamed B.named
  have hlocks := B.notSynchronized
  refine W_Q (fun Q9 eQ => ?_)
  have hl := lv_entry ([.int p0, .int p1, .int p2]) (n := 3) (Nat.le_of_ble_eq_true rfl)
  rw [lg_entry_eq]
  generalize (lg_sl ([.int p0, .int p1, .int p2]) ++ List.replicate (3 - (lg_sl ([.int p0, .int p1, .int p2])).length) Slot.unset).toArray = ls at hl ⊢
  have hl : lv_has ls 3 [(0, .int p0), (1, .int p1), (2, .int p2)] := hl
  have h := hf
  unfold f_Page_composed at h
  refine lv_iload_n hx hb d_Page_composed_0 rfl (lv_at hl 2 rfl) ?_
  by_cases c_1 : p2 = (0 : Int32)
  · have h := if_t h c_1
    refine lv_tableIn (tgt := 32) (off := 31) hx hb d_Page_composed_1 (by rw [c_1]; decide) (by rw [c_1]; decide) (by rw [c_1]; rfl) (by decide) ?_
    refine lv_iload_n hx hb d_Page_composed_32 rfl (lv_at hl 0 rfl) ?_
    obtain ⟨j40, e_j40, h⟩ := jn_e h
    have w_j40 : ∀ (ls : Array Slot), j40 () = some o → lv_has ls 3 [] → W p l e ({ frames := 0, cells := 0, slots := 0, locals := 0 } : Room) s m ([.int p0, .int p1, .int p2] : List Value).toArray below meth c s.heap [] 0 0 Q9 (F0 m 40 ls []) := by
      intro ls h hl
      rw [e_j40] at h
      refine lv_iconst (v := 1) hx hb d_Page_composed_40 (by decide) ?_
      refine lv_goto (tgt := 45) hx hb d_Page_composed_41 (by decide) ?_
      subst eQ
      exact W.zret (v := (1 : Int32)) hx hb hr rfl (fun t ht hW => ⟨_, rfl, Option.some.inj h, ht⟩) (fun _ h9 => absurd h9 List.not_mem_nil) d_Page_composed_45
    refine lv_if_ne (tgt := 40) hx hb d_Page_composed_33 (by decide) (fun c_2 => ?_) (fun c_2 => ?_)
    · have h := if_f h c_2
      exact w_j40 _ h (lv_sub hl [] rfl)
    · have h := if_t h c_2
      refine lv_iload_n hx hb d_Page_composed_36 rfl (lv_at hl 1 rfl) ?_
      refine lv_if_eq (tgt := 44) hx hb d_Page_composed_37 (by decide) (fun c_3 => ?_) (fun c_3 => ?_)
      · have h := if_t h c_3
        refine lv_iconst (v := 0) hx hb d_Page_composed_44 (by decide) ?_
        subst eQ
        exact W.zret (v := (0 : Int32)) hx hb hr rfl (fun t ht hW => ⟨_, rfl, Option.some.inj h, ht⟩) (fun _ h9 => absurd h9 List.not_mem_nil) d_Page_composed_45
      · have h := if_f h c_3
        exact w_j40 _ h (lv_sub hl [] rfl)
  have h := if_f h c_1
  by_cases c_4 : p2 = (1 : Int32)
  · have h := if_t h c_4
    refine lv_tableIn (tgt := 46) (off := 45) hx hb d_Page_composed_1 (by rw [c_4]; decide) (by rw [c_4]; decide) (by rw [c_4]; rfl) (by decide) ?_
    refine lv_iload_n hx hb d_Page_composed_46 rfl (lv_at hl 0 rfl) ?_
    refine lv_if_eq (tgt := 58) hx hb d_Page_composed_47 (by decide) (fun c_5 => ?_) (fun c_5 => ?_)
    · have h := if_t h c_5
      refine lv_iconst (v := 0) hx hb d_Page_composed_58 (by decide) ?_
      subst eQ
      exact W.zret (v := (0 : Int32)) hx hb hr rfl (fun t ht hW => ⟨_, rfl, Option.some.inj h, ht⟩) (fun _ h9 => absurd h9 List.not_mem_nil) d_Page_composed_59
    · have h := if_f h c_5
      refine lv_iload_n hx hb d_Page_composed_50 rfl (lv_at hl 1 rfl) ?_
      refine lv_if_eq (tgt := 58) hx hb d_Page_composed_51 (by decide) (fun c_6 => ?_) (fun c_6 => ?_)
      · have h := if_t h c_6
        refine lv_iconst (v := 0) hx hb d_Page_composed_58 (by decide) ?_
        subst eQ
        exact W.zret (v := (0 : Int32)) hx hb hr rfl (fun t ht hW => ⟨_, rfl, Option.some.inj h, ht⟩) (fun _ h9 => absurd h9 List.not_mem_nil) d_Page_composed_59
      · have h := if_f h c_6
        refine lv_iconst (v := 1) hx hb d_Page_composed_54 (by decide) ?_
        refine lv_goto (tgt := 59) hx hb d_Page_composed_55 (by decide) ?_
        subst eQ
        exact W.zret (v := (1 : Int32)) hx hb hr rfl (fun t ht hW => ⟨_, rfl, Option.some.inj h, ht⟩) (fun _ h9 => absurd h9 List.not_mem_nil) d_Page_composed_59
  have h := if_f h c_4
  by_cases c_7 : p2 = (2 : Int32)
  · have h := if_t h c_7
    refine lv_tableIn (tgt := 60) (off := 59) hx hb d_Page_composed_1 (by rw [c_7]; decide) (by rw [c_7]; decide) (by rw [c_7]; rfl) (by decide) ?_
    refine lv_iload_n hx hb d_Page_composed_60 rfl (lv_at hl 0 rfl) ?_
    refine lv_iload_n hx hb d_Page_composed_61 rfl (lv_at hl 1 rfl) ?_
    refine lv_icmp_eq (tgt := 69) hx hb d_Page_composed_62 (by decide) (fun c_8 => ?_) (fun c_8 => ?_)
    · have h := if_t h c_8
      refine lv_iconst (v := 0) hx hb d_Page_composed_69 (by decide) ?_
      subst eQ
      exact W.zret (v := (0 : Int32)) hx hb hr rfl (fun t ht hW => ⟨_, rfl, Option.some.inj h, ht⟩) (fun _ h9 => absurd h9 List.not_mem_nil) d_Page_composed_70
    · have h := if_f h c_8
      refine lv_iconst (v := 1) hx hb d_Page_composed_65 (by decide) ?_
      refine lv_goto (tgt := 70) hx hb d_Page_composed_66 (by decide) ?_
      subst eQ
      exact W.zret (v := (1 : Int32)) hx hb hr rfl (fun t ht hW => ⟨_, rfl, Option.some.inj h, ht⟩) (fun _ h9 => absurd h9 List.not_mem_nil) d_Page_composed_70
  have h := if_f h c_7
  by_cases c_9 : p2 = (3 : Int32)
  · have h := if_t h c_9
    refine lv_tableIn (tgt := 71) (off := 70) hx hb d_Page_composed_1 (by rw [c_9]; decide) (by rw [c_9]; decide) (by rw [c_9]; rfl) (by decide) ?_
    refine lv_iload_n hx hb d_Page_composed_71 rfl (lv_at hl 0 rfl) ?_
    refine lv_iload_n hx hb d_Page_composed_72 rfl (lv_at hl 1 rfl) ?_
    refine lv_icmp_ne (tgt := 80) hx hb d_Page_composed_73 (by decide) (fun c_10 => ?_) (fun c_10 => ?_)
    · have h := if_f h c_10
      refine lv_iconst (v := 0) hx hb d_Page_composed_80 (by decide) ?_
      subst eQ
      exact W.zret (v := (0 : Int32)) hx hb hr rfl (fun t ht hW => ⟨_, rfl, Option.some.inj h, ht⟩) (fun _ h9 => absurd h9 List.not_mem_nil) d_Page_composed_81
    · have h := if_t h c_10
      refine lv_iconst (v := 1) hx hb d_Page_composed_76 (by decide) ?_
      refine lv_goto (tgt := 81) hx hb d_Page_composed_77 (by decide) ?_
      subst eQ
      exact W.zret (v := (1 : Int32)) hx hb hr rfl (fun t ht hW => ⟨_, rfl, Option.some.inj h, ht⟩) (fun _ h9 => absurd h9 List.not_mem_nil) d_Page_composed_81
  have h := if_f h c_9
  refine lv_tableOut (tgt := 82) hx hb d_Page_composed_1 (by have := nt c_1 (z := 0) rfl; have := nt c_4 (z := 1) rfl; have := nt c_7 (z := 2) rfl; have := nt c_9 (z := 3) rfl; omega) (by decide) ?_
  refine lv_iload_n hx hb d_Page_composed_82 rfl (lv_at hl 1 rfl) ?_
  subst eQ
  obtain ⟨hz, h⟩ := bz_e h
  exact W.zret (v := p1) hx hb hr (bz_n hz) (fun t ht hW => ⟨_, rfl, Option.some.inj h, ht⟩) (fun _ h9 => absurd h9 List.not_mem_nil) d_Page_composed_83
set_option maxHeartbeats 4000000 in
set_option maxRecDepth 100000 in
theorem c_Page_laySample (l : Launch) (dC : Nat → ClassId) (dI : Nat → Nat → Nat) (h_pg : Nat) (h_pg_dark : Nat) (c_pg_dark : ClassId) (pg_width : Int32) (pg_height : Int32) (n_pg_dark : Nat) (pg_dark : (Nat → Int32)) (p0 : Int32) (p1 : Int32) (p2 : Int32) (p3 : Int32) (sz : Nat) (o : (Nat → Int32)) (hf : f_Page_laySample pg_width pg_height n_pg_dark pg_dark p0 p1 p2 p3 = some o) :
    Met l y_Page_laySample ws_Page_laySample { frames := 2, cells := 0, slots := 0, locals := 44 } (va_Pc [.ref h_pg, .int p0, .int p1, .int p2, .int p3] (PcM (dC, dI) [(h_pg, .inr (9, [.int pg_width, .int pg_height, .ref h_pg_dark])), (h_pg_dark, .inl (c_pg_dark, n_pg_dark, .inl pg_dark))] [(c_pg_dark, .boolean)] sz))
      (va_Qv (fun u : (Nat → Int32) => u = o) (fun u t => va_P (dC, dI) CL [(h_pg, .inr (9, [.int pg_width, .int pg_height, .ref h_pg_dark])), (h_pg_dark, .inl (c_pg_dark, n_pg_dark, .inl u))] t.heap ∧ va_K (dC, dI) CL [(c_pg_dark, .boolean)] t ∧ va_D (va_A [(h_pg, .inr (9, [.int pg_width, .int pg_height, .ref h_pg_dark])), (h_pg_dark, .inl (c_pg_dark, n_pg_dark, .inl pg_dark))] sz) [(h_pg, .inr (9, [.int pg_width, .int pg_height, .ref h_pg_dark])), (h_pg_dark, .inl (c_pg_dark, n_pg_dark, .inl u))]) (va_A [(h_pg, .inr (9, [.int pg_width, .int pg_height, .ref h_pg_dark])), (h_pg_dark, .inl (c_pg_dark, n_pg_dark, .inl pg_dark))] sz)) 0 0 (va_A [(h_pg, .inr (9, [.int pg_width, .int pg_height, .ref h_pg_dark])), (h_pg_dark, .inl (c_pg_dark, n_pg_dark, .inl pg_dark))] sz) := by
  refine Met.ofW (cc := b_Page_laySample) (maxL := 5) (ret := none) (by decide) rfl ?_
  intro p e s m args below meth c s₁ B hml hv
  obtain ⟨rfl, hsz, hP, hK, hD0, hnw⟩ := hv
  have hx := B.exec
  have hb := B.bytes
  have hr := B.returns
  have hts := atoms_spec (ws := ws_Page_laySample) B.pre
  have hB : ∀ w ∈ BIG, w.before _ s = true := fun w h => hts w (List.mem_cons_of_mem _ h)
  have hown : s.vm.findClass R_Page = some m.cls := findClass_of_methodNamed B.named
  have hlocks := B.notSynchronized
  subst hsz
  have hD := hD0.self (sz := s.heap.size)
  refine W_Q (fun Q9 eQ => ?_)
  generalize hAe : va_A [(h_pg, .inr (9, [.int pg_width, .int pg_height, .ref h_pg_dark])), (h_pg_dark, .inl (c_pg_dark, n_pg_dark, .inl pg_dark))] s.heap.size = A at hD eQ
  have hA : ∀ q : Nat, s.heap.size ≤ q → A q := fun q h => by rw [← hAe]; exact Or.inr h
  have hS : va_S A s.heap s.heap [] := va_S.rf
  have hl := lv_entry ([.ref h_pg, .int p0, .int p1, .int p2, .int p3]) (n := 5) (Nat.le_of_ble_eq_true rfl)
  rw [lg_entry_eq]
  generalize (lg_sl ([.ref h_pg, .int p0, .int p1, .int p2, .int p3]) ++ List.replicate (5 - (lg_sl ([.ref h_pg, .int p0, .int p1, .int p2, .int p3])).length) Slot.unset).toArray = ls at hl ⊢
  have hl : lv_has ls 5 [(0, .ref h_pg), (1, .int p0), (2, .int p1), (3, .int p2), (4, .int p3)] := hl
  have h := hf
  unfold f_Page_laySample at h
  refine lv_aload_n hx hb d_Page_laySample_0 rfl (lv_at hl 0 rfl) ?_
  refine lv_iload_n hx hb d_Page_laySample_1 rfl (lv_at hl 1 rfl) ?_
  refine lv_iload_n hx hb d_Page_laySample_2 rfl (lv_at hl 2 rfl) ?_
  obtain ⟨o9, hc9, h⟩ := bd_e h
  have hPc := hP.sub (ws' := [(h_pg, .inr (9, [.int pg_width, .int pg_height, .ref h_pg_dark]))]) [0] rfl
  have hKc := hK.sub (tys' := []) [] rfl
  refine vp_callSi (va_Run.run (va_runV (As := [.int p0, .int p1]) (rest := []) ⟨hx, hb, hml, hown, hB⟩ (c_Page_has l dC dI h_pg (.ref h_pg_dark) pg_width pg_height p0 p1 o9 hc9) (cwV 2 hB (goodA (m4 bw_338 bw_340 bs_10 bw_4) (goodB bw_341)) rfl rfl rfl (by decide +kernel) ⟨Nat.le_of_ble_eq_true rfl, Nat.le_of_ble_eq_true rfl⟩) ⟨fb_p, va_recv hK hP (ci := 9) (q0 := 0) rfl rfl, (pre_p hPc hKc hnw [.ref h_pg, .int p0, .int p1])⟩ rfl rfl hl.1 rfl (lv_room (Nat.le_of_ble_eq_true rfl)) d_Page_laySample_3 ⟨Nat.zero_le _, Nat.zero_le _⟩)) (fun r_1 e_r_1 => ?_)
  subst e_r_1
  clear hPc hKc hc9
  refine lv_if_eq (tgt := 41) hx hb d_Page_laySample_6 (by decide) (fun c_1 => ?_) (fun c_1 => ?_)
  · have h := if_t h c_1
    subst eQ
    exact W.vret hx hb hr (fun t ht hW => ⟨⟨pg_dark, rfl, Option.some.inj h, by rw [ht]; exact hP, va_K.moved hW.alike hK, hD⟩, hS.F ht⟩) hS.2.2 d_Page_laySample_41
  · have h := if_f h c_1
    refine lv_aload_n hx hb d_Page_laySample_9 rfl (lv_at hl 0 rfl) ?_
    refine va_get (D := (dC, dI)) (ci := 9) (v := .ref h_pg_dark) (C := R_Page) (T := T_Page) (N := 3) hx hb hB iw_Page hown hK hP 0 rfl rfl 2 (by decide) (hB _ bw_78) (fun _ h9 => h9) rfl d_Page_laySample_10 ?_
    refine lv_iload_n hx hb d_Page_laySample_13 rfl (lv_at hl 2 rfl) ?_
    refine lv_aload_n hx hb d_Page_laySample_14 rfl (lv_at hl 0 rfl) ?_
    refine va_get (D := (dC, dI)) (ci := 9) (v := .int pg_width) (C := R_Page) (T := T_Page) (N := 3) hx hb hB iw_Page hown hK hP 0 rfl rfl 0 (by decide) (hB _ bw_74) (fun _ h9 => h9) rfl d_Page_laySample_15 ?_
    refine lv_imul hx hb d_Page_laySample_18 ?_
    refine lv_iload_n hx hb d_Page_laySample_19 rfl (lv_at hl 1 rfl) ?_
    refine lv_iadd hx hb d_Page_laySample_20 ?_
    refine lv_aload_n hx hb d_Page_laySample_21 rfl (lv_at hl 0 rfl) ?_
    refine va_get (D := (dC, dI)) (ci := 9) (v := .ref h_pg_dark) (C := R_Page) (T := T_Page) (N := 3) hx hb hB iw_Page hown hK hP 0 rfl rfl 2 (by decide) (hB _ bw_78) (fun _ h9 => h9) rfl d_Page_laySample_22 ?_
    refine lv_iload_n hx hb d_Page_laySample_25 rfl (lv_at hl 2 rfl) ?_
    refine lv_aload_n hx hb d_Page_laySample_26 rfl (lv_at hl 0 rfl) ?_
    refine va_get (D := (dC, dI)) (ci := 9) (v := .int pg_width) (C := R_Page) (T := T_Page) (N := 3) hx hb hB iw_Page hown hK hP 0 rfl rfl 0 (by decide) (hB _ bw_74) (fun _ h9 => h9) rfl d_Page_laySample_27 ?_
    refine lv_imul hx hb d_Page_laySample_30 ?_
    refine lv_iload_n hx hb d_Page_laySample_31 rfl (lv_at hl 1 rfl) ?_
    refine lv_iadd hx hb d_Page_laySample_32 ?_
    obtain ⟨hin, h⟩ := gq_e h
    refine va_zald hx hb hK hP 1 0 rfl rfl hin d_Page_laySample_33 ?_
    refine lv_iload_n hx hb d_Page_laySample_34 rfl (lv_at hl 3 rfl) ?_
    refine lv_iload hx hb d_Page_laySample_35 (lv_at hl 4 rfl) ?_
    obtain ⟨o9, hc9, h⟩ := bd_e h
    have hPc := hP.sub (ws' := []) [] rfl
    have hKc := hK.sub (tys' := []) [] rfl
    refine vp_callSi (va_Run.run (va_runS (As := [.int (pg_dark (((p1 * pg_width) + p0)).toNatClampNeg), .int p2, .int p3]) (rest := [.int ((p1 * pg_width) + p0), .ref h_pg_dark]) ⟨hx, hb, hml, hown, hB⟩ (c_Page_composed l dC dI (pg_dark (((p1 * pg_width) + p0)).toNatClampNeg) p2 p3 o9 hc9) (va_cwS 3 hB (goodA (m3 bw_345 bw_346 bw_4) (goodB bw_347)) rfl rfl rfl (by decide +kernel) ⟨Nat.le_of_ble_eq_true rfl, Nat.le_of_ble_eq_true rfl⟩) ⟨fb_p, (pre_p hPc hKc hnw [.int (pg_dark (((p1 * pg_width) + p0)).toNatClampNeg), .int p2, .int p3])⟩ rfl rfl hl.1 rfl (lv_room (Nat.le_of_ble_eq_true rfl)) d_Page_laySample_37 ⟨Nat.zero_le _, Nat.zero_le _⟩)) (fun r_2 e_r_2 => ?_)
    subst e_r_2
    clear hPc hKc hc9
    obtain ⟨hin, h⟩ := gq_e h
    refine va_zast hx hb hK hP hD hS 1 0 rfl rfl hin d_Page_laySample_40 (fun H locs hP hD hS => ?_)
    have hP : va_P (dC, dI) CL [(h_pg, .inr (9, [.int pg_width, .int pg_height, .ref h_pg_dark])), (h_pg_dark, .inl (c_pg_dark, n_pg_dark, .inl (upd pg_dark (((p1 * pg_width) + p0)).toNatClampNeg (vp_nar .boolean r_2))))] H := hP
    have hD : va_D A [(h_pg, .inr (9, [.int pg_width, .int pg_height, .ref h_pg_dark])), (h_pg_dark, .inl (c_pg_dark, n_pg_dark, .inl (upd pg_dark (((p1 * pg_width) + p0)).toNatClampNeg (vp_nar .boolean r_2))))] := hD
    subst eQ
    exact W.vret hx hb hr (fun t ht hW => ⟨⟨(upd pg_dark (((p1 * pg_width) + p0)).toNatClampNeg (vp_nar .boolean r_2)), rfl, Option.some.inj h, by rw [ht]; exact hP, va_K.moved hW.alike hK, hD⟩, hS.F ht⟩) hS.2.2 d_Page_laySample_41
set_option maxHeartbeats 4000000 in
set_option maxRecDepth 100000 in
theorem c_Page_lay (l : Launch) (dC : Nat → ClassId) (dI : Nat → Nat → Nat) (h_pg : Nat) (h_la : Nat) (h_di : Nat) (h_la_symbolOf : Nat) (h_di_samples : Nat) (h_la_differs : Nat) (h_di_heights : Nat) (h_di_widths : Nat) (h_la_xs : Nat) (h_la_ys : Nat) (h_la_ways : Nat) (h_pg_dark : Nat) (c_la_symbolOf : ClassId) (c_di_samples : ClassId) (c_la_differs : ClassId) (c_di_heights : ClassId) (c_di_widths : ClassId) (c_la_xs : ClassId) (c_la_ys : ClassId) (c_la_ways : ClassId) (c_pg_dark : ClassId) (u_la_sequence : Value) (u_la_count : Value) (u_di_count : Value) (pg_width : Int32) (pg_height : Int32) (la_symbolOf : (Nat → Int32)) (di_samples : (Nat → Int64)) (la_differs : (Nat → Int64)) (di_heights : (Nat → Int32)) (di_widths : (Nat → Int32)) (la_xs : (Nat → Int32)) (la_ys : (Nat → Int32)) (la_ways : (Nat → Int32)) (n_pg_dark : Nat) (pg_dark : (Nat → Int32)) (p1 : Int32) (sz : Nat) (o : (Nat → Int32)) (hf : f_Page_lay pg_width pg_height la_symbolOf di_samples la_differs di_heights di_widths la_xs la_ys la_ways n_pg_dark pg_dark p1 = some o) :
    Met l y_Page_lay ws_Page_lay { frames := 3, cells := 0, slots := 0, locals := 68 } (va_Pc [.ref h_pg, .ref h_la, .int p1] (PcM (dC, dI) [(h_pg, .inr (9, [.int pg_width, .int pg_height, .ref h_pg_dark])), (h_la, .inr (8, [.ref h_di, .ref h_la_ways, .ref h_la_symbolOf, .ref h_la_xs, .ref h_la_ys, .ref h_la_differs, u_la_sequence, u_la_count])), (h_di, .inr (6, [.ref h_di_widths, .ref h_di_heights, .ref h_di_samples, u_di_count])), (h_la_symbolOf, .inl (c_la_symbolOf, 40, .inl la_symbolOf)), (h_di_samples, .inl (c_di_samples, 16, .inr (.inl di_samples))), (h_la_differs, .inl (c_la_differs, 40, .inr (.inl la_differs))), (h_di_heights, .inl (c_di_heights, 16, .inl di_heights)), (h_di_widths, .inl (c_di_widths, 16, .inl di_widths)), (h_la_xs, .inl (c_la_xs, 40, .inl la_xs)), (h_la_ys, .inl (c_la_ys, 40, .inl la_ys)), (h_la_ways, .inl (c_la_ways, 4, .inl la_ways)), (h_pg_dark, .inl (c_pg_dark, n_pg_dark, .inl pg_dark))] [(c_la_symbolOf, .int), (c_di_samples, .long), (c_la_differs, .long), (c_di_heights, .int), (c_di_widths, .int), (c_la_xs, .int), (c_la_ys, .int), (c_la_ways, .int), (c_pg_dark, .boolean)] sz))
      (va_Qv (fun u : (Nat → Int32) => u = o) (fun u t => va_P (dC, dI) CL [(h_pg, .inr (9, [.int pg_width, .int pg_height, .ref h_pg_dark])), (h_la, .inr (8, [.ref h_di, .ref h_la_ways, .ref h_la_symbolOf, .ref h_la_xs, .ref h_la_ys, .ref h_la_differs, u_la_sequence, u_la_count])), (h_di, .inr (6, [.ref h_di_widths, .ref h_di_heights, .ref h_di_samples, u_di_count])), (h_la_symbolOf, .inl (c_la_symbolOf, 40, .inl la_symbolOf)), (h_di_samples, .inl (c_di_samples, 16, .inr (.inl di_samples))), (h_la_differs, .inl (c_la_differs, 40, .inr (.inl la_differs))), (h_di_heights, .inl (c_di_heights, 16, .inl di_heights)), (h_di_widths, .inl (c_di_widths, 16, .inl di_widths)), (h_la_xs, .inl (c_la_xs, 40, .inl la_xs)), (h_la_ys, .inl (c_la_ys, 40, .inl la_ys)), (h_la_ways, .inl (c_la_ways, 4, .inl la_ways)), (h_pg_dark, .inl (c_pg_dark, n_pg_dark, .inl u))] t.heap ∧ va_K (dC, dI) CL [(c_la_symbolOf, .int), (c_di_samples, .long), (c_la_differs, .long), (c_di_heights, .int), (c_di_widths, .int), (c_la_xs, .int), (c_la_ys, .int), (c_la_ways, .int), (c_pg_dark, .boolean)] t ∧ va_D (va_A [(h_pg, .inr (9, [.int pg_width, .int pg_height, .ref h_pg_dark])), (h_la, .inr (8, [.ref h_di, .ref h_la_ways, .ref h_la_symbolOf, .ref h_la_xs, .ref h_la_ys, .ref h_la_differs, u_la_sequence, u_la_count])), (h_di, .inr (6, [.ref h_di_widths, .ref h_di_heights, .ref h_di_samples, u_di_count])), (h_la_symbolOf, .inl (c_la_symbolOf, 40, .inl la_symbolOf)), (h_di_samples, .inl (c_di_samples, 16, .inr (.inl di_samples))), (h_la_differs, .inl (c_la_differs, 40, .inr (.inl la_differs))), (h_di_heights, .inl (c_di_heights, 16, .inl di_heights)), (h_di_widths, .inl (c_di_widths, 16, .inl di_widths)), (h_la_xs, .inl (c_la_xs, 40, .inl la_xs)), (h_la_ys, .inl (c_la_ys, 40, .inl la_ys)), (h_la_ways, .inl (c_la_ways, 4, .inl la_ways)), (h_pg_dark, .inl (c_pg_dark, n_pg_dark, .inl pg_dark))] sz) [(h_pg, .inr (9, [.int pg_width, .int pg_height, .ref h_pg_dark])), (h_la, .inr (8, [.ref h_di, .ref h_la_ways, .ref h_la_symbolOf, .ref h_la_xs, .ref h_la_ys, .ref h_la_differs, u_la_sequence, u_la_count])), (h_di, .inr (6, [.ref h_di_widths, .ref h_di_heights, .ref h_di_samples, u_di_count])), (h_la_symbolOf, .inl (c_la_symbolOf, 40, .inl la_symbolOf)), (h_di_samples, .inl (c_di_samples, 16, .inr (.inl di_samples))), (h_la_differs, .inl (c_la_differs, 40, .inr (.inl la_differs))), (h_di_heights, .inl (c_di_heights, 16, .inl di_heights)), (h_di_widths, .inl (c_di_widths, 16, .inl di_widths)), (h_la_xs, .inl (c_la_xs, 40, .inl la_xs)), (h_la_ys, .inl (c_la_ys, 40, .inl la_ys)), (h_la_ways, .inl (c_la_ways, 4, .inl la_ways)), (h_pg_dark, .inl (c_pg_dark, n_pg_dark, .inl u))]) (va_A [(h_pg, .inr (9, [.int pg_width, .int pg_height, .ref h_pg_dark])), (h_la, .inr (8, [.ref h_di, .ref h_la_ways, .ref h_la_symbolOf, .ref h_la_xs, .ref h_la_ys, .ref h_la_differs, u_la_sequence, u_la_count])), (h_di, .inr (6, [.ref h_di_widths, .ref h_di_heights, .ref h_di_samples, u_di_count])), (h_la_symbolOf, .inl (c_la_symbolOf, 40, .inl la_symbolOf)), (h_di_samples, .inl (c_di_samples, 16, .inr (.inl di_samples))), (h_la_differs, .inl (c_la_differs, 40, .inr (.inl la_differs))), (h_di_heights, .inl (c_di_heights, 16, .inl di_heights)), (h_di_widths, .inl (c_di_widths, 16, .inl di_widths)), (h_la_xs, .inl (c_la_xs, 40, .inl la_xs)), (h_la_ys, .inl (c_la_ys, 40, .inl la_ys)), (h_la_ways, .inl (c_la_ways, 4, .inl la_ways)), (h_pg_dark, .inl (c_pg_dark, n_pg_dark, .inl pg_dark))] sz)) 0 0 (va_A [(h_pg, .inr (9, [.int pg_width, .int pg_height, .ref h_pg_dark])), (h_la, .inr (8, [.ref h_di, .ref h_la_ways, .ref h_la_symbolOf, .ref h_la_xs, .ref h_la_ys, .ref h_la_differs, u_la_sequence, u_la_count])), (h_di, .inr (6, [.ref h_di_widths, .ref h_di_heights, .ref h_di_samples, u_di_count])), (h_la_symbolOf, .inl (c_la_symbolOf, 40, .inl la_symbolOf)), (h_di_samples, .inl (c_di_samples, 16, .inr (.inl di_samples))), (h_la_differs, .inl (c_la_differs, 40, .inr (.inl la_differs))), (h_di_heights, .inl (c_di_heights, 16, .inl di_heights)), (h_di_widths, .inl (c_di_widths, 16, .inl di_widths)), (h_la_xs, .inl (c_la_xs, 40, .inl la_xs)), (h_la_ys, .inl (c_la_ys, 40, .inl la_ys)), (h_la_ways, .inl (c_la_ways, 4, .inl la_ways)), (h_pg_dark, .inl (c_pg_dark, n_pg_dark, .inl pg_dark))] sz) := by
  refine Met.ofW (cc := b_Page_lay) (maxL := 10) (ret := none) (by decide) rfl ?_
  intro p e s m args below meth c s₁ B hml hv
  obtain ⟨rfl, hsz, hP, hK, hD0, hnw⟩ := hv
  have hx := B.exec
  have hb := B.bytes
  have hr := B.returns
  have hts := atoms_spec (ws := ws_Page_lay) B.pre
  have hB : ∀ w ∈ BIG, w.before _ s = true := fun w h => hts w (List.mem_cons_of_mem _ h)
  have hown : s.vm.findClass R_Page = some m.cls := findClass_of_methodNamed B.named
  have hlocks := B.notSynchronized
  subst hsz
  have hD := hD0.self (sz := s.heap.size)
  refine W_Q (fun Q9 eQ => ?_)
  generalize hAe : va_A [(h_pg, .inr (9, [.int pg_width, .int pg_height, .ref h_pg_dark])), (h_la, .inr (8, [.ref h_di, .ref h_la_ways, .ref h_la_symbolOf, .ref h_la_xs, .ref h_la_ys, .ref h_la_differs, u_la_sequence, u_la_count])), (h_di, .inr (6, [.ref h_di_widths, .ref h_di_heights, .ref h_di_samples, u_di_count])), (h_la_symbolOf, .inl (c_la_symbolOf, 40, .inl la_symbolOf)), (h_di_samples, .inl (c_di_samples, 16, .inr (.inl di_samples))), (h_la_differs, .inl (c_la_differs, 40, .inr (.inl la_differs))), (h_di_heights, .inl (c_di_heights, 16, .inl di_heights)), (h_di_widths, .inl (c_di_widths, 16, .inl di_widths)), (h_la_xs, .inl (c_la_xs, 40, .inl la_xs)), (h_la_ys, .inl (c_la_ys, 40, .inl la_ys)), (h_la_ways, .inl (c_la_ways, 4, .inl la_ways)), (h_pg_dark, .inl (c_pg_dark, n_pg_dark, .inl pg_dark))] s.heap.size = A at hD eQ
  have hA : ∀ q : Nat, s.heap.size ≤ q → A q := fun q h => by rw [← hAe]; exact Or.inr h
  have hS : va_S A s.heap s.heap [] := va_S.rf
  have hl := lv_entry ([.ref h_pg, .ref h_la, .int p1]) (n := 10) (Nat.le_of_ble_eq_true rfl)
  rw [lg_entry_eq]
  generalize (lg_sl ([.ref h_pg, .ref h_la, .int p1]) ++ List.replicate (10 - (lg_sl ([.ref h_pg, .ref h_la, .int p1])).length) Slot.unset).toArray = ls at hl ⊢
  have hl : lv_has ls 10 [(0, .ref h_pg), (1, .ref h_la), (2, .int p1)] := hl
  have h := hf
  unfold f_Page_lay at h
  refine lv_aload_n hx hb d_Page_lay_0 rfl (lv_at hl 1 rfl) ?_
  refine va_getN (D := (dC, dI)) (ci := 8) (v := .ref h_di) (C := R_Layout) (T := T_Layout) (N := 8) hx hb hB iw_Layout hown hK hP 1 rfl rfl 0 (by decide) (va_Nw.use rfl (hnw.1 _ bn_211)) (fun _ h9 => h9) rfl d_Page_lay_1 ?_
  refine lv_astore_n (lv' := [(3, .ref h_di), (0, .ref h_pg), (1, .ref h_la), (2, .int p1)]) hx hb d_Page_lay_4 rfl hl (by decide) rfl (fun ls hl => ?_)
  refine lv_aload_n hx hb d_Page_lay_5 rfl (lv_at hl 2 rfl) ?_
  refine va_getN (D := (dC, dI)) (ci := 8) (v := .ref h_la_symbolOf) (C := R_Layout) (T := T_Layout) (N := 8) hx hb hB iw_Layout hown hK hP 1 rfl rfl 2 (by decide) (va_Nw.use rfl (hnw.1 _ bn_220)) (fun _ h9 => h9) rfl d_Page_lay_6 ?_
  refine lv_iload_n hx hb d_Page_lay_9 rfl (lv_at hl 3 rfl) ?_
  obtain ⟨hin, h⟩ := gq_e h
  refine va_iald hx hb hK hP 3 0 rfl rfl hin d_Page_lay_10 ?_
  refine lv_topi (fun v4_1 e_v4_1 => ?_)
  have h := nl_u e_v4_1 h
  refine lv_istore (lv' := [(4, .int v4_1), (3, .ref h_di), (0, .ref h_pg), (1, .ref h_la), (2, .int p1)]) hx hb d_Page_lay_11 hl (by decide) rfl (fun ls hl => ?_)
  refine lv_aload_n hx hb d_Page_lay_13 rfl (lv_at hl 1 rfl) ?_
  refine va_getN (D := (dC, dI)) (ci := 6) (v := .ref h_di_samples) (C := R_Dictionary) (T := T_Dictionary) (N := 4) hx hb hB iw_Dictionary hown hK hP 2 rfl rfl 2 (by decide) (va_Nw.use rfl (hnw.1 _ bn_52)) (fun _ h9 => h9) rfl d_Page_lay_14 ?_
  refine lv_iload hx hb d_Page_lay_17 (lv_at hl 0 rfl) ?_
  obtain ⟨hin, h⟩ := gq_e h
  refine va_lald hx hb hK hP 4 1 rfl rfl hin d_Page_lay_19 ?_
  refine lv_aload_n hx hb d_Page_lay_20 rfl (lv_at hl 3 rfl) ?_
  refine va_getN (D := (dC, dI)) (ci := 8) (v := .ref h_la_differs) (C := R_Layout) (T := T_Layout) (N := 8) hx hb hB iw_Layout hown hK hP 1 rfl rfl 5 (by decide) (va_Nw.use rfl (hnw.1 _ bn_232)) (fun _ h9 => h9) rfl d_Page_lay_21 ?_
  refine lv_iload_n hx hb d_Page_lay_24 rfl (lv_at hl 4 rfl) ?_
  obtain ⟨hin, h⟩ := gq_e h
  refine va_lald hx hb hK hP 5 2 rfl rfl hin d_Page_lay_25 ?_
  refine lv_lxor hx hb d_Page_lay_26 ?_
  refine lv_topl (fun v5_2 e_v5_2 => ?_)
  have h := nl_u e_v5_2 h
  refine lv_lstore (lv' := [(5, .long v5_2), (4, .int v4_1), (3, .ref h_di), (0, .ref h_pg), (1, .ref h_la), (2, .int p1)]) hx hb d_Page_lay_27 hl (by decide) rfl (fun ls hl => ?_)
  refine lv_iconst (v := 0) hx hb d_Page_lay_29 (by decide) ?_
  refine lv_istore (lv' := [(7, .int (0 : Int32)), (5, .long v5_2), (4, .int v4_1), (3, .ref h_di), (0, .ref h_pg), (1, .ref h_la), (2, .int p1)]) hx hb d_Page_lay_30 hl (by decide) rfl (fun ls hl => ?_)
  have w_self32 : ∀ n9 : Nat, ∀ (v7_3 : Int32) (pg_dark_4 : (Nat → Int32)) (H : Heap) (locs : List Loc) (ls : Array Slot), lp (f_Page_lay_L32 v4_1 di_heights di_widths v5_2 p1 pg_width pg_height n_pg_dark la_xs la_ys la_ways) n9 (v7_3, pg_dark_4) = some o → va_P (dC, dI) CL [(h_pg, .inr (9, [.int pg_width, .int pg_height, .ref h_pg_dark])), (h_la, .inr (8, [.ref h_di, .ref h_la_ways, .ref h_la_symbolOf, .ref h_la_xs, .ref h_la_ys, .ref h_la_differs, u_la_sequence, u_la_count])), (h_di, .inr (6, [.ref h_di_widths, .ref h_di_heights, .ref h_di_samples, u_di_count])), (h_la_symbolOf, .inl (c_la_symbolOf, 40, .inl la_symbolOf)), (h_di_samples, .inl (c_di_samples, 16, .inr (.inl di_samples))), (h_la_differs, .inl (c_la_differs, 40, .inr (.inl la_differs))), (h_di_heights, .inl (c_di_heights, 16, .inl di_heights)), (h_di_widths, .inl (c_di_widths, 16, .inl di_widths)), (h_la_xs, .inl (c_la_xs, 40, .inl la_xs)), (h_la_ys, .inl (c_la_ys, 40, .inl la_ys)), (h_la_ways, .inl (c_la_ways, 4, .inl la_ways)), (h_pg_dark, .inl (c_pg_dark, n_pg_dark, .inl pg_dark_4))] H → va_D A [(h_pg, .inr (9, [.int pg_width, .int pg_height, .ref h_pg_dark])), (h_la, .inr (8, [.ref h_di, .ref h_la_ways, .ref h_la_symbolOf, .ref h_la_xs, .ref h_la_ys, .ref h_la_differs, u_la_sequence, u_la_count])), (h_di, .inr (6, [.ref h_di_widths, .ref h_di_heights, .ref h_di_samples, u_di_count])), (h_la_symbolOf, .inl (c_la_symbolOf, 40, .inl la_symbolOf)), (h_di_samples, .inl (c_di_samples, 16, .inr (.inl di_samples))), (h_la_differs, .inl (c_la_differs, 40, .inr (.inl la_differs))), (h_di_heights, .inl (c_di_heights, 16, .inl di_heights)), (h_di_widths, .inl (c_di_widths, 16, .inl di_widths)), (h_la_xs, .inl (c_la_xs, 40, .inl la_xs)), (h_la_ys, .inl (c_la_ys, 40, .inl la_ys)), (h_la_ways, .inl (c_la_ways, 4, .inl la_ways)), (h_pg_dark, .inl (c_pg_dark, n_pg_dark, .inl pg_dark_4))] → va_S A s.heap H locs → lv_has ls 10 [(7, .int v7_3), (5, .long v5_2), (4, .int v4_1), (3, .ref h_di), (0, .ref h_pg), (1, .ref h_la), (2, .int p1)] → W p l e ({ frames := 3, cells := 0, slots := 0, locals := 68 } : Room) s m ([.ref h_pg, .ref h_la, .int p1] : List Value).toArray below meth c H locs 0 0 Q9 (F0 m 32 ls []) := by
    intro n9
    induction n9 with
    | zero =>
      intro v7_3 pg_dark_4 H locs ls h hP hD hS hl
      exact absurd h (by simp [lp])
    | succ n9 ih_self32 =>
      intro v7_3 pg_dark_4 H locs ls h hP hD hS hl
      obtain ⟨self32, e_self32, h⟩ := abs_k (P := fun z9 => f_Page_lay_L32 v4_1 di_heights di_widths v5_2 p1 pg_width pg_height n_pg_dark la_xs la_ys la_ways z9 (v7_3, pg_dark_4) = some o) (lp_e h)
      rw [← e_self32] at ih_self32
      unfold f_Page_lay_L32 at h
      try dsimp only at h
      refine lv_iload hx hb d_Page_lay_32 (lv_at hl 0 rfl) ?_
      refine lv_aload_n hx hb d_Page_lay_34 rfl (lv_at hl 3 rfl) ?_
      refine va_getN (D := (dC, dI)) (ci := 6) (v := .ref h_di_heights) (C := R_Dictionary) (T := T_Dictionary) (N := 4) hx hb hB iw_Dictionary hown hK hP 2 rfl rfl 1 (by decide) (va_Nw.use rfl (hnw.1 _ bn_48)) (fun _ h9 => h9) rfl d_Page_lay_35 ?_
      refine lv_iload hx hb d_Page_lay_38 (lv_at hl 2 rfl) ?_
      obtain ⟨hin, h⟩ := gq_e h
      refine va_iald hx hb hK hP 6 3 rfl rfl hin d_Page_lay_40 ?_
      refine lv_icmp_ge (tgt := 118) hx hb d_Page_lay_41 (by decide) (fun c_1 => ?_) (fun c_1 => ?_)
      · have h := if_t h c_1
        subst eQ
        exact W.vret hx hb hr (fun t ht hW => ⟨⟨pg_dark_4, rfl, Option.some.inj h, by rw [ht]; exact hP, va_K.moved hW.alike hK, hD⟩, hS.F ht⟩) hS.2.2 d_Page_lay_118
      · have h := if_f h c_1
        refine lv_iconst (v := 0) hx hb d_Page_lay_44 (by decide) ?_
        refine lv_istore (lv' := [(8, .int (0 : Int32)), (7, .int v7_3), (5, .long v5_2), (4, .int v4_1), (3, .ref h_di), (0, .ref h_pg), (1, .ref h_la), (2, .int p1)]) hx hb d_Page_lay_45 hl (by decide) rfl (fun ls hl => ?_)
        obtain ⟨k112, e_k112, h⟩ := abs_k (P := fun k9 => lp (f_Page_lay_L47 v4_1 di_widths v7_3 v5_2 p1 pg_width pg_height n_pg_dark la_xs la_ys la_ways k9) FU ((0 : Int32), pg_dark_4) = some o) h
        have w_k112 : ∀ (pg_dark_7 : (Nat → Int32)) (H : Heap) (locs : List Loc) (ls : Array Slot), k112 pg_dark_7 = some o → va_P (dC, dI) CL [(h_pg, .inr (9, [.int pg_width, .int pg_height, .ref h_pg_dark])), (h_la, .inr (8, [.ref h_di, .ref h_la_ways, .ref h_la_symbolOf, .ref h_la_xs, .ref h_la_ys, .ref h_la_differs, u_la_sequence, u_la_count])), (h_di, .inr (6, [.ref h_di_widths, .ref h_di_heights, .ref h_di_samples, u_di_count])), (h_la_symbolOf, .inl (c_la_symbolOf, 40, .inl la_symbolOf)), (h_di_samples, .inl (c_di_samples, 16, .inr (.inl di_samples))), (h_la_differs, .inl (c_la_differs, 40, .inr (.inl la_differs))), (h_di_heights, .inl (c_di_heights, 16, .inl di_heights)), (h_di_widths, .inl (c_di_widths, 16, .inl di_widths)), (h_la_xs, .inl (c_la_xs, 40, .inl la_xs)), (h_la_ys, .inl (c_la_ys, 40, .inl la_ys)), (h_la_ways, .inl (c_la_ways, 4, .inl la_ways)), (h_pg_dark, .inl (c_pg_dark, n_pg_dark, .inl pg_dark_7))] H → va_D A [(h_pg, .inr (9, [.int pg_width, .int pg_height, .ref h_pg_dark])), (h_la, .inr (8, [.ref h_di, .ref h_la_ways, .ref h_la_symbolOf, .ref h_la_xs, .ref h_la_ys, .ref h_la_differs, u_la_sequence, u_la_count])), (h_di, .inr (6, [.ref h_di_widths, .ref h_di_heights, .ref h_di_samples, u_di_count])), (h_la_symbolOf, .inl (c_la_symbolOf, 40, .inl la_symbolOf)), (h_di_samples, .inl (c_di_samples, 16, .inr (.inl di_samples))), (h_la_differs, .inl (c_la_differs, 40, .inr (.inl la_differs))), (h_di_heights, .inl (c_di_heights, 16, .inl di_heights)), (h_di_widths, .inl (c_di_widths, 16, .inl di_widths)), (h_la_xs, .inl (c_la_xs, 40, .inl la_xs)), (h_la_ys, .inl (c_la_ys, 40, .inl la_ys)), (h_la_ways, .inl (c_la_ways, 4, .inl la_ways)), (h_pg_dark, .inl (c_pg_dark, n_pg_dark, .inl pg_dark_7))] → va_S A s.heap H locs → lv_has ls 10 [(7, .int v7_3), (5, .long v5_2), (4, .int v4_1), (3, .ref h_di), (0, .ref h_pg), (1, .ref h_la), (2, .int p1)] → W p l e ({ frames := 3, cells := 0, slots := 0, locals := 68 } : Room) s m ([.ref h_pg, .ref h_la, .int p1] : List Value).toArray below meth c H locs 0 0 Q9 (F0 m 112 ls []) := by
          intro pg_dark_7 H locs ls h hP hD hS hl
          rw [e_k112] at h
          obtain ⟨v7_12, e_v7_12⟩ : ∃ y9 : Int32, y9 = (v7_3 + (1 : Int32)) := ⟨_, rfl⟩
          have h := nl_u e_v7_12 h
          refine lv_iinc (v := v7_12) (lv' := [(7, .int v7_12), (5, .long v5_2), (4, .int v4_1), (3, .ref h_di), (0, .ref h_pg), (1, .ref h_la), (2, .int p1)]) hx hb d_Page_lay_112 hl (k := 0) rfl (by rw [e_v7_12]; rfl) (by decide) rfl (fun ls hl => ?_)
          refine lv_goto (tgt := 32) hx hb d_Page_lay_115 (by decide) ?_
          exact ih_self32 _ _ _ _ _ h hP hD hS hl
        have w_self47 : ∀ n9 : Nat, ∀ (v8_5 : Int32) (pg_dark_6 : (Nat → Int32)) (H : Heap) (locs : List Loc) (ls : Array Slot), lp (f_Page_lay_L47 v4_1 di_widths v7_3 v5_2 p1 pg_width pg_height n_pg_dark la_xs la_ys la_ways k112) n9 (v8_5, pg_dark_6) = some o → va_P (dC, dI) CL [(h_pg, .inr (9, [.int pg_width, .int pg_height, .ref h_pg_dark])), (h_la, .inr (8, [.ref h_di, .ref h_la_ways, .ref h_la_symbolOf, .ref h_la_xs, .ref h_la_ys, .ref h_la_differs, u_la_sequence, u_la_count])), (h_di, .inr (6, [.ref h_di_widths, .ref h_di_heights, .ref h_di_samples, u_di_count])), (h_la_symbolOf, .inl (c_la_symbolOf, 40, .inl la_symbolOf)), (h_di_samples, .inl (c_di_samples, 16, .inr (.inl di_samples))), (h_la_differs, .inl (c_la_differs, 40, .inr (.inl la_differs))), (h_di_heights, .inl (c_di_heights, 16, .inl di_heights)), (h_di_widths, .inl (c_di_widths, 16, .inl di_widths)), (h_la_xs, .inl (c_la_xs, 40, .inl la_xs)), (h_la_ys, .inl (c_la_ys, 40, .inl la_ys)), (h_la_ways, .inl (c_la_ways, 4, .inl la_ways)), (h_pg_dark, .inl (c_pg_dark, n_pg_dark, .inl pg_dark_6))] H → va_D A [(h_pg, .inr (9, [.int pg_width, .int pg_height, .ref h_pg_dark])), (h_la, .inr (8, [.ref h_di, .ref h_la_ways, .ref h_la_symbolOf, .ref h_la_xs, .ref h_la_ys, .ref h_la_differs, u_la_sequence, u_la_count])), (h_di, .inr (6, [.ref h_di_widths, .ref h_di_heights, .ref h_di_samples, u_di_count])), (h_la_symbolOf, .inl (c_la_symbolOf, 40, .inl la_symbolOf)), (h_di_samples, .inl (c_di_samples, 16, .inr (.inl di_samples))), (h_la_differs, .inl (c_la_differs, 40, .inr (.inl la_differs))), (h_di_heights, .inl (c_di_heights, 16, .inl di_heights)), (h_di_widths, .inl (c_di_widths, 16, .inl di_widths)), (h_la_xs, .inl (c_la_xs, 40, .inl la_xs)), (h_la_ys, .inl (c_la_ys, 40, .inl la_ys)), (h_la_ways, .inl (c_la_ways, 4, .inl la_ways)), (h_pg_dark, .inl (c_pg_dark, n_pg_dark, .inl pg_dark_6))] → va_S A s.heap H locs → lv_has ls 10 [(8, .int v8_5), (7, .int v7_3), (5, .long v5_2), (4, .int v4_1), (3, .ref h_di), (0, .ref h_pg), (1, .ref h_la), (2, .int p1)] → W p l e ({ frames := 3, cells := 0, slots := 0, locals := 68 } : Room) s m ([.ref h_pg, .ref h_la, .int p1] : List Value).toArray below meth c H locs 0 0 Q9 (F0 m 47 ls []) := by
          intro n9
          induction n9 with
          | zero =>
            intro v8_5 pg_dark_6 H locs ls h hP hD hS hl
            exact absurd h (by simp [lp])
          | succ n9 ih_self47 =>
            intro v8_5 pg_dark_6 H locs ls h hP hD hS hl
            obtain ⟨self47, e_self47, h⟩ := abs_k (P := fun z9 => f_Page_lay_L47 v4_1 di_widths v7_3 v5_2 p1 pg_width pg_height n_pg_dark la_xs la_ys la_ways k112 z9 (v8_5, pg_dark_6) = some o) (lp_e h)
            rw [← e_self47] at ih_self47
            unfold f_Page_lay_L47 at h
            try dsimp only at h
            refine lv_iload hx hb d_Page_lay_47 (lv_at hl 0 rfl) ?_
            refine lv_aload_n hx hb d_Page_lay_49 rfl (lv_at hl 4 rfl) ?_
            refine va_getN (D := (dC, dI)) (ci := 6) (v := .ref h_di_widths) (C := R_Dictionary) (T := T_Dictionary) (N := 4) hx hb hB iw_Dictionary hown hK hP 2 rfl rfl 0 (by decide) (va_Nw.use rfl (hnw.1 _ bn_45)) (fun _ h9 => h9) rfl d_Page_lay_50 ?_
            refine lv_iload hx hb d_Page_lay_53 (lv_at hl 3 rfl) ?_
            obtain ⟨hin, h⟩ := gq_e h
            refine va_iald hx hb hK hP 7 4 rfl rfl hin d_Page_lay_55 ?_
            refine lv_icmp_ge (tgt := 112) hx hb d_Page_lay_56 (by decide) (fun c_2 => ?_) (fun c_2 => ?_)
            · have h := if_t h c_2
              exact w_k112 _ _ _ _ h hP hD hS (lv_sub hl [1, 2, 3, 4, 5, 6, 7] rfl)
            · have h := if_f h c_2
              refine lv_lload hx hb d_Page_lay_59 (lv_at hl 2 rfl) ?_
              refine lv_aload_n hx hb d_Page_lay_61 rfl (lv_at hl 4 rfl) ?_
              refine lv_iload hx hb d_Page_lay_62 (lv_at hl 3 rfl) ?_
              refine lv_iload hx hb d_Page_lay_64 (lv_at hl 0 rfl) ?_
              refine lv_iload hx hb d_Page_lay_66 (lv_at hl 1 rfl) ?_
              obtain ⟨o9, hc9, h⟩ := bd_e h
              have hPc := hP.sub (ws' := [(h_di, .inr (6, [.ref h_di_widths, .ref h_di_heights, .ref h_di_samples, u_di_count])), (h_di_widths, .inl (c_di_widths, 16, .inl di_widths))]) [2, 7] rfl
              have hKc := hK.sub (tys' := [(c_di_widths, .int)]) [4] rfl
              refine vp_callSi (va_Run.run (va_runVN (As := [.int v4_1, .int v8_5, .int v7_3]) (rest := [.long v5_2]) ⟨hx, hb, hml, hown, hB⟩ (c_Dictionary_sampleNumber l dC dI h_di h_di_widths c_di_widths (.ref h_di_heights) (.ref h_di_samples) u_di_count di_widths v4_1 v8_5 v7_3 o9 hc9) ⟨va_cnB 3 hB (goodB bw_330) rfl rfl rfl (hnw.1 _ bn_327) (hB _ bw_3) (by decide +kernel) ⟨Nat.le_of_ble_eq_true rfl, Nat.le_of_ble_eq_true rfl⟩, hB _ bw_329, hB _ bs_8⟩ ⟨fb_p, va_recv hK hP (ci := 6) (q0 := 2) rfl rfl, (pre_p hPc hKc hnw [.ref h_di, .int v4_1, .int v8_5, .int v7_3])⟩ rfl rfl hl.1 rfl (lv_room (Nat.le_of_ble_eq_true rfl)) d_Page_lay_68 ⟨Nat.zero_le _, Nat.zero_le _⟩)) (fun r_8 e_r_8 => ?_)
              subst e_r_8
              clear hPc hKc hc9
              obtain ⟨o9, hc9, h⟩ := bd_e h
              have hPc := hP.sub (ws' := []) [] rfl
              have hKc := hK.sub (tys' := []) [] rfl
              refine vp_callSi (va_Run.run (va_runSN (As := [.long v5_2, .int r_8]) (rest := []) ⟨hx, hb, hml, hown, hB⟩ (c_Top_hasBit l dC dI v5_2 r_8 o9 hc9) ⟨va_cnB 2 hB (goodB bw_333) rfl rfl rfl (hnw.1 _ bn_331) (hB _ bw_1) (by decide +kernel) ⟨Nat.le_of_ble_eq_true rfl, Nat.le_of_ble_eq_true rfl⟩, hB _ bw_332, trivial⟩ ⟨fb_p, (pre_p hPc hKc hnw [.long v5_2, .int r_8])⟩ rfl rfl hl.1 rfl (lv_room (Nat.le_of_ble_eq_true rfl)) d_Page_lay_71 ⟨Nat.zero_le _, Nat.zero_le _⟩)) (fun r_9 e_r_9 => ?_)
              subst e_r_9
              clear hPc hKc hc9
              refine lv_istore (lv' := [(9, .int r_9), (8, .int v8_5), (7, .int v7_3), (5, .long v5_2), (4, .int v4_1), (3, .ref h_di), (0, .ref h_pg), (1, .ref h_la), (2, .int p1)]) hx hb d_Page_lay_74 hl (by decide) rfl (fun ls hl => ?_)
              refine lv_aload_n hx hb d_Page_lay_76 rfl (lv_at hl 6 rfl) ?_
              refine lv_aload_n hx hb d_Page_lay_77 rfl (lv_at hl 7 rfl) ?_
              refine va_getN (D := (dC, dI)) (ci := 8) (v := .ref h_la_xs) (C := R_Layout) (T := T_Layout) (N := 8) hx hb hB iw_Layout hown hK hP 1 rfl rfl 3 (by decide) (va_Nw.use rfl (hnw.1 _ bn_225)) (fun _ h9 => h9) rfl d_Page_lay_78 ?_
              refine lv_iload_n hx hb d_Page_lay_81 rfl (lv_at hl 8 rfl) ?_
              obtain ⟨hin, h⟩ := gq_e h
              refine va_iald hx hb hK hP 8 5 rfl rfl hin d_Page_lay_82 ?_
              refine lv_iload hx hb d_Page_lay_83 (lv_at hl 1 rfl) ?_
              refine lv_iadd hx hb d_Page_lay_85 ?_
              refine lv_aload_n hx hb d_Page_lay_86 rfl (lv_at hl 7 rfl) ?_
              refine va_getN (D := (dC, dI)) (ci := 8) (v := .ref h_la_ys) (C := R_Layout) (T := T_Layout) (N := 8) hx hb hB iw_Layout hown hK hP 1 rfl rfl 4 (by decide) (va_Nw.use rfl (hnw.1 _ bn_228)) (fun _ h9 => h9) rfl d_Page_lay_87 ?_
              refine lv_iload_n hx hb d_Page_lay_90 rfl (lv_at hl 8 rfl) ?_
              obtain ⟨hin, h⟩ := gq_e h
              refine va_iald hx hb hK hP 9 6 rfl rfl hin d_Page_lay_91 ?_
              refine lv_iload hx hb d_Page_lay_92 (lv_at hl 2 rfl) ?_
              refine lv_iadd hx hb d_Page_lay_94 ?_
              refine lv_iload hx hb d_Page_lay_95 (lv_at hl 0 rfl) ?_
              refine lv_aload_n hx hb d_Page_lay_97 rfl (lv_at hl 7 rfl) ?_
              refine va_getN (D := (dC, dI)) (ci := 8) (v := .ref h_la_ways) (C := R_Layout) (T := T_Layout) (N := 8) hx hb hB iw_Layout hown hK hP 1 rfl rfl 1 (by decide) (va_Nw.use rfl (hnw.1 _ bn_216)) (fun _ h9 => h9) rfl d_Page_lay_98 ?_
              refine lv_iconst (v := 3) hx hb d_Page_lay_101 (by decide) ?_
              obtain ⟨hin, h⟩ := gq_e h
              refine va_iald hx hb hK hP 10 7 rfl rfl hin d_Page_lay_102 ?_
              obtain ⟨o9, hc9, h⟩ := bd_e h
              have hPc := hP.sub (ws' := [(h_pg, .inr (9, [.int pg_width, .int pg_height, .ref h_pg_dark])), (h_pg_dark, .inl (c_pg_dark, n_pg_dark, .inl pg_dark_6))]) [0, 11] rfl
              have hKc := hK.sub (tys' := [(c_pg_dark, .boolean)]) [8] rfl
              have hDc := hD.sub (ws' := [(h_pg, .inr (9, [.int pg_width, .int pg_height, .ref h_pg_dark])), (h_pg_dark, .inl (c_pg_dark, n_pg_dark, .inl pg_dark_6))]) [0, 11] (by decide) rfl
              have hFc := va_free (wc := [(h_pg, .inr (9, [.int pg_width, .int pg_height, .ref h_pg_dark])), (h_pg_dark, .inl (c_pg_dark, n_pg_dark, .inl pg_dark_6))]) hD hS hA [0, 11] rfl
              refine va_callv (va_runV (As := [.int ((la_xs (p1).toNatClampNeg) + v8_5), .int ((la_ys (p1).toNatClampNeg) + v7_3), .int r_9, .int (la_ways ((3 : Int32)).toNatClampNeg)]) (rest := []) ⟨hx, hb, hml, hown, hB⟩ (c_Page_laySample l dC dI h_pg h_pg_dark c_pg_dark pg_width pg_height n_pg_dark pg_dark_6 ((la_xs (p1).toNatClampNeg) + v8_5) ((la_ys (p1).toNatClampNeg) + v7_3) r_9 (la_ways ((3 : Int32)).toNatClampNeg) _ o9 hc9) (cwV 4 hB (goodA (m4 bw_334 bw_336 bs_9 bw_4) (goodB bw_337)) rfl rfl rfl (by decide +kernel) ⟨Nat.le_of_ble_eq_true rfl, Nat.le_of_ble_eq_true rfl⟩) ⟨fb_m, va_recv hK hP (ci := 9) (q0 := 0) rfl rfl, (pre_m hPc hKc hDc hnw [.ref h_pg, .int ((la_xs (p1).toNatClampNeg) + v8_5), .int ((la_ys (p1).toNatClampNeg) + v7_3), .int r_9, .int (la_ways ((3 : Int32)).toNatClampNeg)])⟩ rfl rfl hl.1 rfl (lv_room (Nat.le_of_ble_eq_true rfl)) d_Page_lay_103 ⟨Nat.zero_le _, Nat.zero_le _⟩) hS (fun q _ h => hFc q h) hFc (fun u9 t H1 locs ht hvm hw hB hz1 hk1 hS => ?_)
              obtain ⟨pg_dark_10, rfl⟩ : ∃ z9, z9 = u9 := ⟨_, rfl⟩
              subst hw
              obtain ⟨hP1, hK1, hD1⟩ := hB
              rw [ht] at hP1
              obtain ⟨hP, hD⟩ := va_join (wr := [(h_la, .inr (8, [.ref h_di, .ref h_la_ways, .ref h_la_symbolOf, .ref h_la_xs, .ref h_la_ys, .ref h_la_differs, u_la_sequence, u_la_count])), (h_di, .inr (6, [.ref h_di_widths, .ref h_di_heights, .ref h_di_samples, u_di_count])), (h_la_symbolOf, .inl (c_la_symbolOf, 40, .inl la_symbolOf)), (h_di_samples, .inl (c_di_samples, 16, .inr (.inl di_samples))), (h_la_differs, .inl (c_la_differs, 40, .inr (.inl la_differs))), (h_di_heights, .inl (c_di_heights, 16, .inl di_heights)), (h_di_widths, .inl (c_di_widths, 16, .inl di_widths)), (h_la_xs, .inl (c_la_xs, 40, .inl la_xs)), (h_la_ys, .inl (c_la_ys, 40, .inl la_ys)), (h_la_ways, .inl (c_la_ways, 4, .inl la_ways))]) (w1 := [(h_pg, .inr (9, [.int pg_width, .int pg_height, .ref h_pg_dark])), (h_pg_dark, .inl (c_pg_dark, n_pg_dark, .inl pg_dark_10))]) hP hD [0, 11] [1, 2, 3, 4, 5, 6, 7, 8, 9, 10] rfl rfl (by decide) (by decide) hk1 hFc hP1 hD1
              have hP := hP.sub (ws' := [(h_pg, .inr (9, [.int pg_width, .int pg_height, .ref h_pg_dark])), (h_la, .inr (8, [.ref h_di, .ref h_la_ways, .ref h_la_symbolOf, .ref h_la_xs, .ref h_la_ys, .ref h_la_differs, u_la_sequence, u_la_count])), (h_di, .inr (6, [.ref h_di_widths, .ref h_di_heights, .ref h_di_samples, u_di_count])), (h_la_symbolOf, .inl (c_la_symbolOf, 40, .inl la_symbolOf)), (h_di_samples, .inl (c_di_samples, 16, .inr (.inl di_samples))), (h_la_differs, .inl (c_la_differs, 40, .inr (.inl la_differs))), (h_di_heights, .inl (c_di_heights, 16, .inl di_heights)), (h_di_widths, .inl (c_di_widths, 16, .inl di_widths)), (h_la_xs, .inl (c_la_xs, 40, .inl la_xs)), (h_la_ys, .inl (c_la_ys, 40, .inl la_ys)), (h_la_ways, .inl (c_la_ways, 4, .inl la_ways)), (h_pg_dark, .inl (c_pg_dark, n_pg_dark, .inl pg_dark_10))]) [10, 0, 1, 2, 3, 4, 5, 6, 7, 8, 9, 11] rfl
              have hD := hD.sub (ws' := [(h_pg, .inr (9, [.int pg_width, .int pg_height, .ref h_pg_dark])), (h_la, .inr (8, [.ref h_di, .ref h_la_ways, .ref h_la_symbolOf, .ref h_la_xs, .ref h_la_ys, .ref h_la_differs, u_la_sequence, u_la_count])), (h_di, .inr (6, [.ref h_di_widths, .ref h_di_heights, .ref h_di_samples, u_di_count])), (h_la_symbolOf, .inl (c_la_symbolOf, 40, .inl la_symbolOf)), (h_di_samples, .inl (c_di_samples, 16, .inr (.inl di_samples))), (h_la_differs, .inl (c_la_differs, 40, .inr (.inl la_differs))), (h_di_heights, .inl (c_di_heights, 16, .inl di_heights)), (h_di_widths, .inl (c_di_widths, 16, .inl di_widths)), (h_la_xs, .inl (c_la_xs, 40, .inl la_xs)), (h_la_ys, .inl (c_la_ys, 40, .inl la_ys)), (h_la_ways, .inl (c_la_ways, 4, .inl la_ways)), (h_pg_dark, .inl (c_pg_dark, n_pg_dark, .inl pg_dark_10))]) [10, 0, 1, 2, 3, 4, 5, 6, 7, 8, 9, 11] (by decide) rfl
              clear hPc hKc hDc hFc hc9 hP1 hK1 hD1 hk1 hz1 hvm ht
              generalize H1 = H at hP hS ⊢
              try dsimp only at h
              obtain ⟨v8_11, e_v8_11⟩ : ∃ y9 : Int32, y9 = (v8_5 + (1 : Int32)) := ⟨_, rfl⟩
              have h := nl_u e_v8_11 h
              refine lv_iinc (v := v8_11) (lv' := [(8, .int v8_11), (9, .int r_9), (7, .int v7_3), (5, .long v5_2), (4, .int v4_1), (3, .ref h_di), (0, .ref h_pg), (1, .ref h_la), (2, .int p1)]) hx hb d_Page_lay_106 hl (k := 1) rfl (by rw [e_v8_11]; rfl) (by decide) rfl (fun ls hl => ?_)
              refine lv_goto (tgt := 47) hx hb d_Page_lay_109 (by decide) ?_
              exact ih_self47 _ _ _ _ _ h hP hD hS (lv_sub hl [0, 2, 3, 4, 5, 6, 7, 8] rfl)
        exact w_self47 FU _ _ _ _ _ h hP hD hS hl
  exact w_self32 FU _ _ _ _ _ h hP hD hS hl
