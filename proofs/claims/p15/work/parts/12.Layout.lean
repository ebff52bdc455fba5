set_option maxHeartbeats 4000000 in
set_option maxRecDepth 100000 in
theorem c_Layout_empty (l : Launch) (dC : Nat → ClassId) (dI : Nat → Nat → Nat) (h_la : Nat) (h_la_ways : Nat) (c_la_ways : ClassId) (u_la_symbols : Value) (u_la_symbolOf : Value) (u_la_xs : Value) (u_la_ys : Value) (u_la_differs : Value) (u_la_sequence : Value) (la_count : Int32) (la_ways : (Nat → Int32)) (sz : Nat) (o : Int32 × (Nat → Int32)) (hf : f_Layout_empty la_ways = some o) :
    Met l y_Layout_empty ws_Layout_empty { frames := 0, cells := 0, slots := 0, locals := 0 } (va_Pc [.ref h_la] (PcM (dC, dI) [(h_la, .inr (8, [u_la_symbols, .ref h_la_ways, u_la_symbolOf, u_la_xs, u_la_ys, u_la_differs, u_la_sequence, .int la_count])), (h_la_ways, .inl (c_la_ways, 4, .inl la_ways))] [(c_la_ways, .int)] sz))
      (va_Qv (fun u : Int32 × (Nat → Int32) => u = o) (fun u t => va_P (dC, dI) CL [(h_la, .inr (8, [u_la_symbols, .ref h_la_ways, u_la_symbolOf, u_la_xs, u_la_ys, u_la_differs, u_la_sequence, .int (u.1)])), (h_la_ways, .inl (c_la_ways, 4, .inl (u.2)))] t.heap ∧ va_K (dC, dI) CL [(c_la_ways, .int)] t ∧ va_D (va_A [(h_la, .inr (8, [u_la_symbols, .ref h_la_ways, u_la_symbolOf, u_la_xs, u_la_ys, u_la_differs, u_la_sequence, .int la_count])), (h_la_ways, .inl (c_la_ways, 4, .inl la_ways))] sz) [(h_la, .inr (8, [u_la_symbols, .ref h_la_ways, u_la_symbolOf, u_la_xs, u_la_ys, u_la_differs, u_la_sequence, .int (u.1)])), (h_la_ways, .inl (c_la_ways, 4, .inl (u.2)))]) (va_A [(h_la, .inr (8, [u_la_symbols, .ref h_la_ways, u_la_symbolOf, u_la_xs, u_la_ys, u_la_differs, u_la_sequence, .int la_count])), (h_la_ways, .inl (c_la_ways, 4, .inl la_ways))] sz)) 0 0 (va_A [(h_la, .inr (8, [u_la_symbols, .ref h_la_ways, u_la_symbolOf, u_la_xs, u_la_ys, u_la_differs, u_la_sequence, .int la_count])), (h_la_ways, .inl (c_la_ways, 4, .inl la_ways))] sz) := by
  refine Met.ofW (cc := b_Layout_empty) (maxL := 2) (ret := none) (by decide) rfl ?_
  intro p e s m args below meth c s₁ B hml hv
  obtain ⟨rfl, hsz, hP, hK, hD0, hnw⟩ := hv
  have hx := B.exec
  have hb := B.bytes
  have hr := B.returns
  have hts := atoms_spec (ws := ws_Layout_empty) B.pre
  have hB : ∀ w ∈ BIG, w.before _ s = true := fun w h => hts w (List.mem_cons_of_mem _ h)
  have hown : s.vm.findClass R_Layout = some m.cls := findClass_of_methodNamed B.named
  have hlocks := B.notSynchronized
  subst hsz
  have hD := hD0.self (sz := s.heap.size)
  refine W_Q (fun Q9 eQ => ?_)
  generalize hAe : va_A [(h_la, .inr (8, [u_la_symbols, .ref h_la_ways, u_la_symbolOf, u_la_xs, u_la_ys, u_la_differs, u_la_sequence, .int la_count])), (h_la_ways, .inl (c_la_ways, 4, .inl la_ways))] s.heap.size = A at hD eQ
  have hA : ∀ q : Nat, s.heap.size ≤ q → A q := fun q h => by rw [← hAe]; exact Or.inr h
  have hS : va_S A s.heap s.heap [] := va_S.rf
  have hl := lv_entry ([.ref h_la]) (n := 2) (Nat.le_of_ble_eq_true rfl)
  rw [lg_entry_eq]
  generalize (lg_sl ([.ref h_la]) ++ List.replicate (2 - (lg_sl ([.ref h_la])).length) Slot.unset).toArray = ls at hl ⊢
  have hl : lv_has ls 2 [(0, .ref h_la)] := hl
  have h := hf
  unfold f_Layout_empty at h
  refine lv_aload_n hx hb d_Layout_empty_0 rfl (lv_at hl 0 rfl) ?_
  refine lv_iconst (v := 0) hx hb d_Layout_empty_1 (by decide) ?_
  refine va_put (D := (dC, dI)) (ci := 8) (v := .int (0 : Int32)) (ty := .int) (C := R_Layout) (T := T_Layout) (N := 8) hx hb hB iw_Layout ty_Layout tk_Layout n_Layout hown hK hP hD hS 0 rfl rfl 7 (by decide) (hB _ bw_238) (fun _ h9 => h9) rfl (by decide +kernel) rfl rfl (Nat.le_of_ble_eq_true rfl) d_Layout_empty_2 (fun H locs hP hD hS => ?_)
  have hP : va_P (dC, dI) CL [(h_la, .inr (8, [u_la_symbols, .ref h_la_ways, u_la_symbolOf, u_la_xs, u_la_ys, u_la_differs, u_la_sequence, .int (0 : Int32)])), (h_la_ways, .inl (c_la_ways, 4, .inl la_ways))] H := hP
  have hD : va_D A [(h_la, .inr (8, [u_la_symbols, .ref h_la_ways, u_la_symbolOf, u_la_xs, u_la_ys, u_la_differs, u_la_sequence, .int (0 : Int32)])), (h_la_ways, .inl (c_la_ways, 4, .inl la_ways))] := hD
  refine lv_iconst (v := 0) hx hb d_Layout_empty_5 (by decide) ?_
  refine lv_istore_n (lv' := [(1, .int (0 : Int32)), (0, .ref h_la)]) hx hb d_Layout_empty_6 rfl hl (by decide) rfl (fun ls hl => ?_)
  have w_self7 : ∀ n9 : Nat, ∀ (v1_1 : Int32) (la_ways_2 : (Nat → Int32)) (H : Heap) (locs : List Loc) (ls : Array Slot), lp (f_Layout_empty_L7) n9 (v1_1, la_ways_2) = some o → va_P (dC, dI) CL [(h_la, .inr (8, [u_la_symbols, .ref h_la_ways, u_la_symbolOf, u_la_xs, u_la_ys, u_la_differs, u_la_sequence, .int (0 : Int32)])), (h_la_ways, .inl (c_la_ways, 4, .inl la_ways_2))] H → va_D A [(h_la, .inr (8, [u_la_symbols, .ref h_la_ways, u_la_symbolOf, u_la_xs, u_la_ys, u_la_differs, u_la_sequence, .int (0 : Int32)])), (h_la_ways, .inl (c_la_ways, 4, .inl la_ways_2))] → va_S A s.heap H locs → lv_has ls 2 [(1, .int v1_1), (0, .ref h_la)] → W p l e ({ frames := 0, cells := 0, slots := 0, locals := 0 } : Room) s m ([.ref h_la] : List Value).toArray below meth c H locs 0 0 Q9 (F0 m 7 ls []) := by
    intro n9
    induction n9 with
    | zero =>
      intro v1_1 la_ways_2 H locs ls h hP hD hS hl
      exact absurd h (by simp [lp])
    | succ n9 ih_self7 =>
      intro v1_1 la_ways_2 H locs ls h hP hD hS hl
      obtain ⟨self7, e_self7, h⟩ := abs_k (P := fun z9 => f_Layout_empty_L7 z9 (v1_1, la_ways_2) = some o) (lp_e h)
      rw [← e_self7] at ih_self7
      unfold f_Layout_empty_L7 at h
      try dsimp only at h
      refine lv_iload_n hx hb d_Layout_empty_7 rfl (lv_at hl 0 rfl) ?_
      refine lv_iconst (v := 4) hx hb d_Layout_empty_8 (by decide) ?_
      refine lv_icmp_ge (tgt := 25) hx hb d_Layout_empty_9 (by decide) (fun c_1 => ?_) (fun c_1 => ?_)
      · have h := if_t h c_1
        subst eQ
        exact W.vret hx hb hr (fun t ht hW => ⟨⟨((0 : Int32), la_ways_2), rfl, Option.some.inj h, by rw [ht]; exact hP, va_K.moved hW.alike hK, hD⟩, hS.F ht⟩) hS.2.2 d_Layout_empty_25
      · have h := if_f h c_1
        refine lv_aload_n hx hb d_Layout_empty_12 rfl (lv_at hl 1 rfl) ?_
        refine va_get (D := (dC, dI)) (ci := 8) (v := .ref h_la_ways) (C := R_Layout) (T := T_Layout) (N := 8) hx hb hB iw_Layout hown hK hP 0 rfl rfl 1 (by decide) (hB _ bw_213) (fun _ h9 => h9) rfl d_Layout_empty_13 ?_
        refine lv_iload_n hx hb d_Layout_empty_16 rfl (lv_at hl 0 rfl) ?_
        refine lv_iconst (v := 0) hx hb d_Layout_empty_17 (by decide) ?_
        obtain ⟨hin, h⟩ := gq_e h
        refine va_iast hx hb hK hP hD hS 1 0 rfl rfl hin d_Layout_empty_18 (fun H locs hP hD hS => ?_)
        have hP : va_P (dC, dI) CL [(h_la, .inr (8, [u_la_symbols, .ref h_la_ways, u_la_symbolOf, u_la_xs, u_la_ys, u_la_differs, u_la_sequence, .int (0 : Int32)])), (h_la_ways, .inl (c_la_ways, 4, .inl (upd la_ways_2 (v1_1).toNatClampNeg (0 : Int32))))] H := hP
        have hD : va_D A [(h_la, .inr (8, [u_la_symbols, .ref h_la_ways, u_la_symbolOf, u_la_xs, u_la_ys, u_la_differs, u_la_sequence, .int (0 : Int32)])), (h_la_ways, .inl (c_la_ways, 4, .inl (upd la_ways_2 (v1_1).toNatClampNeg (0 : Int32))))] := hD
        obtain ⟨v1_3, e_v1_3⟩ : ∃ y9 : Int32, y9 = (v1_1 + (1 : Int32)) := ⟨_, rfl⟩
        have h := nl_u e_v1_3 h
        refine lv_iinc (v := v1_3) (lv' := [(1, .int v1_3), (0, .ref h_la)]) hx hb d_Layout_empty_19 hl (k := 0) rfl (by rw [e_v1_3]; rfl) (by decide) rfl (fun ls hl => ?_)
        refine lv_goto (tgt := 7) hx hb d_Layout_empty_22 (by decide) ?_
        exact ih_self7 _ _ _ _ _ h hP hD hS hl
  exact w_self7 FU _ _ _ _ _ h hP hD hS hl
set_option maxHeartbeats 4000000 in
set_option maxRecDepth 100000 in
theorem c_Layout_has (l : Launch) (dC : Nat → ClassId) (dI : Nat → Nat → Nat) (h_la : Nat) (u_la_symbols : Value) (u_la_ways : Value) (u_la_symbolOf : Value) (u_la_xs : Value) (u_la_ys : Value) (u_la_differs : Value) (u_la_sequence : Value) (la_count : Int32) (p0 : Int32) (o : Int32) (hf : f_Layout_has la_count p0 = some o) :
    Met l y_Layout_has ws_Layout_has { frames := 1, cells := 0, slots := 0, locals := 22 } (va_Pc [.ref h_la, .int p0] (PcP (dC, dI) [(h_la, .inr (8, [u_la_symbols, u_la_ways, u_la_symbolOf, u_la_xs, u_la_ys, u_la_differs, u_la_sequence, .int la_count]))] []))
      (vp_Si (fun r => r = o)) 0 0 (fun _ => False) := by
  refine Met.ofW (cc := b_Layout_has) (maxL := 2) (ret := (some .boolean)) (by decide) rfl ?_
  intro p e s m args below meth c s₁ B hml hv
  obtain ⟨rfl, hP, hK, hnw⟩ := hv
  have hx := B.exec
  have hb := B.bytes
  have hr := B.returns
  have hts := atoms_spec (ws := ws_Layout_has) B.pre
  have hB : ∀ w ∈ BIG, w.before _ s = true := fun w h => hts w (List.mem_cons_of_mem _ h)
  have hown : s.vm.findClass R_Layout = some m.cls := findClass_of_methodNamed B.named
  have hlocks := B.notSynchronized
  refine W_Q (fun Q9 eQ => ?_)
  have hl := lv_entry ([.ref h_la, .int p0]) (n := 2) (Nat.le_of_ble_eq_true rfl)
  rw [lg_entry_eq]
  generalize (lg_sl ([.ref h_la, .int p0]) ++ List.replicate (2 - (lg_sl ([.ref h_la, .int p0])).length) Slot.unset).toArray = ls at hl ⊢
  have hl : lv_has ls 2 [(0, .ref h_la), (1, .int p0)] := hl
  have h := hf
  unfold f_Layout_has at h
  refine lv_iload_n hx hb d_Layout_has_0 rfl (lv_at hl 1 rfl) ?_
  refine lv_iconst (v := 0) hx hb d_Layout_has_1 (by decide) ?_
  refine lv_aload_n hx hb d_Layout_has_2 rfl (lv_at hl 0 rfl) ?_
  refine va_get (D := (dC, dI)) (ci := 8) (v := .int la_count) (C := R_Layout) (T := T_Layout) (N := 8) hx hb hB iw_Layout hown hK hP 0 rfl rfl 7 (by decide) (hB _ bw_238) (fun _ h9 => h9) rfl d_Layout_has_3 ?_
  refine lv_iconst (v := 1) hx hb d_Layout_has_6 (by decide) ?_
  refine lv_isub hx hb d_Layout_has_7 ?_
  obtain ⟨o9, hc9, h⟩ := bd_e h
  have hPc := hP.sub (ws' := []) [] rfl
  have hKc := hK.sub (tys' := []) [] rfl
  refine vp_callSi (va_Run.run (va_runSN (As := [.int p0, .int (0 : Int32), .int (la_count - (1 : Int32))]) (rest := []) ⟨hx, hb, hml, hown, hB⟩ (c_Top_isWithin l dC dI p0 (0 : Int32) (la_count - (1 : Int32)) o9 hc9) ⟨va_cnB 3 hB (goodB bw_344) rfl rfl rfl (hnw.1 _ bn_790) (hB _ bw_1) (by decide +kernel) ⟨Nat.le_of_ble_eq_true rfl, Nat.le_of_ble_eq_true rfl⟩, hB _ bw_343, trivial⟩ ⟨fb_p, (pre_p hPc hKc hnw [.int p0, .int (0 : Int32), .int (la_count - (1 : Int32))])⟩ rfl rfl hl.1 rfl (lv_room (Nat.le_of_ble_eq_true rfl)) d_Layout_has_8 ⟨Nat.zero_le _, Nat.zero_le _⟩)) (fun r_1 e_r_1 => ?_)
  subst e_r_1
  clear hPc hKc hc9
  subst eQ
  obtain ⟨hz, h⟩ := bz_e h
  exact W.zret (v := r_1) hx hb hr (bz_n hz) (fun t ht hW => ⟨_, rfl, Option.some.inj h, ht⟩) (fun _ h9 => absurd h9 List.not_mem_nil) d_Layout_has_11
set_option maxHeartbeats 4000000 in
set_option maxRecDepth 100000 in
theorem c_Layout_add (l : Launch) (dC : Nat → ClassId) (dI : Nat → Nat → Nat) (h_la : Nat) (h_la_symbolOf : Nat) (h_la_xs : Nat) (h_la_ys : Nat) (h_la_differs : Nat) (c_la_symbolOf : ClassId) (c_la_xs : ClassId) (c_la_ys : ClassId) (c_la_differs : ClassId) (u_la_symbols : Value) (u_la_ways : Value) (u_la_sequence : Value) (la_count : Int32) (la_symbolOf : (Nat → Int32)) (la_xs : (Nat → Int32)) (la_ys : (Nat → Int32)) (la_differs : (Nat → Int64)) (p0 : Int32) (p1 : Int32) (p2 : Int32) (sz : Nat) (o : Int32 × Int32 × (Nat → Int32) × (Nat → Int32) × (Nat → Int32) × (Nat → Int64)) (hf : f_Layout_add la_count la_symbolOf la_xs la_ys la_differs p0 p1 p2 = some o) :
    Met l y_Layout_add ws_Layout_add { frames := 0, cells := 0, slots := 0, locals := 0 } (va_Pc [.ref h_la, .int p0, .int p1, .int p2] (PcM (dC, dI) [(h_la, .inr (8, [u_la_symbols, u_la_ways, .ref h_la_symbolOf, .ref h_la_xs, .ref h_la_ys, .ref h_la_differs, u_la_sequence, .int la_count])), (h_la_symbolOf, .inl (c_la_symbolOf, 40, .inl la_symbolOf)), (h_la_xs, .inl (c_la_xs, 40, .inl la_xs)), (h_la_ys, .inl (c_la_ys, 40, .inl la_ys)), (h_la_differs, .inl (c_la_differs, 40, .inr (.inl la_differs)))] [(c_la_symbolOf, .int), (c_la_xs, .int), (c_la_ys, .int), (c_la_differs, .long)] sz))
      (va_Qi (fun (r : Int32) (u : Int32 × (Nat → Int32) × (Nat → Int32) × (Nat → Int32) × (Nat → Int64)) => (r, u) = o) (fun u t => va_P (dC, dI) CL [(h_la, .inr (8, [u_la_symbols, u_la_ways, .ref h_la_symbolOf, .ref h_la_xs, .ref h_la_ys, .ref h_la_differs, u_la_sequence, .int (u.1)])), (h_la_symbolOf, .inl (c_la_symbolOf, 40, .inl (u.2.1))), (h_la_xs, .inl (c_la_xs, 40, .inl (u.2.2.1))), (h_la_ys, .inl (c_la_ys, 40, .inl (u.2.2.2.1))), (h_la_differs, .inl (c_la_differs, 40, .inr (.inl (u.2.2.2.2))))] t.heap ∧ va_K (dC, dI) CL [(c_la_symbolOf, .int), (c_la_xs, .int), (c_la_ys, .int), (c_la_differs, .long)] t ∧ va_D (va_A [(h_la, .inr (8, [u_la_symbols, u_la_ways, .ref h_la_symbolOf, .ref h_la_xs, .ref h_la_ys, .ref h_la_differs, u_la_sequence, .int la_count])), (h_la_symbolOf, .inl (c_la_symbolOf, 40, .inl la_symbolOf)), (h_la_xs, .inl (c_la_xs, 40, .inl la_xs)), (h_la_ys, .inl (c_la_ys, 40, .inl la_ys)), (h_la_differs, .inl (c_la_differs, 40, .inr (.inl la_differs)))] sz) [(h_la, .inr (8, [u_la_symbols, u_la_ways, .ref h_la_symbolOf, .ref h_la_xs, .ref h_la_ys, .ref h_la_differs, u_la_sequence, .int (u.1)])), (h_la_symbolOf, .inl (c_la_symbolOf, 40, .inl (u.2.1))), (h_la_xs, .inl (c_la_xs, 40, .inl (u.2.2.1))), (h_la_ys, .inl (c_la_ys, 40, .inl (u.2.2.2.1))), (h_la_differs, .inl (c_la_differs, 40, .inr (.inl (u.2.2.2.2))))]) (va_A [(h_la, .inr (8, [u_la_symbols, u_la_ways, .ref h_la_symbolOf, .ref h_la_xs, .ref h_la_ys, .ref h_la_differs, u_la_sequence, .int la_count])), (h_la_symbolOf, .inl (c_la_symbolOf, 40, .inl la_symbolOf)), (h_la_xs, .inl (c_la_xs, 40, .inl la_xs)), (h_la_ys, .inl (c_la_ys, 40, .inl la_ys)), (h_la_differs, .inl (c_la_differs, 40, .inr (.inl la_differs)))] sz)) 0 0 (va_A [(h_la, .inr (8, [u_la_symbols, u_la_ways, .ref h_la_symbolOf, .ref h_la_xs, .ref h_la_ys, .ref h_la_differs, u_la_sequence, .int la_count])), (h_la_symbolOf, .inl (c_la_symbolOf, 40, .inl la_symbolOf)), (h_la_xs, .inl (c_la_xs, 40, .inl la_xs)), (h_la_ys, .inl (c_la_ys, 40, .inl la_ys)), (h_la_differs, .inl (c_la_differs, 40, .inr (.inl la_differs)))] sz) := by
  refine Met.ofW (cc := b_Layout_add) (maxL := 4) (ret := (some .int)) (by decide) rfl ?_
  intro p e s m args below meth c s₁ B hml hv
  obtain ⟨rfl, hsz, hP, hK, hD0, hnw⟩ := hv
  have hx := B.exec
  have hb := B.bytes
  have hr := B.returns
  have hts := atoms_spec (ws := ws_Layout_add) B.pre
  have hB : ∀ w ∈ BIG, w.before _ s = true := fun w h => hts w (List.mem_cons_of_mem _ h)
  have hown : s.vm.findClass R_Layout = some m.cls := findClass_of_methodNamed B.named
  have hlocks := B.notSynchronized
  subst hsz
  have hD := hD0.self (sz := s.heap.size)
  refine W_Q (fun Q9 eQ => ?_)
  generalize hAe : va_A [(h_la, .inr (8, [u_la_symbols, u_la_ways, .ref h_la_symbolOf, .ref h_la_xs, .ref h_la_ys, .ref h_la_differs, u_la_sequence, .int la_count])), (h_la_symbolOf, .inl (c_la_symbolOf, 40, .inl la_symbolOf)), (h_la_xs, .inl (c_la_xs, 40, .inl la_xs)), (h_la_ys, .inl (c_la_ys, 40, .inl la_ys)), (h_la_differs, .inl (c_la_differs, 40, .inr (.inl la_differs)))] s.heap.size = A at hD eQ
  have hA : ∀ q : Nat, s.heap.size ≤ q → A q := fun q h => by rw [← hAe]; exact Or.inr h
  have hS : va_S A s.heap s.heap [] := va_S.rf
  have hl := lv_entry ([.ref h_la, .int p0, .int p1, .int p2]) (n := 4) (Nat.le_of_ble_eq_true rfl)
  rw [lg_entry_eq]
  generalize (lg_sl ([.ref h_la, .int p0, .int p1, .int p2]) ++ List.replicate (4 - (lg_sl ([.ref h_la, .int p0, .int p1, .int p2])).length) Slot.unset).toArray = ls at hl ⊢
  have hl : lv_has ls 4 [(0, .ref h_la), (1, .int p0), (2, .int p1), (3, .int p2)] := hl
  have h := hf
  unfold f_Layout_add at h
  refine lv_aload_n hx hb d_Layout_add_0 rfl (lv_at hl 0 rfl) ?_
  refine va_get (D := (dC, dI)) (ci := 8) (v := .ref h_la_symbolOf) (C := R_Layout) (T := T_Layout) (N := 8) hx hb hB iw_Layout hown hK hP 0 rfl rfl 2 (by decide) (hB _ bw_218) (fun _ h9 => h9) rfl d_Layout_add_1 ?_
  refine lv_aload_n hx hb d_Layout_add_4 rfl (lv_at hl 0 rfl) ?_
  refine va_get (D := (dC, dI)) (ci := 8) (v := .int la_count) (C := R_Layout) (T := T_Layout) (N := 8) hx hb hB iw_Layout hown hK hP 0 rfl rfl 7 (by decide) (hB _ bw_238) (fun _ h9 => h9) rfl d_Layout_add_5 ?_
  refine lv_iload_n hx hb d_Layout_add_8 rfl (lv_at hl 1 rfl) ?_
  obtain ⟨hin, h⟩ := gq_e h
  refine va_iast hx hb hK hP hD hS 1 0 rfl rfl hin d_Layout_add_9 (fun H locs hP hD hS => ?_)
  have hP : va_P (dC, dI) CL [(h_la, .inr (8, [u_la_symbols, u_la_ways, .ref h_la_symbolOf, .ref h_la_xs, .ref h_la_ys, .ref h_la_differs, u_la_sequence, .int la_count])), (h_la_symbolOf, .inl (c_la_symbolOf, 40, .inl (upd la_symbolOf (la_count).toNatClampNeg p0))), (h_la_xs, .inl (c_la_xs, 40, .inl la_xs)), (h_la_ys, .inl (c_la_ys, 40, .inl la_ys)), (h_la_differs, .inl (c_la_differs, 40, .inr (.inl la_differs)))] H := hP
  have hD : va_D A [(h_la, .inr (8, [u_la_symbols, u_la_ways, .ref h_la_symbolOf, .ref h_la_xs, .ref h_la_ys, .ref h_la_differs, u_la_sequence, .int la_count])), (h_la_symbolOf, .inl (c_la_symbolOf, 40, .inl (upd la_symbolOf (la_count).toNatClampNeg p0))), (h_la_xs, .inl (c_la_xs, 40, .inl la_xs)), (h_la_ys, .inl (c_la_ys, 40, .inl la_ys)), (h_la_differs, .inl (c_la_differs, 40, .inr (.inl la_differs)))] := hD
  refine lv_aload_n hx hb d_Layout_add_10 rfl (lv_at hl 0 rfl) ?_
  refine va_get (D := (dC, dI)) (ci := 8) (v := .ref h_la_xs) (C := R_Layout) (T := T_Layout) (N := 8) hx hb hB iw_Layout hown hK hP 0 rfl rfl 3 (by decide) (hB _ bw_224) (fun _ h9 => h9) rfl d_Layout_add_11 ?_
  refine lv_aload_n hx hb d_Layout_add_14 rfl (lv_at hl 0 rfl) ?_
  refine va_get (D := (dC, dI)) (ci := 8) (v := .int la_count) (C := R_Layout) (T := T_Layout) (N := 8) hx hb hB iw_Layout hown hK hP 0 rfl rfl 7 (by decide) (hB _ bw_238) (fun _ h9 => h9) rfl d_Layout_add_15 ?_
  refine lv_iload_n hx hb d_Layout_add_18 rfl (lv_at hl 2 rfl) ?_
  obtain ⟨hin, h⟩ := gq_e h
  refine va_iast hx hb hK hP hD hS 2 1 rfl rfl hin d_Layout_add_19 (fun H locs hP hD hS => ?_)
  have hP : va_P (dC, dI) CL [(h_la, .inr (8, [u_la_symbols, u_la_ways, .ref h_la_symbolOf, .ref h_la_xs, .ref h_la_ys, .ref h_la_differs, u_la_sequence, .int la_count])), (h_la_symbolOf, .inl (c_la_symbolOf, 40, .inl (upd la_symbolOf (la_count).toNatClampNeg p0))), (h_la_xs, .inl (c_la_xs, 40, .inl (upd la_xs (la_count).toNatClampNeg p1))), (h_la_ys, .inl (c_la_ys, 40, .inl la_ys)), (h_la_differs, .inl (c_la_differs, 40, .inr (.inl la_differs)))] H := hP
  have hD : va_D A [(h_la, .inr (8, [u_la_symbols, u_la_ways, .ref h_la_symbolOf, .ref h_la_xs, .ref h_la_ys, .ref h_la_differs, u_la_sequence, .int la_count])), (h_la_symbolOf, .inl (c_la_symbolOf, 40, .inl (upd la_symbolOf (la_count).toNatClampNeg p0))), (h_la_xs, .inl (c_la_xs, 40, .inl (upd la_xs (la_count).toNatClampNeg p1))), (h_la_ys, .inl (c_la_ys, 40, .inl la_ys)), (h_la_differs, .inl (c_la_differs, 40, .inr (.inl la_differs)))] := hD
  refine lv_aload_n hx hb d_Layout_add_20 rfl (lv_at hl 0 rfl) ?_
  refine va_get (D := (dC, dI)) (ci := 8) (v := .ref h_la_ys) (C := R_Layout) (T := T_Layout) (N := 8) hx hb hB iw_Layout hown hK hP 0 rfl rfl 4 (by decide) (hB _ bw_227) (fun _ h9 => h9) rfl d_Layout_add_21 ?_
  refine lv_aload_n hx hb d_Layout_add_24 rfl (lv_at hl 0 rfl) ?_
  refine va_get (D := (dC, dI)) (ci := 8) (v := .int la_count) (C := R_Layout) (T := T_Layout) (N := 8) hx hb hB iw_Layout hown hK hP 0 rfl rfl 7 (by decide) (hB _ bw_238) (fun _ h9 => h9) rfl d_Layout_add_25 ?_
  refine lv_iload_n hx hb d_Layout_add_28 rfl (lv_at hl 3 rfl) ?_
  obtain ⟨hin, h⟩ := gq_e h
  refine va_iast hx hb hK hP hD hS 3 2 rfl rfl hin d_Layout_add_29 (fun H locs hP hD hS => ?_)
  have hP : va_P (dC, dI) CL [(h_la, .inr (8, [u_la_symbols, u_la_ways, .ref h_la_symbolOf, .ref h_la_xs, .ref h_la_ys, .ref h_la_differs, u_la_sequence, .int la_count])), (h_la_symbolOf, .inl (c_la_symbolOf, 40, .inl (upd la_symbolOf (la_count).toNatClampNeg p0))), (h_la_xs, .inl (c_la_xs, 40, .inl (upd la_xs (la_count).toNatClampNeg p1))), (h_la_ys, .inl (c_la_ys, 40, .inl (upd la_ys (la_count).toNatClampNeg p2))), (h_la_differs, .inl (c_la_differs, 40, .inr (.inl la_differs)))] H := hP
  have hD : va_D A [(h_la, .inr (8, [u_la_symbols, u_la_ways, .ref h_la_symbolOf, .ref h_la_xs, .ref h_la_ys, .ref h_la_differs, u_la_sequence, .int la_count])), (h_la_symbolOf, .inl (c_la_symbolOf, 40, .inl (upd la_symbolOf (la_count).toNatClampNeg p0))), (h_la_xs, .inl (c_la_xs, 40, .inl (upd la_xs (la_count).toNatClampNeg p1))), (h_la_ys, .inl (c_la_ys, 40, .inl (upd la_ys (la_count).toNatClampNeg p2))), (h_la_differs, .inl (c_la_differs, 40, .inr (.inl la_differs)))] := hD
  refine lv_aload_n hx hb d_Layout_add_30 rfl (lv_at hl 0 rfl) ?_
  refine va_get (D := (dC, dI)) (ci := 8) (v := .ref h_la_differs) (C := R_Layout) (T := T_Layout) (N := 8) hx hb hB iw_Layout hown hK hP 0 rfl rfl 5 (by decide) (hB _ bw_230) (fun _ h9 => h9) rfl d_Layout_add_31 ?_
  refine lv_aload_n hx hb d_Layout_add_34 rfl (lv_at hl 0 rfl) ?_
  refine va_get (D := (dC, dI)) (ci := 8) (v := .int la_count) (C := R_Layout) (T := T_Layout) (N := 8) hx hb hB iw_Layout hown hK hP 0 rfl rfl 7 (by decide) (hB _ bw_238) (fun _ h9 => h9) rfl d_Layout_add_35 ?_
  refine lv_lconst (v := 0) hx hb d_Layout_add_38 (by decide) ?_
  obtain ⟨hin, h⟩ := gq_e h
  refine va_last hx hb hK hP hD hS 4 3 rfl rfl hin d_Layout_add_39 (fun H locs hP hD hS => ?_)
  have hP : va_P (dC, dI) CL [(h_la, .inr (8, [u_la_symbols, u_la_ways, .ref h_la_symbolOf, .ref h_la_xs, .ref h_la_ys, .ref h_la_differs, u_la_sequence, .int la_count])), (h_la_symbolOf, .inl (c_la_symbolOf, 40, .inl (upd la_symbolOf (la_count).toNatClampNeg p0))), (h_la_xs, .inl (c_la_xs, 40, .inl (upd la_xs (la_count).toNatClampNeg p1))), (h_la_ys, .inl (c_la_ys, 40, .inl (upd la_ys (la_count).toNatClampNeg p2))), (h_la_differs, .inl (c_la_differs, 40, .inr (.inl (vp_updL la_differs (la_count).toNatClampNeg (0 : Int64)))))] H := hP
  have hD : va_D A [(h_la, .inr (8, [u_la_symbols, u_la_ways, .ref h_la_symbolOf, .ref h_la_xs, .ref h_la_ys, .ref h_la_differs, u_la_sequence, .int la_count])), (h_la_symbolOf, .inl (c_la_symbolOf, 40, .inl (upd la_symbolOf (la_count).toNatClampNeg p0))), (h_la_xs, .inl (c_la_xs, 40, .inl (upd la_xs (la_count).toNatClampNeg p1))), (h_la_ys, .inl (c_la_ys, 40, .inl (upd la_ys (la_count).toNatClampNeg p2))), (h_la_differs, .inl (c_la_differs, 40, .inr (.inl (vp_updL la_differs (la_count).toNatClampNeg (0 : Int64)))))] := hD
  refine lv_aload_n hx hb d_Layout_add_40 rfl (lv_at hl 0 rfl) ?_
  refine lv_dup hx hb d_Layout_add_41 rfl ?_
  refine va_get (D := (dC, dI)) (ci := 8) (v := .int la_count) (C := R_Layout) (T := T_Layout) (N := 8) hx hb hB iw_Layout hown hK hP 0 rfl rfl 7 (by decide) (hB _ bw_238) (fun _ h9 => h9) rfl d_Layout_add_42 ?_
  refine lv_iconst (v := 1) hx hb d_Layout_add_45 (by decide) ?_
  refine lv_iadd hx hb d_Layout_add_46 ?_
  refine lv_topi (fun count_1 e_count_1 => ?_)
  have h := nl_u e_count_1 h
  refine va_put (D := (dC, dI)) (ci := 8) (v := .int count_1) (ty := .int) (C := R_Layout) (T := T_Layout) (N := 8) hx hb hB iw_Layout ty_Layout tk_Layout n_Layout hown hK hP hD hS 0 rfl rfl 7 (by decide) (hB _ bw_238) (fun _ h9 => h9) rfl (by decide +kernel) rfl rfl (Nat.le_of_ble_eq_true rfl) d_Layout_add_47 (fun H locs hP hD hS => ?_)
  have hP : va_P (dC, dI) CL [(h_la, .inr (8, [u_la_symbols, u_la_ways, .ref h_la_symbolOf, .ref h_la_xs, .ref h_la_ys, .ref h_la_differs, u_la_sequence, .int count_1])), (h_la_symbolOf, .inl (c_la_symbolOf, 40, .inl (upd la_symbolOf (la_count).toNatClampNeg p0))), (h_la_xs, .inl (c_la_xs, 40, .inl (upd la_xs (la_count).toNatClampNeg p1))), (h_la_ys, .inl (c_la_ys, 40, .inl (upd la_ys (la_count).toNatClampNeg p2))), (h_la_differs, .inl (c_la_differs, 40, .inr (.inl (vp_updL la_differs (la_count).toNatClampNeg (0 : Int64)))))] H := hP
  have hD : va_D A [(h_la, .inr (8, [u_la_symbols, u_la_ways, .ref h_la_symbolOf, .ref h_la_xs, .ref h_la_ys, .ref h_la_differs, u_la_sequence, .int count_1])), (h_la_symbolOf, .inl (c_la_symbolOf, 40, .inl (upd la_symbolOf (la_count).toNatClampNeg p0))), (h_la_xs, .inl (c_la_xs, 40, .inl (upd la_xs (la_count).toNatClampNeg p1))), (h_la_ys, .inl (c_la_ys, 40, .inl (upd la_ys (la_count).toNatClampNeg p2))), (h_la_differs, .inl (c_la_differs, 40, .inr (.inl (vp_updL la_differs (la_count).toNatClampNeg (0 : Int64)))))] := hD
  refine lv_aload_n hx hb d_Layout_add_50 rfl (lv_at hl 0 rfl) ?_
  refine va_get (D := (dC, dI)) (ci := 8) (v := .int count_1) (C := R_Layout) (T := T_Layout) (N := 8) hx hb hB iw_Layout hown hK hP 0 rfl rfl 7 (by decide) (hB _ bw_238) (fun _ h9 => h9) rfl d_Layout_add_51 ?_
  refine lv_iconst (v := 1) hx hb d_Layout_add_54 (by decide) ?_
  refine lv_isub hx hb d_Layout_add_55 ?_
  subst eQ
  exact W.iret (v := (count_1 - (1 : Int32))) hx hb hr (fun t ht hW => ⟨⟨_, (count_1, (upd la_symbolOf (la_count).toNatClampNeg p0), (upd la_xs (la_count).toNatClampNeg p1), (upd la_ys (la_count).toNatClampNeg p2), (vp_updL la_differs (la_count).toNatClampNeg (0 : Int64))), rfl, Option.some.inj h, by rw [ht]; exact hP, va_K.moved hW.alike hK, hD⟩, hS.F ht⟩) hS.2.2 d_Layout_add_56
set_option maxHeartbeats 4000000 in
set_option maxRecDepth 100000 in
theorem c_Layout_isTurned (l : Launch) (dC : Nat → ClassId) (dI : Nat → Nat → Nat) (h_la : Nat) (h_la_ways : Nat) (c_la_ways : ClassId) (u_la_symbols : Value) (u_la_symbolOf : Value) (u_la_xs : Value) (u_la_ys : Value) (u_la_differs : Value) (u_la_sequence : Value) (u_la_count : Value) (la_ways : (Nat → Int32)) (o : Int32) (hf : f_Layout_isTurned la_ways = some o) :
    Met l y_Layout_isTurned ws_Layout_isTurned { frames := 0, cells := 0, slots := 0, locals := 0 } (va_Pc [.ref h_la] (PcP (dC, dI) [(h_la, .inr (8, [u_la_symbols, .ref h_la_ways, u_la_symbolOf, u_la_xs, u_la_ys, u_la_differs, u_la_sequence, u_la_count])), (h_la_ways, .inl (c_la_ways, 4, .inl la_ways))] [(c_la_ways, .int)]))
      (vp_Si (fun r => r = o)) 0 0 (fun _ => False) := by
  refine Met.ofW (cc := b_Layout_isTurned) (maxL := 1) (ret := (some .boolean)) (by decide) rfl ?_
  intro p e s m args below meth c s₁ B hml hv
  obtain ⟨rfl, hP, hK, hnw⟩ := hv
  have hx := B.exec
  have hb := B.bytes
  have hr := B.returns
  have hts := atoms_spec (ws := ws_Layout_isTurned) B.pre
  have hB : ∀ w ∈ BIG, w.before _ s = true := fun w h => hts w (List.mem_cons_of_mem _ h)
  have hown : s.vm.findClass R_Layout = some m.cls := findClass_of_methodNamed B.named
  have hlocks := B.notSynchronized
  refine W_Q (fun Q9 eQ => ?_)
  have hl := lv_entry ([.ref h_la]) (n := 1) (Nat.le_of_ble_eq_true rfl)
  rw [lg_entry_eq]
  generalize (lg_sl ([.ref h_la]) ++ List.replicate (1 - (lg_sl ([.ref h_la])).length) Slot.unset).toArray = ls at hl ⊢
  have hl : lv_has ls 1 [(0, .ref h_la)] := hl
  have h := hf
  unfold f_Layout_isTurned at h
  refine lv_aload_n hx hb d_Layout_isTurned_0 rfl (lv_at hl 0 rfl) ?_
  refine va_get (D := (dC, dI)) (ci := 8) (v := .ref h_la_ways) (C := R_Layout) (T := T_Layout) (N := 8) hx hb hB iw_Layout hown hK hP 0 rfl rfl 1 (by decide) (hB _ bw_213) (fun _ h9 => h9) rfl d_Layout_isTurned_1 ?_
  refine lv_iconst (v := 1) hx hb d_Layout_isTurned_4 (by decide) ?_
  obtain ⟨hin, h⟩ := gq_e h
  refine va_iald hx hb hK hP 1 0 rfl rfl hin d_Layout_isTurned_5 ?_
  refine lv_if_eq (tgt := 13) hx hb d_Layout_isTurned_6 (by decide) (fun c_1 => ?_) (fun c_1 => ?_)
  · have h := if_t h c_1
    refine lv_iconst (v := 0) hx hb d_Layout_isTurned_13 (by decide) ?_
    subst eQ
    exact W.zret (v := (0 : Int32)) hx hb hr rfl (fun t ht hW => ⟨_, rfl, Option.some.inj h, ht⟩) (fun _ h9 => absurd h9 List.not_mem_nil) d_Layout_isTurned_14
  · have h := if_f h c_1
    refine lv_iconst (v := 1) hx hb d_Layout_isTurned_9 (by decide) ?_
    refine lv_goto (tgt := 14) hx hb d_Layout_isTurned_10 (by decide) ?_
    subst eQ
    exact W.zret (v := (1 : Int32)) hx hb hr rfl (fun t ht hW => ⟨_, rfl, Option.some.inj h, ht⟩) (fun _ h9 => absurd h9 List.not_mem_nil) d_Layout_isTurned_14
set_option maxHeartbeats 4000000 in
set_option maxRecDepth 100000 in
theorem c_Layout_cornerColumn (l : Launch) (dC : Nat → ClassId) (dI : Nat → Nat → Nat) (h_la : Nat) (h_la_ways : Nat) (h_di : Nat) (h_di_widths : Nat) (c_la_ways : ClassId) (c_di_widths : ClassId) (u_la_symbolOf : Value) (u_la_xs : Value) (u_la_ys : Value) (u_la_differs : Value) (u_la_sequence : Value) (u_la_count : Value) (u_di_heights : Value) (u_di_samples : Value) (u_di_count : Value) (la_ways : (Nat → Int32)) (di_widths : (Nat → Int32)) (p0 : Int32) (o : Int32) (hf : f_Layout_cornerColumn la_ways di_widths p0 = some o) :
    Met l y_Layout_cornerColumn ws_Layout_cornerColumn { frames := 0, cells := 0, slots := 0, locals := 0 } (va_Pc [.ref h_la, .int p0] (PcP (dC, dI) [(h_la, .inr (8, [.ref h_di, .ref h_la_ways, u_la_symbolOf, u_la_xs, u_la_ys, u_la_differs, u_la_sequence, u_la_count])), (h_la_ways, .inl (c_la_ways, 4, .inl la_ways)), (h_di, .inr (6, [.ref h_di_widths, u_di_heights, u_di_samples, u_di_count])), (h_di_widths, .inl (c_di_widths, 16, .inl di_widths))] [(c_la_ways, .int), (c_di_widths, .int)]))
      (vp_Si (fun r => r = o)) 0 0 (fun _ => False) := by
  refine Met.ofW (cc := b_Layout_cornerColumn) (maxL := 2) (ret := (some .int)) (by decide) rfl ?_
  intro p e s m args below meth c s₁ B hml hv
  obtain ⟨rfl, hP, hK, hnw⟩ := hv
  have hx := B.exec
  have hb := B.bytes
  have hr := B.returns
  have hts := atoms_spec (ws := ws_Layout_cornerColumn) B.pre
  have hB : ∀ w ∈ BIG, w.before _ s = true := fun w h => hts w (List.mem_cons_of_mem _ h)
  have hown : s.vm.findClass R_Layout = some m.cls := findClass_of_methodNamed B.named
  have hlocks := B.notSynchronized
  refine W_Q (fun Q9 eQ => ?_)
  have hl := lv_entry ([.ref h_la, .int p0]) (n := 2) (Nat.le_of_ble_eq_true rfl)
  rw [lg_entry_eq]
  generalize (lg_sl ([.ref h_la, .int p0]) ++ List.replicate (2 - (lg_sl ([.ref h_la, .int p0])).length) Slot.unset).toArray = ls at hl ⊢
  have hl : lv_has ls 2 [(0, .ref h_la), (1, .int p0)] := hl
  have h := hf
  unfold f_Layout_cornerColumn at h
  refine lv_aload_n hx hb d_Layout_cornerColumn_0 rfl (lv_at hl 0 rfl) ?_
  refine va_get (D := (dC, dI)) (ci := 8) (v := .ref h_la_ways) (C := R_Layout) (T := T_Layout) (N := 8) hx hb hB iw_Layout hown hK hP 0 rfl rfl 1 (by decide) (hB _ bw_213) (fun _ h9 => h9) rfl d_Layout_cornerColumn_1 ?_
  refine lv_iconst (v := 0) hx hb d_Layout_cornerColumn_4 (by decide) ?_
  obtain ⟨hin, h⟩ := gq_e h
  refine va_iald hx hb hK hP 1 0 rfl rfl hin d_Layout_cornerColumn_5 ?_
  refine lv_iconst (v := 2) hx hb d_Layout_cornerColumn_6 (by decide) ?_
  refine lv_icmp_lt (tgt := 24) hx hb d_Layout_cornerColumn_7 (by decide) (fun c_1 => ?_) (fun c_1 => ?_)
  · have h := if_t h c_1
    refine lv_iconst (v := 0) hx hb d_Layout_cornerColumn_24 (by decide) ?_
    subst eQ
    exact W.iret (v := (0 : Int32)) hx hb hr (fun t ht hW => ⟨_, rfl, Option.some.inj h, ht⟩) (fun _ h9 => absurd h9 List.not_mem_nil) d_Layout_cornerColumn_25
  · have h := if_f h c_1
    refine lv_aload_n hx hb d_Layout_cornerColumn_10 rfl (lv_at hl 0 rfl) ?_
    refine va_get (D := (dC, dI)) (ci := 8) (v := .ref h_di) (C := R_Layout) (T := T_Layout) (N := 8) hx hb hB iw_Layout hown hK hP 0 rfl rfl 0 (by decide) (hB _ bw_209) (fun _ h9 => h9) rfl d_Layout_cornerColumn_11 ?_
    refine va_getN (D := (dC, dI)) (ci := 6) (v := .ref h_di_widths) (C := R_Dictionary) (T := T_Dictionary) (N := 4) hx hb hB iw_Dictionary hown hK hP 2 rfl rfl 0 (by decide) (va_Nw.use rfl (hnw.1 _ bn_46)) (fun _ h9 => h9) rfl d_Layout_cornerColumn_14 ?_
    refine lv_iload_n hx hb d_Layout_cornerColumn_17 rfl (lv_at hl 1 rfl) ?_
    obtain ⟨hin, h⟩ := gq_e h
    refine va_iald hx hb hK hP 3 1 rfl rfl hin d_Layout_cornerColumn_18 ?_
    refine lv_iconst (v := 1) hx hb d_Layout_cornerColumn_19 (by decide) ?_
    refine lv_isub hx hb d_Layout_cornerColumn_20 ?_
    refine lv_goto (tgt := 25) hx hb d_Layout_cornerColumn_21 (by decide) ?_
    subst eQ
    exact W.iret (v := ((di_widths (p0).toNatClampNeg) - (1 : Int32))) hx hb hr (fun t ht hW => ⟨_, rfl, Option.some.inj h, ht⟩) (fun _ h9 => absurd h9 List.not_mem_nil) d_Layout_cornerColumn_25
set_option maxHeartbeats 4000000 in
set_option maxRecDepth 100000 in
theorem c_Layout_cornerRow (l : Launch) (dC : Nat → ClassId) (dI : Nat → Nat → Nat) (h_la : Nat) (h_la_ways : Nat) (h_di : Nat) (h_di_heights : Nat) (c_la_ways : ClassId) (c_di_heights : ClassId) (u_la_symbolOf : Value) (u_la_xs : Value) (u_la_ys : Value) (u_la_differs : Value) (u_la_sequence : Value) (u_la_count : Value) (u_di_widths : Value) (u_di_samples : Value) (u_di_count : Value) (la_ways : (Nat → Int32)) (di_heights : (Nat → Int32)) (p0 : Int32) (o : Int32) (hf : f_Layout_cornerRow la_ways di_heights p0 = some o) :
    Met l y_Layout_cornerRow ws_Layout_cornerRow { frames := 0, cells := 0, slots := 0, locals := 0 } (va_Pc [.ref h_la, .int p0] (PcP (dC, dI) [(h_la, .inr (8, [.ref h_di, .ref h_la_ways, u_la_symbolOf, u_la_xs, u_la_ys, u_la_differs, u_la_sequence, u_la_count])), (h_la_ways, .inl (c_la_ways, 4, .inl la_ways)), (h_di, .inr (6, [u_di_widths, .ref h_di_heights, u_di_samples, u_di_count])), (h_di_heights, .inl (c_di_heights, 16, .inl di_heights))] [(c_la_ways, .int), (c_di_heights, .int)]))
      (vp_Si (fun r => r = o)) 0 0 (fun _ => False) := by
  refine Met.ofW (cc := b_Layout_cornerRow) (maxL := 2) (ret := (some .int)) (by decide) rfl ?_
  intro p e s m args below meth c s₁ B hml hv
  obtain ⟨rfl, hP, hK, hnw⟩ := hv
  have hx := B.exec
  have hb := B.bytes
  have hr := B.returns
  have hts := atoms_spec (ws := ws_Layout_cornerRow) B.pre
  have hB : ∀ w ∈ BIG, w.before _ s = true := fun w h => hts w (List.mem_cons_of_mem _ h)
  have hown : s.vm.findClass R_Layout = some m.cls := findClass_of_methodNamed B.named
  have hlocks := B.notSynchronized
  refine W_Q (fun Q9 eQ => ?_)
  have hl := lv_entry ([.ref h_la, .int p0]) (n := 2) (Nat.le_of_ble_eq_true rfl)
  rw [lg_entry_eq]
  generalize (lg_sl ([.ref h_la, .int p0]) ++ List.replicate (2 - (lg_sl ([.ref h_la, .int p0])).length) Slot.unset).toArray = ls at hl ⊢
  have hl : lv_has ls 2 [(0, .ref h_la), (1, .int p0)] := hl
  have h := hf
  unfold f_Layout_cornerRow at h
  refine lv_aload_n hx hb d_Layout_cornerRow_0 rfl (lv_at hl 0 rfl) ?_
  refine va_get (D := (dC, dI)) (ci := 8) (v := .ref h_la_ways) (C := R_Layout) (T := T_Layout) (N := 8) hx hb hB iw_Layout hown hK hP 0 rfl rfl 1 (by decide) (hB _ bw_213) (fun _ h9 => h9) rfl d_Layout_cornerRow_1 ?_
  refine lv_iconst (v := 0) hx hb d_Layout_cornerRow_4 (by decide) ?_
  obtain ⟨hin, h⟩ := gq_e h
  refine va_iald hx hb hK hP 1 0 rfl rfl hin d_Layout_cornerRow_5 ?_
  refine lv_iconst (v := 2) hx hb d_Layout_cornerRow_6 (by decide) ?_
  refine lv_irem hx hb d_Layout_cornerRow_7 (by decide) ?_
  refine lv_iconst (v := 1) hx hb d_Layout_cornerRow_8 (by decide) ?_
  refine lv_icmp_ne (tgt := 26) hx hb d_Layout_cornerRow_9 (by decide) (fun c_1 => ?_) (fun c_1 => ?_)
  · have h := if_f h c_1
    refine lv_iconst (v := 0) hx hb d_Layout_cornerRow_26 (by decide) ?_
    subst eQ
    exact W.iret (v := (0 : Int32)) hx hb hr (fun t ht hW => ⟨_, rfl, Option.some.inj h, ht⟩) (fun _ h9 => absurd h9 List.not_mem_nil) d_Layout_cornerRow_27
  · have h := if_t h c_1
    refine lv_aload_n hx hb d_Layout_cornerRow_12 rfl (lv_at hl 0 rfl) ?_
    refine va_get (D := (dC, dI)) (ci := 8) (v := .ref h_di) (C := R_Layout) (T := T_Layout) (N := 8) hx hb hB iw_Layout hown hK hP 0 rfl rfl 0 (by decide) (hB _ bw_209) (fun _ h9 => h9) rfl d_Layout_cornerRow_13 ?_
    refine va_getN (D := (dC, dI)) (ci := 6) (v := .ref h_di_heights) (C := R_Dictionary) (T := T_Dictionary) (N := 4) hx hb hB iw_Dictionary hown hK hP 2 rfl rfl 1 (by decide) (va_Nw.use rfl (hnw.1 _ bn_49)) (fun _ h9 => h9) rfl d_Layout_cornerRow_16 ?_
    refine lv_iload_n hx hb d_Layout_cornerRow_19 rfl (lv_at hl 1 rfl) ?_
    obtain ⟨hin, h⟩ := gq_e h
    refine va_iald hx hb hK hP 3 1 rfl rfl hin d_Layout_cornerRow_20 ?_
    refine lv_iconst (v := 1) hx hb d_Layout_cornerRow_21 (by decide) ?_
    refine lv_isub hx hb d_Layout_cornerRow_22 ?_
    refine lv_goto (tgt := 27) hx hb d_Layout_cornerRow_23 (by decide) ?_
    subst eQ
    exact W.iret (v := ((di_heights (p0).toNatClampNeg) - (1 : Int32))) hx hb hr (fun t ht hW => ⟨_, rfl, Option.some.inj h, ht⟩) (fun _ h9 => absurd h9 List.not_mem_nil) d_Layout_cornerRow_27
set_option maxHeartbeats 4000000 in
set_option maxRecDepth 100000 in
theorem c_Layout_addByCorner (l : Launch) (dC : Nat → ClassId) (dI : Nat → Nat → Nat) (h_la : Nat) (h_la_ways : Nat) (h_di : Nat) (h_di_widths : Nat) (h_di_heights : Nat) (h_la_symbolOf : Nat) (h_la_xs : Nat) (h_la_ys : Nat) (h_la_differs : Nat) (c_la_ways : ClassId) (c_di_widths : ClassId) (c_di_heights : ClassId) (c_la_symbolOf : ClassId) (c_la_xs : ClassId) (c_la_ys : ClassId) (c_la_differs : ClassId) (u_la_sequence : Value) (u_di_samples : Value) (u_di_count : Value) (la_count : Int32) (la_ways : (Nat → Int32)) (di_widths : (Nat → Int32)) (di_heights : (Nat → Int32)) (la_symbolOf : (Nat → Int32)) (la_xs : (Nat → Int32)) (la_ys : (Nat → Int32)) (la_differs : (Nat → Int64)) (p0 : Int32) (p1 : Int32) (p2 : Int32) (sz : Nat) (o : Int32 × Int32 × (Nat → Int32) × (Nat → Int32) × (Nat → Int32) × (Nat → Int64)) (hf : f_Layout_addByCorner la_count la_ways di_widths di_heights la_symbolOf la_xs la_ys la_differs p0 p1 p2 = some o) :
    Met l y_Layout_addByCorner ws_Layout_addByCorner { frames := 2, cells := 0, slots := 0, locals := 42 } (va_Pc [.ref h_la, .int p0, .int p1, .int p2] (PcM (dC, dI) [(h_la, .inr (8, [.ref h_di, .ref h_la_ways, .ref h_la_symbolOf, .ref h_la_xs, .ref h_la_ys, .ref h_la_differs, u_la_sequence, .int la_count])), (h_la_ways, .inl (c_la_ways, 4, .inl la_ways)), (h_di, .inr (6, [.ref h_di_widths, .ref h_di_heights, u_di_samples, u_di_count])), (h_di_widths, .inl (c_di_widths, 16, .inl di_widths)), (h_di_heights, .inl (c_di_heights, 16, .inl di_heights)), (h_la_symbolOf, .inl (c_la_symbolOf, 40, .inl la_symbolOf)), (h_la_xs, .inl (c_la_xs, 40, .inl la_xs)), (h_la_ys, .inl (c_la_ys, 40, .inl la_ys)), (h_la_differs, .inl (c_la_differs, 40, .inr (.inl la_differs)))] [(c_la_ways, .int), (c_di_widths, .int), (c_di_heights, .int), (c_la_symbolOf, .int), (c_la_xs, .int), (c_la_ys, .int), (c_la_differs, .long)] sz))
      (va_Qi (fun (r : Int32) (u : Int32 × (Nat → Int32) × (Nat → Int32) × (Nat → Int32) × (Nat → Int64)) => (r, u) = o) (fun u t => va_P (dC, dI) CL [(h_la, .inr (8, [.ref h_di, .ref h_la_ways, .ref h_la_symbolOf, .ref h_la_xs, .ref h_la_ys, .ref h_la_differs, u_la_sequence, .int (u.1)])), (h_la_ways, .inl (c_la_ways, 4, .inl la_ways)), (h_di, .inr (6, [.ref h_di_widths, .ref h_di_heights, u_di_samples, u_di_count])), (h_di_widths, .inl (c_di_widths, 16, .inl di_widths)), (h_di_heights, .inl (c_di_heights, 16, .inl di_heights)), (h_la_symbolOf, .inl (c_la_symbolOf, 40, .inl (u.2.1))), (h_la_xs, .inl (c_la_xs, 40, .inl (u.2.2.1))), (h_la_ys, .inl (c_la_ys, 40, .inl (u.2.2.2.1))), (h_la_differs, .inl (c_la_differs, 40, .inr (.inl (u.2.2.2.2))))] t.heap ∧ va_K (dC, dI) CL [(c_la_ways, .int), (c_di_widths, .int), (c_di_heights, .int), (c_la_symbolOf, .int), (c_la_xs, .int), (c_la_ys, .int), (c_la_differs, .long)] t ∧ va_D (va_A [(h_la, .inr (8, [.ref h_di, .ref h_la_ways, .ref h_la_symbolOf, .ref h_la_xs, .ref h_la_ys, .ref h_la_differs, u_la_sequence, .int la_count])), (h_la_ways, .inl (c_la_ways, 4, .inl la_ways)), (h_di, .inr (6, [.ref h_di_widths, .ref h_di_heights, u_di_samples, u_di_count])), (h_di_widths, .inl (c_di_widths, 16, .inl di_widths)), (h_di_heights, .inl (c_di_heights, 16, .inl di_heights)), (h_la_symbolOf, .inl (c_la_symbolOf, 40, .inl la_symbolOf)), (h_la_xs, .inl (c_la_xs, 40, .inl la_xs)), (h_la_ys, .inl (c_la_ys, 40, .inl la_ys)), (h_la_differs, .inl (c_la_differs, 40, .inr (.inl la_differs)))] sz) [(h_la, .inr (8, [.ref h_di, .ref h_la_ways, .ref h_la_symbolOf, .ref h_la_xs, .ref h_la_ys, .ref h_la_differs, u_la_sequence, .int (u.1)])), (h_la_ways, .inl (c_la_ways, 4, .inl la_ways)), (h_di, .inr (6, [.ref h_di_widths, .ref h_di_heights, u_di_samples, u_di_count])), (h_di_widths, .inl (c_di_widths, 16, .inl di_widths)), (h_di_heights, .inl (c_di_heights, 16, .inl di_heights)), (h_la_symbolOf, .inl (c_la_symbolOf, 40, .inl (u.2.1))), (h_la_xs, .inl (c_la_xs, 40, .inl (u.2.2.1))), (h_la_ys, .inl (c_la_ys, 40, .inl (u.2.2.2.1))), (h_la_differs, .inl (c_la_differs, 40, .inr (.inl (u.2.2.2.2))))]) (va_A [(h_la, .inr (8, [.ref h_di, .ref h_la_ways, .ref h_la_symbolOf, .ref h_la_xs, .ref h_la_ys, .ref h_la_differs, u_la_sequence, .int la_count])), (h_la_ways, .inl (c_la_ways, 4, .inl la_ways)), (h_di, .inr (6, [.ref h_di_widths, .ref h_di_heights, u_di_samples, u_di_count])), (h_di_widths, .inl (c_di_widths, 16, .inl di_widths)), (h_di_heights, .inl (c_di_heights, 16, .inl di_heights)), (h_la_symbolOf, .inl (c_la_symbolOf, 40, .inl la_symbolOf)), (h_la_xs, .inl (c_la_xs, 40, .inl la_xs)), (h_la_ys, .inl (c_la_ys, 40, .inl la_ys)), (h_la_differs, .inl (c_la_differs, 40, .inr (.inl la_differs)))] sz)) 0 0 (va_A [(h_la, .inr (8, [.ref h_di, .ref h_la_ways, .ref h_la_symbolOf, .ref h_la_xs, .ref h_la_ys, .ref h_la_differs, u_la_sequence, .int la_count])), (h_la_ways, .inl (c_la_ways, 4, .inl la_ways)), (h_di, .inr (6, [.ref h_di_widths, .ref h_di_heights, u_di_samples, u_di_count])), (h_di_widths, .inl (c_di_widths, 16, .inl di_widths)), (h_di_heights, .inl (c_di_heights, 16, .inl di_heights)), (h_la_symbolOf, .inl (c_la_symbolOf, 40, .inl la_symbolOf)), (h_la_xs, .inl (c_la_xs, 40, .inl la_xs)), (h_la_ys, .inl (c_la_ys, 40, .inl la_ys)), (h_la_differs, .inl (c_la_differs, 40, .inr (.inl la_differs)))] sz) := by
  refine Met.ofW (cc := b_Layout_addByCorner) (maxL := 6) (ret := (some .boolean)) (by decide) rfl ?_
  intro p e s m args below meth c s₁ B hml hv
  obtain ⟨rfl, hsz, hP, hK, hD0, hnw⟩ := hv
  have hx := B.exec
  have hb := B.bytes
  have hr := B.returns
  have hts := atoms_spec (ws := ws_Layout_addByCorner) B.pre
  have hB : ∀ w ∈ BIG, w.before _ s = true := fun w h => hts w (List.mem_cons_of_mem _ h)
  have hown : s.vm.findClass R_Layout = some m.cls := findClass_of_methodNamed B.named
  have hlocks := B.notSynchronized
  subst hsz
  have hD := hD0.self (sz := s.heap.size)
  refine W_Q (fun Q9 eQ => ?_)
  generalize hAe : va_A [(h_la, .inr (8, [.ref h_di, .ref h_la_ways, .ref h_la_symbolOf, .ref h_la_xs, .ref h_la_ys, .ref h_la_differs, u_la_sequence, .int la_count])), (h_la_ways, .inl (c_la_ways, 4, .inl la_ways)), (h_di, .inr (6, [.ref h_di_widths, .ref h_di_heights, u_di_samples, u_di_count])), (h_di_widths, .inl (c_di_widths, 16, .inl di_widths)), (h_di_heights, .inl (c_di_heights, 16, .inl di_heights)), (h_la_symbolOf, .inl (c_la_symbolOf, 40, .inl la_symbolOf)), (h_la_xs, .inl (c_la_xs, 40, .inl la_xs)), (h_la_ys, .inl (c_la_ys, 40, .inl la_ys)), (h_la_differs, .inl (c_la_differs, 40, .inr (.inl la_differs)))] s.heap.size = A at hD eQ
  have hA : ∀ q : Nat, s.heap.size ≤ q → A q := fun q h => by rw [← hAe]; exact Or.inr h
  have hS : va_S A s.heap s.heap [] := va_S.rf
  have hl := lv_entry ([.ref h_la, .int p0, .int p1, .int p2]) (n := 6) (Nat.le_of_ble_eq_true rfl)
  rw [lg_entry_eq]
  generalize (lg_sl ([.ref h_la, .int p0, .int p1, .int p2]) ++ List.replicate (6 - (lg_sl ([.ref h_la, .int p0, .int p1, .int p2])).length) Slot.unset).toArray = ls at hl ⊢
  have hl : lv_has ls 6 [(0, .ref h_la), (1, .int p0), (2, .int p1), (3, .int p2)] := hl
  have h := hf
  unfold f_Layout_addByCorner at h
  refine lv_aload_n hx hb d_Layout_addByCorner_0 rfl (lv_at hl 0 rfl) ?_
  obtain ⟨o9, hc9, h⟩ := bd_e h
  have hPc := hP.sub (ws' := [(h_la, .inr (8, [.ref h_di, .ref h_la_ways, .ref h_la_symbolOf, .ref h_la_xs, .ref h_la_ys, .ref h_la_differs, u_la_sequence, .int la_count])), (h_la_ways, .inl (c_la_ways, 4, .inl la_ways))]) [0, 1] rfl
  have hKc := hK.sub (tys' := [(c_la_ways, .int)]) [0] rfl
  refine vp_callSi (va_Run.run (va_runV (As := []) (rest := []) ⟨hx, hb, hml, hown, hB⟩ (c_Layout_isTurned l dC dI h_la h_la_ways c_la_ways (.ref h_di) (.ref h_la_symbolOf) (.ref h_la_xs) (.ref h_la_ys) (.ref h_la_differs) u_la_sequence (.int la_count) la_ways o9 hc9) (cwV 0 hB (goodA (m4 bw_307 bw_309 bs_3 bw_12) (goodB bw_310)) rfl rfl rfl (by decide +kernel) ⟨Nat.le_of_ble_eq_true rfl, Nat.le_of_ble_eq_true rfl⟩) ⟨fb_p, va_recv hK hP (ci := 8) (q0 := 0) rfl rfl, (pre_p hPc hKc hnw [.ref h_la])⟩ rfl rfl hl.1 rfl (lv_room (Nat.le_of_ble_eq_true rfl)) d_Layout_addByCorner_1 ⟨Nat.zero_le _, Nat.zero_le _⟩)) (fun r_1 e_r_1 => ?_)
  subst e_r_1
  clear hPc hKc hc9
  obtain ⟨j12, e_j12, h⟩ := jn_e h
  have w_j12 : ∀ (s_2 : Int32) (H : Heap) (locs : List Loc) (ls : Array Slot), j12 s_2 = some o → va_P (dC, dI) CL [(h_la, .inr (8, [.ref h_di, .ref h_la_ways, .ref h_la_symbolOf, .ref h_la_xs, .ref h_la_ys, .ref h_la_differs, u_la_sequence, .int la_count])), (h_la_ways, .inl (c_la_ways, 4, .inl la_ways)), (h_di, .inr (6, [.ref h_di_widths, .ref h_di_heights, u_di_samples, u_di_count])), (h_di_widths, .inl (c_di_widths, 16, .inl di_widths)), (h_di_heights, .inl (c_di_heights, 16, .inl di_heights)), (h_la_symbolOf, .inl (c_la_symbolOf, 40, .inl la_symbolOf)), (h_la_xs, .inl (c_la_xs, 40, .inl la_xs)), (h_la_ys, .inl (c_la_ys, 40, .inl la_ys)), (h_la_differs, .inl (c_la_differs, 40, .inr (.inl la_differs)))] H → va_D A [(h_la, .inr (8, [.ref h_di, .ref h_la_ways, .ref h_la_symbolOf, .ref h_la_xs, .ref h_la_ys, .ref h_la_differs, u_la_sequence, .int la_count])), (h_la_ways, .inl (c_la_ways, 4, .inl la_ways)), (h_di, .inr (6, [.ref h_di_widths, .ref h_di_heights, u_di_samples, u_di_count])), (h_di_widths, .inl (c_di_widths, 16, .inl di_widths)), (h_di_heights, .inl (c_di_heights, 16, .inl di_heights)), (h_la_symbolOf, .inl (c_la_symbolOf, 40, .inl la_symbolOf)), (h_la_xs, .inl (c_la_xs, 40, .inl la_xs)), (h_la_ys, .inl (c_la_ys, 40, .inl la_ys)), (h_la_differs, .inl (c_la_differs, 40, .inr (.inl la_differs)))] → va_S A s.heap H locs → lv_has ls 6 [(0, .ref h_la), (1, .int p0), (2, .int p1), (3, .int p2)] → W p l e ({ frames := 2, cells := 0, slots := 0, locals := 42 } : Room) s m ([.ref h_la, .int p0, .int p1, .int p2] : List Value).toArray below meth c H locs 0 0 Q9 (F0 m 12 ls [.int s_2]) := by
    intro s_2 H locs ls h hP hD hS hl
    rw [e_j12] at h
    refine lv_aload_n hx hb d_Layout_addByCorner_12 rfl (lv_at hl 0 rfl) ?_
    refine lv_iload_n hx hb d_Layout_addByCorner_13 rfl (lv_at hl 1 rfl) ?_
    obtain ⟨o9, hc9, h⟩ := bd_e h
    have hPc := hP.sub (ws' := [(h_la, .inr (8, [.ref h_di, .ref h_la_ways, .ref h_la_symbolOf, .ref h_la_xs, .ref h_la_ys, .ref h_la_differs, u_la_sequence, .int la_count])), (h_la_ways, .inl (c_la_ways, 4, .inl la_ways)), (h_di, .inr (6, [.ref h_di_widths, .ref h_di_heights, u_di_samples, u_di_count])), (h_di_widths, .inl (c_di_widths, 16, .inl di_widths))]) [0, 1, 2, 3] rfl
    have hKc := hK.sub (tys' := [(c_la_ways, .int), (c_di_widths, .int)]) [0, 1] rfl
    refine vp_callSi (va_Run.run (va_runV (As := [.int p0]) (rest := [.int s_2]) ⟨hx, hb, hml, hown, hB⟩ (c_Layout_cornerColumn l dC dI h_la h_la_ways h_di h_di_widths c_la_ways c_di_widths (.ref h_la_symbolOf) (.ref h_la_xs) (.ref h_la_ys) (.ref h_la_differs) u_la_sequence (.int la_count) (.ref h_di_heights) u_di_samples u_di_count la_ways di_widths p0 o9 hc9) (cwV 1 hB (goodA (m4 bw_311 bw_313 bs_4 bw_12) (goodB bw_314)) rfl rfl rfl (by decide +kernel) ⟨Nat.le_of_ble_eq_true rfl, Nat.le_of_ble_eq_true rfl⟩) ⟨fb_p, va_recv hK hP (ci := 8) (q0 := 0) rfl rfl, (pre_p hPc hKc hnw [.ref h_la, .int p0])⟩ rfl rfl hl.1 rfl (lv_room (Nat.le_of_ble_eq_true rfl)) d_Layout_addByCorner_14 ⟨Nat.zero_le _, Nat.zero_le _⟩)) (fun r_3 e_r_3 => ?_)
    subst e_r_3
    clear hPc hKc hc9
    refine lv_isub hx hb d_Layout_addByCorner_17 ?_
    refine lv_topi (fun v4_4 e_v4_4 => ?_)
    have h := nl_u e_v4_4 h
    refine lv_istore (lv' := [(4, .int v4_4), (0, .ref h_la), (1, .int p0), (2, .int p1), (3, .int p2)]) hx hb d_Layout_addByCorner_18 hl (by decide) rfl (fun ls hl => ?_)
    refine lv_aload_n hx hb d_Layout_addByCorner_20 rfl (lv_at hl 1 rfl) ?_
    obtain ⟨o9, hc9, h⟩ := bd_e h
    have hPc := hP.sub (ws' := [(h_la, .inr (8, [.ref h_di, .ref h_la_ways, .ref h_la_symbolOf, .ref h_la_xs, .ref h_la_ys, .ref h_la_differs, u_la_sequence, .int la_count])), (h_la_ways, .inl (c_la_ways, 4, .inl la_ways))]) [0, 1] rfl
    have hKc := hK.sub (tys' := [(c_la_ways, .int)]) [0] rfl
    refine vp_callSi (va_Run.run (va_runV (As := []) (rest := []) ⟨hx, hb, hml, hown, hB⟩ (c_Layout_isTurned l dC dI h_la h_la_ways c_la_ways (.ref h_di) (.ref h_la_symbolOf) (.ref h_la_xs) (.ref h_la_ys) (.ref h_la_differs) u_la_sequence (.int la_count) la_ways o9 hc9) (cwV 0 hB (goodA (m4 bw_307 bw_309 bs_3 bw_12) (goodB bw_310)) rfl rfl rfl (by decide +kernel) ⟨Nat.le_of_ble_eq_true rfl, Nat.le_of_ble_eq_true rfl⟩) ⟨fb_p, va_recv hK hP (ci := 8) (q0 := 0) rfl rfl, (pre_p hPc hKc hnw [.ref h_la])⟩ rfl rfl hl.1 rfl (lv_room (Nat.le_of_ble_eq_true rfl)) d_Layout_addByCorner_21 ⟨Nat.zero_le _, Nat.zero_le _⟩)) (fun r_5 e_r_5 => ?_)
    subst e_r_5
    clear hPc hKc hc9
    obtain ⟨j32, e_j32, h⟩ := jn_e h
    have w_j32 : ∀ (s_6 : Int32) (H : Heap) (locs : List Loc) (ls : Array Slot), j32 s_6 = some o → va_P (dC, dI) CL [(h_la, .inr (8, [.ref h_di, .ref h_la_ways, .ref h_la_symbolOf, .ref h_la_xs, .ref h_la_ys, .ref h_la_differs, u_la_sequence, .int la_count])), (h_la_ways, .inl (c_la_ways, 4, .inl la_ways)), (h_di, .inr (6, [.ref h_di_widths, .ref h_di_heights, u_di_samples, u_di_count])), (h_di_widths, .inl (c_di_widths, 16, .inl di_widths)), (h_di_heights, .inl (c_di_heights, 16, .inl di_heights)), (h_la_symbolOf, .inl (c_la_symbolOf, 40, .inl la_symbolOf)), (h_la_xs, .inl (c_la_xs, 40, .inl la_xs)), (h_la_ys, .inl (c_la_ys, 40, .inl la_ys)), (h_la_differs, .inl (c_la_differs, 40, .inr (.inl la_differs)))] H → va_D A [(h_la, .inr (8, [.ref h_di, .ref h_la_ways, .ref h_la_symbolOf, .ref h_la_xs, .ref h_la_ys, .ref h_la_differs, u_la_sequence, .int la_count])), (h_la_ways, .inl (c_la_ways, 4, .inl la_ways)), (h_di, .inr (6, [.ref h_di_widths, .ref h_di_heights, u_di_samples, u_di_count])), (h_di_widths, .inl (c_di_widths, 16, .inl di_widths)), (h_di_heights, .inl (c_di_heights, 16, .inl di_heights)), (h_la_symbolOf, .inl (c_la_symbolOf, 40, .inl la_symbolOf)), (h_la_xs, .inl (c_la_xs, 40, .inl la_xs)), (h_la_ys, .inl (c_la_ys, 40, .inl la_ys)), (h_la_differs, .inl (c_la_differs, 40, .inr (.inl la_differs)))] → va_S A s.heap H locs → lv_has ls 6 [(4, .int v4_4), (0, .ref h_la), (1, .int p0)] → W p l e ({ frames := 2, cells := 0, slots := 0, locals := 42 } : Room) s m ([.ref h_la, .int p0, .int p1, .int p2] : List Value).toArray below meth c H locs 0 0 Q9 (F0 m 32 ls [.int s_6]) := by
      intro s_6 H locs ls h hP hD hS hl
      rw [e_j32] at h
      refine lv_aload_n hx hb d_Layout_addByCorner_32 rfl (lv_at hl 1 rfl) ?_
      refine lv_iload_n hx hb d_Layout_addByCorner_33 rfl (lv_at hl 2 rfl) ?_
      obtain ⟨o9, hc9, h⟩ := bd_e h
      have hPc := hP.sub (ws' := [(h_la, .inr (8, [.ref h_di, .ref h_la_ways, .ref h_la_symbolOf, .ref h_la_xs, .ref h_la_ys, .ref h_la_differs, u_la_sequence, .int la_count])), (h_la_ways, .inl (c_la_ways, 4, .inl la_ways)), (h_di, .inr (6, [.ref h_di_widths, .ref h_di_heights, u_di_samples, u_di_count])), (h_di_heights, .inl (c_di_heights, 16, .inl di_heights))]) [0, 1, 2, 4] rfl
      have hKc := hK.sub (tys' := [(c_la_ways, .int), (c_di_heights, .int)]) [0, 2] rfl
      refine vp_callSi (va_Run.run (va_runV (As := [.int p0]) (rest := [.int s_6]) ⟨hx, hb, hml, hown, hB⟩ (c_Layout_cornerRow l dC dI h_la h_la_ways h_di h_di_heights c_la_ways c_di_heights (.ref h_la_symbolOf) (.ref h_la_xs) (.ref h_la_ys) (.ref h_la_differs) u_la_sequence (.int la_count) (.ref h_di_widths) u_di_samples u_di_count la_ways di_heights p0 o9 hc9) (cwV 1 hB (goodA (m4 bw_315 bw_317 bs_5 bw_12) (goodB bw_318)) rfl rfl rfl (by decide +kernel) ⟨Nat.le_of_ble_eq_true rfl, Nat.le_of_ble_eq_true rfl⟩) ⟨fb_p, va_recv hK hP (ci := 8) (q0 := 0) rfl rfl, (pre_p hPc hKc hnw [.ref h_la, .int p0])⟩ rfl rfl hl.1 rfl (lv_room (Nat.le_of_ble_eq_true rfl)) d_Layout_addByCorner_34 ⟨Nat.zero_le _, Nat.zero_le _⟩)) (fun r_7 e_r_7 => ?_)
      subst e_r_7
      clear hPc hKc hc9
      refine lv_isub hx hb d_Layout_addByCorner_37 ?_
      refine lv_topi (fun v5_8 e_v5_8 => ?_)
      have h := nl_u e_v5_8 h
      refine lv_istore (lv' := [(5, .int v5_8), (4, .int v4_4), (0, .ref h_la), (1, .int p0)]) hx hb d_Layout_addByCorner_38 hl (by decide) rfl (fun ls hl => ?_)
      refine lv_aload_n hx hb d_Layout_addByCorner_40 rfl (lv_at hl 2 rfl) ?_
      refine va_get (D := (dC, dI)) (ci := 8) (v := .int la_count) (C := R_Layout) (T := T_Layout) (N := 8) hx hb hB iw_Layout hown hK hP 0 rfl rfl 7 (by decide) (hB _ bw_238) (fun _ h9 => h9) rfl d_Layout_addByCorner_41 ?_
      refine lv_bipush (v := 40) hx hb d_Layout_addByCorner_44 (by decide) ?_
      refine lv_icmp_ge (tgt := 65) hx hb d_Layout_addByCorner_46 (by decide) (fun c_1 => ?_) (fun c_1 => ?_)
      · have h := if_t h c_1
        refine lv_iconst (v := 0) hx hb d_Layout_addByCorner_65 (by decide) ?_
        subst eQ
        exact W.zret (v := (0 : Int32)) hx hb hr rfl (fun t ht hW => ⟨⟨_, (la_count, la_symbolOf, la_xs, la_ys, la_differs), rfl, Option.some.inj h, by rw [ht]; exact hP, va_K.moved hW.alike hK, hD⟩, hS.F ht⟩) hS.2.2 d_Layout_addByCorner_66
      · have h := if_f h c_1
        refine lv_iload hx hb d_Layout_addByCorner_49 (lv_at hl 1 rfl) ?_
        obtain ⟨o9, hc9, h⟩ := bd_e h
        have hPc := hP.sub (ws' := []) [] rfl
        have hKc := hK.sub (tys' := []) [] rfl
        refine vp_callSi (va_Run.run (va_runSN (As := [.int v4_4]) (rest := []) ⟨hx, hb, hml, hown, hB⟩ (c_Top_isPlace l dC dI v4_4 o9 hc9) ⟨va_cnB 1 hB (goodB bw_599) rfl rfl rfl (hnw.1 _ bn_597) (hB _ bw_1) (by decide +kernel) ⟨Nat.le_of_ble_eq_true rfl, Nat.le_of_ble_eq_true rfl⟩, hB _ bw_598, trivial⟩ ⟨fb_p, (pre_p hPc hKc hnw [.int v4_4])⟩ rfl rfl hl.1 rfl (lv_room (Nat.le_of_ble_eq_true rfl)) d_Layout_addByCorner_51 ⟨Nat.zero_le _, Nat.zero_le _⟩)) (fun r_9 e_r_9 => ?_)
        subst e_r_9
        clear hPc hKc hc9
        refine lv_if_eq (tgt := 65) hx hb d_Layout_addByCorner_54 (by decide) (fun c_2 => ?_) (fun c_2 => ?_)
        · have h := if_t h c_2
          refine lv_iconst (v := 0) hx hb d_Layout_addByCorner_65 (by decide) ?_
          subst eQ
          exact W.zret (v := (0 : Int32)) hx hb hr rfl (fun t ht hW => ⟨⟨_, (la_count, la_symbolOf, la_xs, la_ys, la_differs), rfl, Option.some.inj h, by rw [ht]; exact hP, va_K.moved hW.alike hK, hD⟩, hS.F ht⟩) hS.2.2 d_Layout_addByCorner_66
        · have h := if_f h c_2
          refine lv_iload hx hb d_Layout_addByCorner_57 (lv_at hl 0 rfl) ?_
          obtain ⟨o9, hc9, h⟩ := bd_e h
          have hPc := hP.sub (ws' := []) [] rfl
          have hKc := hK.sub (tys' := []) [] rfl
          refine vp_callSi (va_Run.run (va_runSN (As := [.int v5_8]) (rest := []) ⟨hx, hb, hml, hown, hB⟩ (c_Top_isPlace l dC dI v5_8 o9 hc9) ⟨va_cnB 1 hB (goodB bw_599) rfl rfl rfl (hnw.1 _ bn_597) (hB _ bw_1) (by decide +kernel) ⟨Nat.le_of_ble_eq_true rfl, Nat.le_of_ble_eq_true rfl⟩, hB _ bw_598, trivial⟩ ⟨fb_p, (pre_p hPc hKc hnw [.int v5_8])⟩ rfl rfl hl.1 rfl (lv_room (Nat.le_of_ble_eq_true rfl)) d_Layout_addByCorner_59 ⟨Nat.zero_le _, Nat.zero_le _⟩)) (fun r_10 e_r_10 => ?_)
          subst e_r_10
          clear hPc hKc hc9
          refine lv_if_ne (tgt := 67) hx hb d_Layout_addByCorner_62 (by decide) (fun c_3 => ?_) (fun c_3 => ?_)
          · have h := if_f h c_3
            refine lv_aload_n hx hb d_Layout_addByCorner_67 rfl (lv_at hl 2 rfl) ?_
            refine lv_iload_n hx hb d_Layout_addByCorner_68 rfl (lv_at hl 3 rfl) ?_
            refine lv_iload hx hb d_Layout_addByCorner_69 (lv_at hl 1 rfl) ?_
            refine lv_iload hx hb d_Layout_addByCorner_71 (lv_at hl 0 rfl) ?_
            obtain ⟨o9, hc9, h⟩ := bd_e h
            have hPc := hP.sub (ws' := [(h_la, .inr (8, [.ref h_di, .ref h_la_ways, .ref h_la_symbolOf, .ref h_la_xs, .ref h_la_ys, .ref h_la_differs, u_la_sequence, .int la_count])), (h_la_symbolOf, .inl (c_la_symbolOf, 40, .inl la_symbolOf)), (h_la_xs, .inl (c_la_xs, 40, .inl la_xs)), (h_la_ys, .inl (c_la_ys, 40, .inl la_ys)), (h_la_differs, .inl (c_la_differs, 40, .inr (.inl la_differs)))]) [0, 5, 6, 7, 8] rfl
            have hKc := hK.sub (tys' := [(c_la_symbolOf, .int), (c_la_xs, .int), (c_la_ys, .int), (c_la_differs, .long)]) [3, 4, 5, 6] rfl
            have hDc := hD.sub (ws' := [(h_la, .inr (8, [.ref h_di, .ref h_la_ways, .ref h_la_symbolOf, .ref h_la_xs, .ref h_la_ys, .ref h_la_differs, u_la_sequence, .int la_count])), (h_la_symbolOf, .inl (c_la_symbolOf, 40, .inl la_symbolOf)), (h_la_xs, .inl (c_la_xs, 40, .inl la_xs)), (h_la_ys, .inl (c_la_ys, 40, .inl la_ys)), (h_la_differs, .inl (c_la_differs, 40, .inr (.inl la_differs)))]) [0, 5, 6, 7, 8] (by decide) rfl
            have hFc := va_free (wc := [(h_la, .inr (8, [.ref h_di, .ref h_la_ways, .ref h_la_symbolOf, .ref h_la_xs, .ref h_la_ys, .ref h_la_differs, u_la_sequence, .int la_count])), (h_la_symbolOf, .inl (c_la_symbolOf, 40, .inl la_symbolOf)), (h_la_xs, .inl (c_la_xs, 40, .inl la_xs)), (h_la_ys, .inl (c_la_ys, 40, .inl la_ys)), (h_la_differs, .inl (c_la_differs, 40, .inr (.inl la_differs)))]) hD hS hA [0, 5, 6, 7, 8] rfl
            refine va_calli (va_runV (As := [.int p0, .int v4_4, .int v5_8]) (rest := []) ⟨hx, hb, hml, hown, hB⟩ (c_Layout_add l dC dI h_la h_la_symbolOf h_la_xs h_la_ys h_la_differs c_la_symbolOf c_la_xs c_la_ys c_la_differs (.ref h_di) (.ref h_la_ways) u_la_sequence la_count la_symbolOf la_xs la_ys la_differs p0 v4_4 v5_8 _ o9 hc9) (cwV 3 hB (goodA (m4 bw_601 bw_603 bs_44 bw_12) (goodB bw_604)) rfl rfl rfl (by decide +kernel) ⟨Nat.le_of_ble_eq_true rfl, Nat.le_of_ble_eq_true rfl⟩) ⟨fb_m, va_recv hK hP (ci := 8) (q0 := 0) rfl rfl, (pre_m hPc hKc hDc hnw [.ref h_la, .int p0, .int v4_4, .int v5_8])⟩ rfl rfl hl.1 rfl (lv_room (Nat.le_of_ble_eq_true rfl)) d_Layout_addByCorner_73 ⟨Nat.zero_le _, Nat.zero_le _⟩) hS (fun q _ h => hFc q h) hFc (fun r_11 u9 t H1 locs ht hvm hw hB hz1 hk1 hS => ?_)
            obtain ⟨la_count_12, la_symbolOf_13, la_xs_14, la_ys_15, la_differs_16⟩ := u9
            subst hw
            obtain ⟨hP1, hK1, hD1⟩ := hB
            rw [ht] at hP1
            obtain ⟨hP, hD⟩ := va_join (wr := [(h_la_ways, .inl (c_la_ways, 4, .inl la_ways)), (h_di, .inr (6, [.ref h_di_widths, .ref h_di_heights, u_di_samples, u_di_count])), (h_di_widths, .inl (c_di_widths, 16, .inl di_widths)), (h_di_heights, .inl (c_di_heights, 16, .inl di_heights))]) (w1 := [(h_la, .inr (8, [.ref h_di, .ref h_la_ways, .ref h_la_symbolOf, .ref h_la_xs, .ref h_la_ys, .ref h_la_differs, u_la_sequence, .int la_count_12])), (h_la_symbolOf, .inl (c_la_symbolOf, 40, .inl la_symbolOf_13)), (h_la_xs, .inl (c_la_xs, 40, .inl la_xs_14)), (h_la_ys, .inl (c_la_ys, 40, .inl la_ys_15)), (h_la_differs, .inl (c_la_differs, 40, .inr (.inl la_differs_16)))]) hP hD [0, 5, 6, 7, 8] [1, 2, 3, 4] rfl rfl (by decide) (by decide) hk1 hFc hP1 hD1
            have hP := hP.sub (ws' := [(h_la, .inr (8, [.ref h_di, .ref h_la_ways, .ref h_la_symbolOf, .ref h_la_xs, .ref h_la_ys, .ref h_la_differs, u_la_sequence, .int la_count_12])), (h_la_ways, .inl (c_la_ways, 4, .inl la_ways)), (h_di, .inr (6, [.ref h_di_widths, .ref h_di_heights, u_di_samples, u_di_count])), (h_di_widths, .inl (c_di_widths, 16, .inl di_widths)), (h_di_heights, .inl (c_di_heights, 16, .inl di_heights)), (h_la_symbolOf, .inl (c_la_symbolOf, 40, .inl la_symbolOf_13)), (h_la_xs, .inl (c_la_xs, 40, .inl la_xs_14)), (h_la_ys, .inl (c_la_ys, 40, .inl la_ys_15)), (h_la_differs, .inl (c_la_differs, 40, .inr (.inl la_differs_16)))]) [4, 0, 1, 2, 3, 5, 6, 7, 8] rfl
            have hD := hD.sub (ws' := [(h_la, .inr (8, [.ref h_di, .ref h_la_ways, .ref h_la_symbolOf, .ref h_la_xs, .ref h_la_ys, .ref h_la_differs, u_la_sequence, .int la_count_12])), (h_la_ways, .inl (c_la_ways, 4, .inl la_ways)), (h_di, .inr (6, [.ref h_di_widths, .ref h_di_heights, u_di_samples, u_di_count])), (h_di_widths, .inl (c_di_widths, 16, .inl di_widths)), (h_di_heights, .inl (c_di_heights, 16, .inl di_heights)), (h_la_symbolOf, .inl (c_la_symbolOf, 40, .inl la_symbolOf_13)), (h_la_xs, .inl (c_la_xs, 40, .inl la_xs_14)), (h_la_ys, .inl (c_la_ys, 40, .inl la_ys_15)), (h_la_differs, .inl (c_la_differs, 40, .inr (.inl la_differs_16)))]) [4, 0, 1, 2, 3, 5, 6, 7, 8] (by decide) rfl
            clear hPc hKc hDc hFc hc9 hP1 hK1 hD1 hk1 hz1 hvm ht
            generalize H1 = H at hP hS ⊢
            try dsimp only at h
            refine lv_pop hx hb d_Layout_addByCorner_76 rfl ?_
            refine lv_iconst (v := 1) hx hb d_Layout_addByCorner_77 (by decide) ?_
            subst eQ
            exact W.zret (v := (1 : Int32)) hx hb hr rfl (fun t ht hW => ⟨⟨_, (la_count_12, la_symbolOf_13, la_xs_14, la_ys_15, la_differs_16), rfl, Option.some.inj h, by rw [ht]; exact hP, va_K.moved hW.alike hK, hD⟩, hS.F ht⟩) hS.2.2 d_Layout_addByCorner_78
          · have h := if_t h c_3
            refine lv_iconst (v := 0) hx hb d_Layout_addByCorner_65 (by decide) ?_
            subst eQ
            exact W.zret (v := (0 : Int32)) hx hb hr rfl (fun t ht hW => ⟨⟨_, (la_count, la_symbolOf, la_xs, la_ys, la_differs), rfl, Option.some.inj h, by rw [ht]; exact hP, va_K.moved hW.alike hK, hD⟩, hS.F ht⟩) hS.2.2 d_Layout_addByCorner_66
    refine lv_if_eq (tgt := 31) hx hb d_Layout_addByCorner_24 (by decide) (fun c_4 => ?_) (fun c_4 => ?_)
    · have h := if_t h c_4
      refine lv_iload_n hx hb d_Layout_addByCorner_31 rfl (lv_at hl 4 rfl) ?_
      exact w_j32 _ _ _ _ h hP hD hS (lv_sub hl [0, 1, 2] rfl)
    · have h := if_f h c_4
      refine lv_iload_n hx hb d_Layout_addByCorner_27 rfl (lv_at hl 3 rfl) ?_
      refine lv_goto (tgt := 32) hx hb d_Layout_addByCorner_28 (by decide) ?_
      exact w_j32 _ _ _ _ h hP hD hS (lv_sub hl [0, 1, 2] rfl)
  refine lv_if_eq (tgt := 11) hx hb d_Layout_addByCorner_4 (by decide) (fun c_5 => ?_) (fun c_5 => ?_)
  · have h := if_t h c_5
    refine lv_iload_n hx hb d_Layout_addByCorner_11 rfl (lv_at hl 2 rfl) ?_
    exact w_j12 _ _ _ _ h hP hD hS hl
  · have h := if_f h c_5
    refine lv_iload_n hx hb d_Layout_addByCorner_7 rfl (lv_at hl 3 rfl) ?_
    refine lv_goto (tgt := 12) hx hb d_Layout_addByCorner_8 (by decide) ?_
    exact w_j12 _ _ _ _ h hP hD hS hl
set_option maxHeartbeats 4000000 in
set_option maxRecDepth 100000 in
theorem c_Layout_swapWithNext (l : Launch) (dC : Nat → ClassId) (dI : Nat → Nat → Nat) (h_la : Nat) (h_la_symbolOf : Nat) (h_la_xs : Nat) (h_la_ys : Nat) (h_la_differs : Nat) (c_la_symbolOf : ClassId) (c_la_xs : ClassId) (c_la_ys : ClassId) (c_la_differs : ClassId) (u_la_symbols : Value) (u_la_ways : Value) (u_la_sequence : Value) (u_la_count : Value) (la_symbolOf : (Nat → Int32)) (la_xs : (Nat → Int32)) (la_ys : (Nat → Int32)) (la_differs : (Nat → Int64)) (p0 : Int32) (sz : Nat) (o : (Nat → Int32) × (Nat → Int32) × (Nat → Int32) × (Nat → Int64)) (hf : f_Layout_swapWithNext la_symbolOf la_xs la_ys la_differs p0 = some o) :
    Met l y_Layout_swapWithNext ws_Layout_swapWithNext { frames := 0, cells := 0, slots := 0, locals := 0 } (va_Pc [.ref h_la, .int p0] (PcM (dC, dI) [(h_la, .inr (8, [u_la_symbols, u_la_ways, .ref h_la_symbolOf, .ref h_la_xs, .ref h_la_ys, .ref h_la_differs, u_la_sequence, u_la_count])), (h_la_symbolOf, .inl (c_la_symbolOf, 40, .inl la_symbolOf)), (h_la_xs, .inl (c_la_xs, 40, .inl la_xs)), (h_la_ys, .inl (c_la_ys, 40, .inl la_ys)), (h_la_differs, .inl (c_la_differs, 40, .inr (.inl la_differs)))] [(c_la_symbolOf, .int), (c_la_xs, .int), (c_la_ys, .int), (c_la_differs, .long)] sz))
      (va_Qv (fun u : (Nat → Int32) × (Nat → Int32) × (Nat → Int32) × (Nat → Int64) => u = o) (fun u t => va_P (dC, dI) CL [(h_la, .inr (8, [u_la_symbols, u_la_ways, .ref h_la_symbolOf, .ref h_la_xs, .ref h_la_ys, .ref h_la_differs, u_la_sequence, u_la_count])), (h_la_symbolOf, .inl (c_la_symbolOf, 40, .inl (u.1))), (h_la_xs, .inl (c_la_xs, 40, .inl (u.2.1))), (h_la_ys, .inl (c_la_ys, 40, .inl (u.2.2.1))), (h_la_differs, .inl (c_la_differs, 40, .inr (.inl (u.2.2.2))))] t.heap ∧ va_K (dC, dI) CL [(c_la_symbolOf, .int), (c_la_xs, .int), (c_la_ys, .int), (c_la_differs, .long)] t ∧ va_D (va_A [(h_la, .inr (8, [u_la_symbols, u_la_ways, .ref h_la_symbolOf, .ref h_la_xs, .ref h_la_ys, .ref h_la_differs, u_la_sequence, u_la_count])), (h_la_symbolOf, .inl (c_la_symbolOf, 40, .inl la_symbolOf)), (h_la_xs, .inl (c_la_xs, 40, .inl la_xs)), (h_la_ys, .inl (c_la_ys, 40, .inl la_ys)), (h_la_differs, .inl (c_la_differs, 40, .inr (.inl la_differs)))] sz) [(h_la, .inr (8, [u_la_symbols, u_la_ways, .ref h_la_symbolOf, .ref h_la_xs, .ref h_la_ys, .ref h_la_differs, u_la_sequence, u_la_count])), (h_la_symbolOf, .inl (c_la_symbolOf, 40, .inl (u.1))), (h_la_xs, .inl (c_la_xs, 40, .inl (u.2.1))), (h_la_ys, .inl (c_la_ys, 40, .inl (u.2.2.1))), (h_la_differs, .inl (c_la_differs, 40, .inr (.inl (u.2.2.2))))]) (va_A [(h_la, .inr (8, [u_la_symbols, u_la_ways, .ref h_la_symbolOf, .ref h_la_xs, .ref h_la_ys, .ref h_la_differs, u_la_sequence, u_la_count])), (h_la_symbolOf, .inl (c_la_symbolOf, 40, .inl la_symbolOf)), (h_la_xs, .inl (c_la_xs, 40, .inl la_xs)), (h_la_ys, .inl (c_la_ys, 40, .inl la_ys)), (h_la_differs, .inl (c_la_differs, 40, .inr (.inl la_differs)))] sz)) 0 0 (va_A [(h_la, .inr (8, [u_la_symbols, u_la_ways, .ref h_la_symbolOf, .ref h_la_xs, .ref h_la_ys, .ref h_la_differs, u_la_sequence, u_la_count])), (h_la_symbolOf, .inl (c_la_symbolOf, 40, .inl la_symbolOf)), (h_la_xs, .inl (c_la_xs, 40, .inl la_xs)), (h_la_ys, .inl (c_la_ys, 40, .inl la_ys)), (h_la_differs, .inl (c_la_differs, 40, .inr (.inl la_differs)))] sz) := by
  refine Met.ofW (cc := b_Layout_swapWithNext) (maxL := 7) (ret := none) (by decide) rfl ?_
  intro p e s m args below meth c s₁ B hml hv
  obtain ⟨rfl, hsz, hP, hK, hD0, hnw⟩ := hv
  have hx := B.exec
  have hb := B.bytes
  have hr := B.returns
  have hts := atoms_spec (ws := ws_Layout_swapWithNext) B.pre
  have hB : ∀ w ∈ BIG, w.before _ s = true := fun w h => hts w (List.mem_cons_of_mem _ h)
  have hown : s.vm.findClass R_Layout = some m.cls := findClass_of_methodNamed B.named
  have hlocks := B.notSynchronized
  subst hsz
  have hD := hD0.self (sz := s.heap.size)
  refine W_Q (fun Q9 eQ => ?_)
  generalize hAe : va_A [(h_la, .inr (8, [u_la_symbols, u_la_ways, .ref h_la_symbolOf, .ref h_la_xs, .ref h_la_ys, .ref h_la_differs, u_la_sequence, u_la_count])), (h_la_symbolOf, .inl (c_la_symbolOf, 40, .inl la_symbolOf)), (h_la_xs, .inl (c_la_xs, 40, .inl la_xs)), (h_la_ys, .inl (c_la_ys, 40, .inl la_ys)), (h_la_differs, .inl (c_la_differs, 40, .inr (.inl la_differs)))] s.heap.size = A at hD eQ
  have hA : ∀ q : Nat, s.heap.size ≤ q → A q := fun q h => by rw [← hAe]; exact Or.inr h
  have hS : va_S A s.heap s.heap [] := va_S.rf
  have hl := lv_entry ([.ref h_la, .int p0]) (n := 7) (Nat.le_of_ble_eq_true rfl)
  rw [lg_entry_eq]
  generalize (lg_sl ([.ref h_la, .int p0]) ++ List.replicate (7 - (lg_sl ([.ref h_la, .int p0])).length) Slot.unset).toArray = ls at hl ⊢
  have hl : lv_has ls 7 [(0, .ref h_la), (1, .int p0)] := hl
  have h := hf
  unfold f_Layout_swapWithNext at h
  refine lv_aload_n hx hb d_Layout_swapWithNext_0 rfl (lv_at hl 0 rfl) ?_
  refine va_get (D := (dC, dI)) (ci := 8) (v := .ref h_la_symbolOf) (C := R_Layout) (T := T_Layout) (N := 8) hx hb hB iw_Layout hown hK hP 0 rfl rfl 2 (by decide) (hB _ bw_218) (fun _ h9 => h9) rfl d_Layout_swapWithNext_1 ?_
  refine lv_iload_n hx hb d_Layout_swapWithNext_4 rfl (lv_at hl 1 rfl) ?_
  obtain ⟨hin, h⟩ := gq_e h
  refine va_iald hx hb hK hP 1 0 rfl rfl hin d_Layout_swapWithNext_5 ?_
  refine lv_topi (fun v2_1 e_v2_1 => ?_)
  have h := nl_u e_v2_1 h
  refine lv_istore_n (lv' := [(2, .int v2_1), (0, .ref h_la), (1, .int p0)]) hx hb d_Layout_swapWithNext_6 rfl hl (by decide) rfl (fun ls hl => ?_)
  refine lv_aload_n hx hb d_Layout_swapWithNext_7 rfl (lv_at hl 1 rfl) ?_
  refine va_get (D := (dC, dI)) (ci := 8) (v := .ref h_la_xs) (C := R_Layout) (T := T_Layout) (N := 8) hx hb hB iw_Layout hown hK hP 0 rfl rfl 3 (by decide) (hB _ bw_224) (fun _ h9 => h9) rfl d_Layout_swapWithNext_8 ?_
  refine lv_iload_n hx hb d_Layout_swapWithNext_11 rfl (lv_at hl 2 rfl) ?_
  obtain ⟨hin, h⟩ := gq_e h
  refine va_iald hx hb hK hP 2 1 rfl rfl hin d_Layout_swapWithNext_12 ?_
  refine lv_topi (fun v3_2 e_v3_2 => ?_)
  have h := nl_u e_v3_2 h
  refine lv_istore_n (lv' := [(3, .int v3_2), (2, .int v2_1), (0, .ref h_la), (1, .int p0)]) hx hb d_Layout_swapWithNext_13 rfl hl (by decide) rfl (fun ls hl => ?_)
  refine lv_aload_n hx hb d_Layout_swapWithNext_14 rfl (lv_at hl 2 rfl) ?_
  refine va_get (D := (dC, dI)) (ci := 8) (v := .ref h_la_ys) (C := R_Layout) (T := T_Layout) (N := 8) hx hb hB iw_Layout hown hK hP 0 rfl rfl 4 (by decide) (hB _ bw_227) (fun _ h9 => h9) rfl d_Layout_swapWithNext_15 ?_
  refine lv_iload_n hx hb d_Layout_swapWithNext_18 rfl (lv_at hl 3 rfl) ?_
  obtain ⟨hin, h⟩ := gq_e h
  refine va_iald hx hb hK hP 3 2 rfl rfl hin d_Layout_swapWithNext_19 ?_
  refine lv_topi (fun v4_3 e_v4_3 => ?_)
  have h := nl_u e_v4_3 h
  refine lv_istore (lv' := [(4, .int v4_3), (3, .int v3_2), (2, .int v2_1), (0, .ref h_la), (1, .int p0)]) hx hb d_Layout_swapWithNext_20 hl (by decide) rfl (fun ls hl => ?_)
  refine lv_aload_n hx hb d_Layout_swapWithNext_22 rfl (lv_at hl 3 rfl) ?_
  refine va_get (D := (dC, dI)) (ci := 8) (v := .ref h_la_differs) (C := R_Layout) (T := T_Layout) (N := 8) hx hb hB iw_Layout hown hK hP 0 rfl rfl 5 (by decide) (hB _ bw_230) (fun _ h9 => h9) rfl d_Layout_swapWithNext_23 ?_
  refine lv_iload_n hx hb d_Layout_swapWithNext_26 rfl (lv_at hl 4 rfl) ?_
  obtain ⟨hin, h⟩ := gq_e h
  refine va_lald hx hb hK hP 4 3 rfl rfl hin d_Layout_swapWithNext_27 ?_
  refine lv_topl (fun v5_4 e_v5_4 => ?_)
  have h := nl_u e_v5_4 h
  refine lv_lstore (lv' := [(5, .long v5_4), (4, .int v4_3), (3, .int v3_2), (2, .int v2_1), (0, .ref h_la), (1, .int p0)]) hx hb d_Layout_swapWithNext_28 hl (by decide) rfl (fun ls hl => ?_)
  refine lv_aload_n hx hb d_Layout_swapWithNext_30 rfl (lv_at hl 4 rfl) ?_
  refine va_get (D := (dC, dI)) (ci := 8) (v := .ref h_la_symbolOf) (C := R_Layout) (T := T_Layout) (N := 8) hx hb hB iw_Layout hown hK hP 0 rfl rfl 2 (by decide) (hB _ bw_218) (fun _ h9 => h9) rfl d_Layout_swapWithNext_31 ?_
  refine lv_iload_n hx hb d_Layout_swapWithNext_34 rfl (lv_at hl 5 rfl) ?_
  refine lv_aload_n hx hb d_Layout_swapWithNext_35 rfl (lv_at hl 4 rfl) ?_
  refine va_get (D := (dC, dI)) (ci := 8) (v := .ref h_la_symbolOf) (C := R_Layout) (T := T_Layout) (N := 8) hx hb hB iw_Layout hown hK hP 0 rfl rfl 2 (by decide) (hB _ bw_218) (fun _ h9 => h9) rfl d_Layout_swapWithNext_36 ?_
  refine lv_iload_n hx hb d_Layout_swapWithNext_39 rfl (lv_at hl 5 rfl) ?_
  refine lv_iconst (v := 1) hx hb d_Layout_swapWithNext_40 (by decide) ?_
  refine lv_iadd hx hb d_Layout_swapWithNext_41 ?_
  obtain ⟨hin, h⟩ := gq_e h
  refine va_iald hx hb hK hP 1 0 rfl rfl hin d_Layout_swapWithNext_42 ?_
  refine lv_topi (fun w_5 e_w_5 => ?_)
  have h := nl_u e_w_5 h
  obtain ⟨hin, h⟩ := gq_e h
  refine va_iast hx hb hK hP hD hS 1 0 rfl rfl hin d_Layout_swapWithNext_43 (fun H locs hP hD hS => ?_)
  have hP : va_P (dC, dI) CL [(h_la, .inr (8, [u_la_symbols, u_la_ways, .ref h_la_symbolOf, .ref h_la_xs, .ref h_la_ys, .ref h_la_differs, u_la_sequence, u_la_count])), (h_la_symbolOf, .inl (c_la_symbolOf, 40, .inl (upd la_symbolOf (p0).toNatClampNeg w_5))), (h_la_xs, .inl (c_la_xs, 40, .inl la_xs)), (h_la_ys, .inl (c_la_ys, 40, .inl la_ys)), (h_la_differs, .inl (c_la_differs, 40, .inr (.inl la_differs)))] H := hP
  have hD : va_D A [(h_la, .inr (8, [u_la_symbols, u_la_ways, .ref h_la_symbolOf, .ref h_la_xs, .ref h_la_ys, .ref h_la_differs, u_la_sequence, u_la_count])), (h_la_symbolOf, .inl (c_la_symbolOf, 40, .inl (upd la_symbolOf (p0).toNatClampNeg w_5))), (h_la_xs, .inl (c_la_xs, 40, .inl la_xs)), (h_la_ys, .inl (c_la_ys, 40, .inl la_ys)), (h_la_differs, .inl (c_la_differs, 40, .inr (.inl la_differs)))] := hD
  refine lv_aload_n hx hb d_Layout_swapWithNext_44 rfl (lv_at hl 4 rfl) ?_
  refine va_get (D := (dC, dI)) (ci := 8) (v := .ref h_la_xs) (C := R_Layout) (T := T_Layout) (N := 8) hx hb hB iw_Layout hown hK hP 0 rfl rfl 3 (by decide) (hB _ bw_224) (fun _ h9 => h9) rfl d_Layout_swapWithNext_45 ?_
  refine lv_iload_n hx hb d_Layout_swapWithNext_48 rfl (lv_at hl 5 rfl) ?_
  refine lv_aload_n hx hb d_Layout_swapWithNext_49 rfl (lv_at hl 4 rfl) ?_
  refine va_get (D := (dC, dI)) (ci := 8) (v := .ref h_la_xs) (C := R_Layout) (T := T_Layout) (N := 8) hx hb hB iw_Layout hown hK hP 0 rfl rfl 3 (by decide) (hB _ bw_224) (fun _ h9 => h9) rfl d_Layout_swapWithNext_50 ?_
  refine lv_iload_n hx hb d_Layout_swapWithNext_53 rfl (lv_at hl 5 rfl) ?_
  refine lv_iconst (v := 1) hx hb d_Layout_swapWithNext_54 (by decide) ?_
  refine lv_iadd hx hb d_Layout_swapWithNext_55 ?_
  obtain ⟨hin, h⟩ := gq_e h
  refine va_iald hx hb hK hP 2 1 rfl rfl hin d_Layout_swapWithNext_56 ?_
  refine lv_topi (fun w_6 e_w_6 => ?_)
  have h := nl_u e_w_6 h
  obtain ⟨hin, h⟩ := gq_e h
  refine va_iast hx hb hK hP hD hS 2 1 rfl rfl hin d_Layout_swapWithNext_57 (fun H locs hP hD hS => ?_)
  have hP : va_P (dC, dI) CL [(h_la, .inr (8, [u_la_symbols, u_la_ways, .ref h_la_symbolOf, .ref h_la_xs, .ref h_la_ys, .ref h_la_differs, u_la_sequence, u_la_count])), (h_la_symbolOf, .inl (c_la_symbolOf, 40, .inl (upd la_symbolOf (p0).toNatClampNeg w_5))), (h_la_xs, .inl (c_la_xs, 40, .inl (upd la_xs (p0).toNatClampNeg w_6))), (h_la_ys, .inl (c_la_ys, 40, .inl la_ys)), (h_la_differs, .inl (c_la_differs, 40, .inr (.inl la_differs)))] H := hP
  have hD : va_D A [(h_la, .inr (8, [u_la_symbols, u_la_ways, .ref h_la_symbolOf, .ref h_la_xs, .ref h_la_ys, .ref h_la_differs, u_la_sequence, u_la_count])), (h_la_symbolOf, .inl (c_la_symbolOf, 40, .inl (upd la_symbolOf (p0).toNatClampNeg w_5))), (h_la_xs, .inl (c_la_xs, 40, .inl (upd la_xs (p0).toNatClampNeg w_6))), (h_la_ys, .inl (c_la_ys, 40, .inl la_ys)), (h_la_differs, .inl (c_la_differs, 40, .inr (.inl la_differs)))] := hD
  refine lv_aload_n hx hb d_Layout_swapWithNext_58 rfl (lv_at hl 4 rfl) ?_
  refine va_get (D := (dC, dI)) (ci := 8) (v := .ref h_la_ys) (C := R_Layout) (T := T_Layout) (N := 8) hx hb hB iw_Layout hown hK hP 0 rfl rfl 4 (by decide) (hB _ bw_227) (fun _ h9 => h9) rfl d_Layout_swapWithNext_59 ?_
  refine lv_iload_n hx hb d_Layout_swapWithNext_62 rfl (lv_at hl 5 rfl) ?_
  refine lv_aload_n hx hb d_Layout_swapWithNext_63 rfl (lv_at hl 4 rfl) ?_
  refine va_get (D := (dC, dI)) (ci := 8) (v := .ref h_la_ys) (C := R_Layout) (T := T_Layout) (N := 8) hx hb hB iw_Layout hown hK hP 0 rfl rfl 4 (by decide) (hB _ bw_227) (fun _ h9 => h9) rfl d_Layout_swapWithNext_64 ?_
  refine lv_iload_n hx hb d_Layout_swapWithNext_67 rfl (lv_at hl 5 rfl) ?_
  refine lv_iconst (v := 1) hx hb d_Layout_swapWithNext_68 (by decide) ?_
  refine lv_iadd hx hb d_Layout_swapWithNext_69 ?_
  obtain ⟨hin, h⟩ := gq_e h
  refine va_iald hx hb hK hP 3 2 rfl rfl hin d_Layout_swapWithNext_70 ?_
  refine lv_topi (fun w_7 e_w_7 => ?_)
  have h := nl_u e_w_7 h
  obtain ⟨hin, h⟩ := gq_e h
  refine va_iast hx hb hK hP hD hS 3 2 rfl rfl hin d_Layout_swapWithNext_71 (fun H locs hP hD hS => ?_)
  have hP : va_P (dC, dI) CL [(h_la, .inr (8, [u_la_symbols, u_la_ways, .ref h_la_symbolOf, .ref h_la_xs, .ref h_la_ys, .ref h_la_differs, u_la_sequence, u_la_count])), (h_la_symbolOf, .inl (c_la_symbolOf, 40, .inl (upd la_symbolOf (p0).toNatClampNeg w_5))), (h_la_xs, .inl (c_la_xs, 40, .inl (upd la_xs (p0).toNatClampNeg w_6))), (h_la_ys, .inl (c_la_ys, 40, .inl (upd la_ys (p0).toNatClampNeg w_7))), (h_la_differs, .inl (c_la_differs, 40, .inr (.inl la_differs)))] H := hP
  have hD : va_D A [(h_la, .inr (8, [u_la_symbols, u_la_ways, .ref h_la_symbolOf, .ref h_la_xs, .ref h_la_ys, .ref h_la_differs, u_la_sequence, u_la_count])), (h_la_symbolOf, .inl (c_la_symbolOf, 40, .inl (upd la_symbolOf (p0).toNatClampNeg w_5))), (h_la_xs, .inl (c_la_xs, 40, .inl (upd la_xs (p0).toNatClampNeg w_6))), (h_la_ys, .inl (c_la_ys, 40, .inl (upd la_ys (p0).toNatClampNeg w_7))), (h_la_differs, .inl (c_la_differs, 40, .inr (.inl la_differs)))] := hD
  refine lv_aload_n hx hb d_Layout_swapWithNext_72 rfl (lv_at hl 4 rfl) ?_
  refine va_get (D := (dC, dI)) (ci := 8) (v := .ref h_la_differs) (C := R_Layout) (T := T_Layout) (N := 8) hx hb hB iw_Layout hown hK hP 0 rfl rfl 5 (by decide) (hB _ bw_230) (fun _ h9 => h9) rfl d_Layout_swapWithNext_73 ?_
  refine lv_iload_n hx hb d_Layout_swapWithNext_76 rfl (lv_at hl 5 rfl) ?_
  refine lv_aload_n hx hb d_Layout_swapWithNext_77 rfl (lv_at hl 4 rfl) ?_
  refine va_get (D := (dC, dI)) (ci := 8) (v := .ref h_la_differs) (C := R_Layout) (T := T_Layout) (N := 8) hx hb hB iw_Layout hown hK hP 0 rfl rfl 5 (by decide) (hB _ bw_230) (fun _ h9 => h9) rfl d_Layout_swapWithNext_78 ?_
  refine lv_iload_n hx hb d_Layout_swapWithNext_81 rfl (lv_at hl 5 rfl) ?_
  refine lv_iconst (v := 1) hx hb d_Layout_swapWithNext_82 (by decide) ?_
  refine lv_iadd hx hb d_Layout_swapWithNext_83 ?_
  obtain ⟨hin, h⟩ := gq_e h
  refine va_lald hx hb hK hP 4 3 rfl rfl hin d_Layout_swapWithNext_84 ?_
  refine lv_topl (fun w_8 e_w_8 => ?_)
  have h := nl_u e_w_8 h
  obtain ⟨hin, h⟩ := gq_e h
  refine va_last hx hb hK hP hD hS 4 3 rfl rfl hin d_Layout_swapWithNext_85 (fun H locs hP hD hS => ?_)
  have hP : va_P (dC, dI) CL [(h_la, .inr (8, [u_la_symbols, u_la_ways, .ref h_la_symbolOf, .ref h_la_xs, .ref h_la_ys, .ref h_la_differs, u_la_sequence, u_la_count])), (h_la_symbolOf, .inl (c_la_symbolOf, 40, .inl (upd la_symbolOf (p0).toNatClampNeg w_5))), (h_la_xs, .inl (c_la_xs, 40, .inl (upd la_xs (p0).toNatClampNeg w_6))), (h_la_ys, .inl (c_la_ys, 40, .inl (upd la_ys (p0).toNatClampNeg w_7))), (h_la_differs, .inl (c_la_differs, 40, .inr (.inl (vp_updL la_differs (p0).toNatClampNeg w_8))))] H := hP
  have hD : va_D A [(h_la, .inr (8, [u_la_symbols, u_la_ways, .ref h_la_symbolOf, .ref h_la_xs, .ref h_la_ys, .ref h_la_differs, u_la_sequence, u_la_count])), (h_la_symbolOf, .inl (c_la_symbolOf, 40, .inl (upd la_symbolOf (p0).toNatClampNeg w_5))), (h_la_xs, .inl (c_la_xs, 40, .inl (upd la_xs (p0).toNatClampNeg w_6))), (h_la_ys, .inl (c_la_ys, 40, .inl (upd la_ys (p0).toNatClampNeg w_7))), (h_la_differs, .inl (c_la_differs, 40, .inr (.inl (vp_updL la_differs (p0).toNatClampNeg w_8))))] := hD
  refine lv_aload_n hx hb d_Layout_swapWithNext_86 rfl (lv_at hl 4 rfl) ?_
  refine va_get (D := (dC, dI)) (ci := 8) (v := .ref h_la_symbolOf) (C := R_Layout) (T := T_Layout) (N := 8) hx hb hB iw_Layout hown hK hP 0 rfl rfl 2 (by decide) (hB _ bw_218) (fun _ h9 => h9) rfl d_Layout_swapWithNext_87 ?_
  refine lv_iload_n hx hb d_Layout_swapWithNext_90 rfl (lv_at hl 5 rfl) ?_
  refine lv_iconst (v := 1) hx hb d_Layout_swapWithNext_91 (by decide) ?_
  refine lv_iadd hx hb d_Layout_swapWithNext_92 ?_
  refine lv_iload_n hx hb d_Layout_swapWithNext_93 rfl (lv_at hl 3 rfl) ?_
  obtain ⟨hin, h⟩ := gq_e h
  refine va_iast hx hb hK hP hD hS 1 0 rfl rfl hin d_Layout_swapWithNext_94 (fun H locs hP hD hS => ?_)
  have hP : va_P (dC, dI) CL [(h_la, .inr (8, [u_la_symbols, u_la_ways, .ref h_la_symbolOf, .ref h_la_xs, .ref h_la_ys, .ref h_la_differs, u_la_sequence, u_la_count])), (h_la_symbolOf, .inl (c_la_symbolOf, 40, .inl (upd (upd la_symbolOf (p0).toNatClampNeg w_5) ((p0 + (1 : Int32))).toNatClampNeg v2_1))), (h_la_xs, .inl (c_la_xs, 40, .inl (upd la_xs (p0).toNatClampNeg w_6))), (h_la_ys, .inl (c_la_ys, 40, .inl (upd la_ys (p0).toNatClampNeg w_7))), (h_la_differs, .inl (c_la_differs, 40, .inr (.inl (vp_updL la_differs (p0).toNatClampNeg w_8))))] H := hP
  have hD : va_D A [(h_la, .inr (8, [u_la_symbols, u_la_ways, .ref h_la_symbolOf, .ref h_la_xs, .ref h_la_ys, .ref h_la_differs, u_la_sequence, u_la_count])), (h_la_symbolOf, .inl (c_la_symbolOf, 40, .inl (upd (upd la_symbolOf (p0).toNatClampNeg w_5) ((p0 + (1 : Int32))).toNatClampNeg v2_1))), (h_la_xs, .inl (c_la_xs, 40, .inl (upd la_xs (p0).toNatClampNeg w_6))), (h_la_ys, .inl (c_la_ys, 40, .inl (upd la_ys (p0).toNatClampNeg w_7))), (h_la_differs, .inl (c_la_differs, 40, .inr (.inl (vp_updL la_differs (p0).toNatClampNeg w_8))))] := hD
  refine lv_aload_n hx hb d_Layout_swapWithNext_95 rfl (lv_at hl 4 rfl) ?_
  refine va_get (D := (dC, dI)) (ci := 8) (v := .ref h_la_xs) (C := R_Layout) (T := T_Layout) (N := 8) hx hb hB iw_Layout hown hK hP 0 rfl rfl 3 (by decide) (hB _ bw_224) (fun _ h9 => h9) rfl d_Layout_swapWithNext_96 ?_
  refine lv_iload_n hx hb d_Layout_swapWithNext_99 rfl (lv_at hl 5 rfl) ?_
  refine lv_iconst (v := 1) hx hb d_Layout_swapWithNext_100 (by decide) ?_
  refine lv_iadd hx hb d_Layout_swapWithNext_101 ?_
  refine lv_iload_n hx hb d_Layout_swapWithNext_102 rfl (lv_at hl 2 rfl) ?_
  obtain ⟨hin, h⟩ := gq_e h
  refine va_iast hx hb hK hP hD hS 2 1 rfl rfl hin d_Layout_swapWithNext_103 (fun H locs hP hD hS => ?_)
  have hP : va_P (dC, dI) CL [(h_la, .inr (8, [u_la_symbols, u_la_ways, .ref h_la_symbolOf, .ref h_la_xs, .ref h_la_ys, .ref h_la_differs, u_la_sequence, u_la_count])), (h_la_symbolOf, .inl (c_la_symbolOf, 40, .inl (upd (upd la_symbolOf (p0).toNatClampNeg w_5) ((p0 + (1 : Int32))).toNatClampNeg v2_1))), (h_la_xs, .inl (c_la_xs, 40, .inl (upd (upd la_xs (p0).toNatClampNeg w_6) ((p0 + (1 : Int32))).toNatClampNeg v3_2))), (h_la_ys, .inl (c_la_ys, 40, .inl (upd la_ys (p0).toNatClampNeg w_7))), (h_la_differs, .inl (c_la_differs, 40, .inr (.inl (vp_updL la_differs (p0).toNatClampNeg w_8))))] H := hP
  have hD : va_D A [(h_la, .inr (8, [u_la_symbols, u_la_ways, .ref h_la_symbolOf, .ref h_la_xs, .ref h_la_ys, .ref h_la_differs, u_la_sequence, u_la_count])), (h_la_symbolOf, .inl (c_la_symbolOf, 40, .inl (upd (upd la_symbolOf (p0).toNatClampNeg w_5) ((p0 + (1 : Int32))).toNatClampNeg v2_1))), (h_la_xs, .inl (c_la_xs, 40, .inl (upd (upd la_xs (p0).toNatClampNeg w_6) ((p0 + (1 : Int32))).toNatClampNeg v3_2))), (h_la_ys, .inl (c_la_ys, 40, .inl (upd la_ys (p0).toNatClampNeg w_7))), (h_la_differs, .inl (c_la_differs, 40, .inr (.inl (vp_updL la_differs (p0).toNatClampNeg w_8))))] := hD
  refine lv_aload_n hx hb d_Layout_swapWithNext_104 rfl (lv_at hl 4 rfl) ?_
  refine va_get (D := (dC, dI)) (ci := 8) (v := .ref h_la_ys) (C := R_Layout) (T := T_Layout) (N := 8) hx hb hB iw_Layout hown hK hP 0 rfl rfl 4 (by decide) (hB _ bw_227) (fun _ h9 => h9) rfl d_Layout_swapWithNext_105 ?_
  refine lv_iload_n hx hb d_Layout_swapWithNext_108 rfl (lv_at hl 5 rfl) ?_
  refine lv_iconst (v := 1) hx hb d_Layout_swapWithNext_109 (by decide) ?_
  refine lv_iadd hx hb d_Layout_swapWithNext_110 ?_
  refine lv_iload hx hb d_Layout_swapWithNext_111 (lv_at hl 1 rfl) ?_
  obtain ⟨hin, h⟩ := gq_e h
  refine va_iast hx hb hK hP hD hS 3 2 rfl rfl hin d_Layout_swapWithNext_113 (fun H locs hP hD hS => ?_)
  have hP : va_P (dC, dI) CL [(h_la, .inr (8, [u_la_symbols, u_la_ways, .ref h_la_symbolOf, .ref h_la_xs, .ref h_la_ys, .ref h_la_differs, u_la_sequence, u_la_count])), (h_la_symbolOf, .inl (c_la_symbolOf, 40, .inl (upd (upd la_symbolOf (p0).toNatClampNeg w_5) ((p0 + (1 : Int32))).toNatClampNeg v2_1))), (h_la_xs, .inl (c_la_xs, 40, .inl (upd (upd la_xs (p0).toNatClampNeg w_6) ((p0 + (1 : Int32))).toNatClampNeg v3_2))), (h_la_ys, .inl (c_la_ys, 40, .inl (upd (upd la_ys (p0).toNatClampNeg w_7) ((p0 + (1 : Int32))).toNatClampNeg v4_3))), (h_la_differs, .inl (c_la_differs, 40, .inr (.inl (vp_updL la_differs (p0).toNatClampNeg w_8))))] H := hP
  have hD : va_D A [(h_la, .inr (8, [u_la_symbols, u_la_ways, .ref h_la_symbolOf, .ref h_la_xs, .ref h_la_ys, .ref h_la_differs, u_la_sequence, u_la_count])), (h_la_symbolOf, .inl (c_la_symbolOf, 40, .inl (upd (upd la_symbolOf (p0).toNatClampNeg w_5) ((p0 + (1 : Int32))).toNatClampNeg v2_1))), (h_la_xs, .inl (c_la_xs, 40, .inl (upd (upd la_xs (p0).toNatClampNeg w_6) ((p0 + (1 : Int32))).toNatClampNeg v3_2))), (h_la_ys, .inl (c_la_ys, 40, .inl (upd (upd la_ys (p0).toNatClampNeg w_7) ((p0 + (1 : Int32))).toNatClampNeg v4_3))), (h_la_differs, .inl (c_la_differs, 40, .inr (.inl (vp_updL la_differs (p0).toNatClampNeg w_8))))] := hD
  refine lv_aload_n hx hb d_Layout_swapWithNext_114 rfl (lv_at hl 4 rfl) ?_
  refine va_get (D := (dC, dI)) (ci := 8) (v := .ref h_la_differs) (C := R_Layout) (T := T_Layout) (N := 8) hx hb hB iw_Layout hown hK hP 0 rfl rfl 5 (by decide) (hB _ bw_230) (fun _ h9 => h9) rfl d_Layout_swapWithNext_115 ?_
  refine lv_iload_n hx hb d_Layout_swapWithNext_118 rfl (lv_at hl 5 rfl) ?_
  refine lv_iconst (v := 1) hx hb d_Layout_swapWithNext_119 (by decide) ?_
  refine lv_iadd hx hb d_Layout_swapWithNext_120 ?_
  refine lv_lload hx hb d_Layout_swapWithNext_121 (lv_at hl 0 rfl) ?_
  obtain ⟨hin, h⟩ := gq_e h
  refine va_last hx hb hK hP hD hS 4 3 rfl rfl hin d_Layout_swapWithNext_123 (fun H locs hP hD hS => ?_)
  have hP : va_P (dC, dI) CL [(h_la, .inr (8, [u_la_symbols, u_la_ways, .ref h_la_symbolOf, .ref h_la_xs, .ref h_la_ys, .ref h_la_differs, u_la_sequence, u_la_count])), (h_la_symbolOf, .inl (c_la_symbolOf, 40, .inl (upd (upd la_symbolOf (p0).toNatClampNeg w_5) ((p0 + (1 : Int32))).toNatClampNeg v2_1))), (h_la_xs, .inl (c_la_xs, 40, .inl (upd (upd la_xs (p0).toNatClampNeg w_6) ((p0 + (1 : Int32))).toNatClampNeg v3_2))), (h_la_ys, .inl (c_la_ys, 40, .inl (upd (upd la_ys (p0).toNatClampNeg w_7) ((p0 + (1 : Int32))).toNatClampNeg v4_3))), (h_la_differs, .inl (c_la_differs, 40, .inr (.inl (vp_updL (vp_updL la_differs (p0).toNatClampNeg w_8) ((p0 + (1 : Int32))).toNatClampNeg v5_4))))] H := hP
  have hD : va_D A [(h_la, .inr (8, [u_la_symbols, u_la_ways, .ref h_la_symbolOf, .ref h_la_xs, .ref h_la_ys, .ref h_la_differs, u_la_sequence, u_la_count])), (h_la_symbolOf, .inl (c_la_symbolOf, 40, .inl (upd (upd la_symbolOf (p0).toNatClampNeg w_5) ((p0 + (1 : Int32))).toNatClampNeg v2_1))), (h_la_xs, .inl (c_la_xs, 40, .inl (upd (upd la_xs (p0).toNatClampNeg w_6) ((p0 + (1 : Int32))).toNatClampNeg v3_2))), (h_la_ys, .inl (c_la_ys, 40, .inl (upd (upd la_ys (p0).toNatClampNeg w_7) ((p0 + (1 : Int32))).toNatClampNeg v4_3))), (h_la_differs, .inl (c_la_differs, 40, .inr (.inl (vp_updL (vp_updL la_differs (p0).toNatClampNeg w_8) ((p0 + (1 : Int32))).toNatClampNeg v5_4))))] := hD
  subst eQ
  exact W.vret hx hb hr (fun t ht hW => ⟨⟨((upd (upd la_symbolOf (p0).toNatClampNeg w_5) ((p0 + (1 : Int32))).toNatClampNeg v2_1), (upd (upd la_xs (p0).toNatClampNeg w_6) ((p0 + (1 : Int32))).toNatClampNeg v3_2), (upd (upd la_ys (p0).toNatClampNeg w_7) ((p0 + (1 : Int32))).toNatClampNeg v4_3), (vp_updL (vp_updL la_differs (p0).toNatClampNeg w_8) ((p0 + (1 : Int32))).toNatClampNeg v5_4)), rfl, Option.some.inj h, by rw [ht]; exact hP, va_K.moved hW.alike hK, hD⟩, hS.F ht⟩) hS.2.2 d_Layout_swapWithNext_124
set_option maxHeartbeats 4000000 in
set_option maxRecDepth 100000 in
theorem c_Layout_cornerS (l : Launch) (dC : Nat → ClassId) (dI : Nat → Nat → Nat) (h_la : Nat) (h_la_ways : Nat) (h_la_xs : Nat) (h_la_symbolOf : Nat) (h_di : Nat) (h_di_widths : Nat) (h_la_ys : Nat) (h_di_heights : Nat) (c_la_ways : ClassId) (c_la_xs : ClassId) (c_la_symbolOf : ClassId) (c_di_widths : ClassId) (c_la_ys : ClassId) (c_di_heights : ClassId) (u_la_differs : Value) (u_la_sequence : Value) (u_la_count : Value) (u_di_samples : Value) (u_di_count : Value) (la_ways : (Nat → Int32)) (la_xs : (Nat → Int32)) (la_symbolOf : (Nat → Int32)) (di_widths : (Nat → Int32)) (la_ys : (Nat → Int32)) (di_heights : (Nat → Int32)) (p0 : Int32) (o : Int32) (hf : f_Layout_cornerS la_ways la_xs la_symbolOf di_widths la_ys di_heights p0 = some o) :
    Met l y_Layout_cornerS ws_Layout_cornerS { frames := 1, cells := 0, slots := 0, locals := 21 } (va_Pc [.ref h_la, .int p0] (PcP (dC, dI) [(h_la, .inr (8, [.ref h_di, .ref h_la_ways, .ref h_la_symbolOf, .ref h_la_xs, .ref h_la_ys, u_la_differs, u_la_sequence, u_la_count])), (h_la_ways, .inl (c_la_ways, 4, .inl la_ways)), (h_la_xs, .inl (c_la_xs, 40, .inl la_xs)), (h_la_symbolOf, .inl (c_la_symbolOf, 40, .inl la_symbolOf)), (h_di, .inr (6, [.ref h_di_widths, .ref h_di_heights, u_di_samples, u_di_count])), (h_di_widths, .inl (c_di_widths, 16, .inl di_widths)), (h_la_ys, .inl (c_la_ys, 40, .inl la_ys)), (h_di_heights, .inl (c_di_heights, 16, .inl di_heights))] [(c_la_ways, .int), (c_la_xs, .int), (c_la_symbolOf, .int), (c_di_widths, .int), (c_la_ys, .int), (c_di_heights, .int)]))
      (vp_Si (fun r => r = o)) 0 0 (fun _ => False) := by
  refine Met.ofW (cc := b_Layout_cornerS) (maxL := 2) (ret := (some .int)) (by decide) rfl ?_
  intro p e s m args below meth c s₁ B hml hv
  obtain ⟨rfl, hP, hK, hnw⟩ := hv
  have hx := B.exec
  have hb := B.bytes
  have hr := B.returns
  have hts := atoms_spec (ws := ws_Layout_cornerS) B.pre
  have hB : ∀ w ∈ BIG, w.before _ s = true := fun w h => hts w (List.mem_cons_of_mem _ h)
  have hown : s.vm.findClass R_Layout = some m.cls := findClass_of_methodNamed B.named
  have hlocks := B.notSynchronized
  refine W_Q (fun Q9 eQ => ?_)
  have hl := lv_entry ([.ref h_la, .int p0]) (n := 2) (Nat.le_of_ble_eq_true rfl)
  rw [lg_entry_eq]
  generalize (lg_sl ([.ref h_la, .int p0]) ++ List.replicate (2 - (lg_sl ([.ref h_la, .int p0])).length) Slot.unset).toArray = ls at hl ⊢
  have hl : lv_has ls 2 [(0, .ref h_la), (1, .int p0)] := hl
  have h := hf
  unfold f_Layout_cornerS at h
  refine lv_aload_n hx hb d_Layout_cornerS_0 rfl (lv_at hl 0 rfl) ?_
  obtain ⟨o9, hc9, h⟩ := bd_e h
  have hPc := hP.sub (ws' := [(h_la, .inr (8, [.ref h_di, .ref h_la_ways, .ref h_la_symbolOf, .ref h_la_xs, .ref h_la_ys, u_la_differs, u_la_sequence, u_la_count])), (h_la_ways, .inl (c_la_ways, 4, .inl la_ways))]) [0, 1] rfl
  have hKc := hK.sub (tys' := [(c_la_ways, .int)]) [0] rfl
  refine vp_callSi (va_Run.run (va_runV (As := []) (rest := []) ⟨hx, hb, hml, hown, hB⟩ (c_Layout_isTurned l dC dI h_la h_la_ways c_la_ways (.ref h_di) (.ref h_la_symbolOf) (.ref h_la_xs) (.ref h_la_ys) u_la_differs u_la_sequence u_la_count la_ways o9 hc9) (cwV 0 hB (goodA (m4 bw_307 bw_309 bs_3 bw_12) (goodB bw_310)) rfl rfl rfl (by decide +kernel) ⟨Nat.le_of_ble_eq_true rfl, Nat.le_of_ble_eq_true rfl⟩) ⟨fb_p, va_recv hK hP (ci := 8) (q0 := 0) rfl rfl, (pre_p hPc hKc hnw [.ref h_la])⟩ rfl rfl hl.1 rfl (lv_room (Nat.le_of_ble_eq_true rfl)) d_Layout_cornerS_1 ⟨Nat.zero_le _, Nat.zero_le _⟩)) (fun r_1 e_r_1 => ?_)
  subst e_r_1
  clear hPc hKc hc9
  refine lv_if_eq (tgt := 27) hx hb d_Layout_cornerS_4 (by decide) (fun c_1 => ?_) (fun c_1 => ?_)
  · have h := if_t h c_1
    refine lv_aload_n hx hb d_Layout_cornerS_27 rfl (lv_at hl 0 rfl) ?_
    refine va_get (D := (dC, dI)) (ci := 8) (v := .ref h_la_xs) (C := R_Layout) (T := T_Layout) (N := 8) hx hb hB iw_Layout hown hK hP 0 rfl rfl 3 (by decide) (hB _ bw_224) (fun _ h9 => h9) rfl d_Layout_cornerS_28 ?_
    refine lv_iload_n hx hb d_Layout_cornerS_31 rfl (lv_at hl 1 rfl) ?_
    obtain ⟨hin, h⟩ := gq_e h
    refine va_iald hx hb hK hP 2 1 rfl rfl hin d_Layout_cornerS_32 ?_
    refine lv_aload_n hx hb d_Layout_cornerS_33 rfl (lv_at hl 0 rfl) ?_
    refine lv_aload_n hx hb d_Layout_cornerS_34 rfl (lv_at hl 0 rfl) ?_
    refine va_get (D := (dC, dI)) (ci := 8) (v := .ref h_la_symbolOf) (C := R_Layout) (T := T_Layout) (N := 8) hx hb hB iw_Layout hown hK hP 0 rfl rfl 2 (by decide) (hB _ bw_218) (fun _ h9 => h9) rfl d_Layout_cornerS_35 ?_
    refine lv_iload_n hx hb d_Layout_cornerS_38 rfl (lv_at hl 1 rfl) ?_
    obtain ⟨hin, h⟩ := gq_e h
    refine va_iald hx hb hK hP 3 2 rfl rfl hin d_Layout_cornerS_39 ?_
    obtain ⟨o9, hc9, h⟩ := bd_e h
    have hPc := hP.sub (ws' := [(h_la, .inr (8, [.ref h_di, .ref h_la_ways, .ref h_la_symbolOf, .ref h_la_xs, .ref h_la_ys, u_la_differs, u_la_sequence, u_la_count])), (h_la_ways, .inl (c_la_ways, 4, .inl la_ways)), (h_di, .inr (6, [.ref h_di_widths, .ref h_di_heights, u_di_samples, u_di_count])), (h_di_widths, .inl (c_di_widths, 16, .inl di_widths))]) [0, 1, 4, 5] rfl
    have hKc := hK.sub (tys' := [(c_la_ways, .int), (c_di_widths, .int)]) [0, 3] rfl
    refine vp_callSi (va_Run.run (va_runV (As := [.int (la_symbolOf (p0).toNatClampNeg)]) (rest := [.int (la_xs (p0).toNatClampNeg)]) ⟨hx, hb, hml, hown, hB⟩ (c_Layout_cornerColumn l dC dI h_la h_la_ways h_di h_di_widths c_la_ways c_di_widths (.ref h_la_symbolOf) (.ref h_la_xs) (.ref h_la_ys) u_la_differs u_la_sequence u_la_count (.ref h_di_heights) u_di_samples u_di_count la_ways di_widths (la_symbolOf (p0).toNatClampNeg) o9 hc9) (cwV 1 hB (goodA (m4 bw_311 bw_313 bs_4 bw_12) (goodB bw_314)) rfl rfl rfl (by decide +kernel) ⟨Nat.le_of_ble_eq_true rfl, Nat.le_of_ble_eq_true rfl⟩) ⟨fb_p, va_recv hK hP (ci := 8) (q0 := 0) rfl rfl, (pre_p hPc hKc hnw [.ref h_la, .int (la_symbolOf (p0).toNatClampNeg)])⟩ rfl rfl hl.1 rfl (lv_room (Nat.le_of_ble_eq_true rfl)) d_Layout_cornerS_40 ⟨Nat.zero_le _, Nat.zero_le _⟩)) (fun r_2 e_r_2 => ?_)
    subst e_r_2
    clear hPc hKc hc9
    refine lv_iadd hx hb d_Layout_cornerS_43 ?_
    subst eQ
    exact W.iret (v := ((la_xs (p0).toNatClampNeg) + r_2)) hx hb hr (fun t ht hW => ⟨_, rfl, Option.some.inj h, ht⟩) (fun _ h9 => absurd h9 List.not_mem_nil) d_Layout_cornerS_44
  · have h := if_f h c_1
    refine lv_aload_n hx hb d_Layout_cornerS_7 rfl (lv_at hl 0 rfl) ?_
    refine va_get (D := (dC, dI)) (ci := 8) (v := .ref h_la_ys) (C := R_Layout) (T := T_Layout) (N := 8) hx hb hB iw_Layout hown hK hP 0 rfl rfl 4 (by decide) (hB _ bw_227) (fun _ h9 => h9) rfl d_Layout_cornerS_8 ?_
    refine lv_iload_n hx hb d_Layout_cornerS_11 rfl (lv_at hl 1 rfl) ?_
    obtain ⟨hin, h⟩ := gq_e h
    refine va_iald hx hb hK hP 6 4 rfl rfl hin d_Layout_cornerS_12 ?_
    refine lv_aload_n hx hb d_Layout_cornerS_13 rfl (lv_at hl 0 rfl) ?_
    refine lv_aload_n hx hb d_Layout_cornerS_14 rfl (lv_at hl 0 rfl) ?_
    refine va_get (D := (dC, dI)) (ci := 8) (v := .ref h_la_symbolOf) (C := R_Layout) (T := T_Layout) (N := 8) hx hb hB iw_Layout hown hK hP 0 rfl rfl 2 (by decide) (hB _ bw_218) (fun _ h9 => h9) rfl d_Layout_cornerS_15 ?_
    refine lv_iload_n hx hb d_Layout_cornerS_18 rfl (lv_at hl 1 rfl) ?_
    obtain ⟨hin, h⟩ := gq_e h
    refine va_iald hx hb hK hP 3 2 rfl rfl hin d_Layout_cornerS_19 ?_
    obtain ⟨o9, hc9, h⟩ := bd_e h
    have hPc := hP.sub (ws' := [(h_la, .inr (8, [.ref h_di, .ref h_la_ways, .ref h_la_symbolOf, .ref h_la_xs, .ref h_la_ys, u_la_differs, u_la_sequence, u_la_count])), (h_la_ways, .inl (c_la_ways, 4, .inl la_ways)), (h_di, .inr (6, [.ref h_di_widths, .ref h_di_heights, u_di_samples, u_di_count])), (h_di_heights, .inl (c_di_heights, 16, .inl di_heights))]) [0, 1, 4, 7] rfl
    have hKc := hK.sub (tys' := [(c_la_ways, .int), (c_di_heights, .int)]) [0, 5] rfl
    refine vp_callSi (va_Run.run (va_runV (As := [.int (la_symbolOf (p0).toNatClampNeg)]) (rest := [.int (la_ys (p0).toNatClampNeg)]) ⟨hx, hb, hml, hown, hB⟩ (c_Layout_cornerRow l dC dI h_la h_la_ways h_di h_di_heights c_la_ways c_di_heights (.ref h_la_symbolOf) (.ref h_la_xs) (.ref h_la_ys) u_la_differs u_la_sequence u_la_count (.ref h_di_widths) u_di_samples u_di_count la_ways di_heights (la_symbolOf (p0).toNatClampNeg) o9 hc9) (cwV 1 hB (goodA (m4 bw_315 bw_317 bs_5 bw_12) (goodB bw_318)) rfl rfl rfl (by decide +kernel) ⟨Nat.le_of_ble_eq_true rfl, Nat.le_of_ble_eq_true rfl⟩) ⟨fb_p, va_recv hK hP (ci := 8) (q0 := 0) rfl rfl, (pre_p hPc hKc hnw [.ref h_la, .int (la_symbolOf (p0).toNatClampNeg)])⟩ rfl rfl hl.1 rfl (lv_room (Nat.le_of_ble_eq_true rfl)) d_Layout_cornerS_20 ⟨Nat.zero_le _, Nat.zero_le _⟩)) (fun r_3 e_r_3 => ?_)
    subst e_r_3
    clear hPc hKc hc9
    refine lv_iadd hx hb d_Layout_cornerS_23 ?_
    refine lv_goto (tgt := 44) hx hb d_Layout_cornerS_24 (by decide) ?_
    subst eQ
    exact W.iret (v := ((la_ys (p0).toNatClampNeg) + r_3)) hx hb hr (fun t ht hW => ⟨_, rfl, Option.some.inj h, ht⟩) (fun _ h9 => absurd h9 List.not_mem_nil) d_Layout_cornerS_44
set_option maxHeartbeats 4000000 in
set_option maxRecDepth 100000 in
theorem c_Layout_cornerT (l : Launch) (dC : Nat → ClassId) (dI : Nat → Nat → Nat) (h_la : Nat) (h_la_ways : Nat) (h_la_ys : Nat) (h_la_symbolOf : Nat) (h_di : Nat) (h_di_heights : Nat) (h_la_xs : Nat) (h_di_widths : Nat) (c_la_ways : ClassId) (c_la_ys : ClassId) (c_la_symbolOf : ClassId) (c_di_heights : ClassId) (c_la_xs : ClassId) (c_di_widths : ClassId) (u_la_differs : Value) (u_la_sequence : Value) (u_la_count : Value) (u_di_samples : Value) (u_di_count : Value) (la_ways : (Nat → Int32)) (la_ys : (Nat → Int32)) (la_symbolOf : (Nat → Int32)) (di_heights : (Nat → Int32)) (la_xs : (Nat → Int32)) (di_widths : (Nat → Int32)) (p0 : Int32) (o : Int32) (hf : f_Layout_cornerT la_ways la_ys la_symbolOf di_heights la_xs di_widths p0 = some o) :
    Met l y_Layout_cornerT ws_Layout_cornerT { frames := 1, cells := 0, slots := 0, locals := 21 } (va_Pc [.ref h_la, .int p0] (PcP (dC, dI) [(h_la, .inr (8, [.ref h_di, .ref h_la_ways, .ref h_la_symbolOf, .ref h_la_xs, .ref h_la_ys, u_la_differs, u_la_sequence, u_la_count])), (h_la_ways, .inl (c_la_ways, 4, .inl la_ways)), (h_la_ys, .inl (c_la_ys, 40, .inl la_ys)), (h_la_symbolOf, .inl (c_la_symbolOf, 40, .inl la_symbolOf)), (h_di, .inr (6, [.ref h_di_widths, .ref h_di_heights, u_di_samples, u_di_count])), (h_di_heights, .inl (c_di_heights, 16, .inl di_heights)), (h_la_xs, .inl (c_la_xs, 40, .inl la_xs)), (h_di_widths, .inl (c_di_widths, 16, .inl di_widths))] [(c_la_ways, .int), (c_la_ys, .int), (c_la_symbolOf, .int), (c_di_heights, .int), (c_la_xs, .int), (c_di_widths, .int)]))
      (vp_Si (fun r => r = o)) 0 0 (fun _ => False) := by
  refine Met.ofW (cc := b_Layout_cornerT) (maxL := 2) (ret := (some .int)) (by decide) rfl ?_
  intro p e s m args below meth c s₁ B hml hv
  obtain ⟨rfl, hP, hK, hnw⟩ := hv
  have hx := B.exec
  have hb := B.bytes
  have hr := B.returns
  have hts := atoms_spec (ws := ws_Layout_cornerT) B.pre
  have hB : ∀ w ∈ BIG, w.before _ s = true := fun w h => hts w (List.mem_cons_of_mem _ h)
  have hown : s.vm.findClass R_Layout = some m.cls := findClass_of_methodNamed B.named
  have hlocks := B.notSynchronized
  refine W_Q (fun Q9 eQ => ?_)
  have hl := lv_entry ([.ref h_la, .int p0]) (n := 2) (Nat.le_of_ble_eq_true rfl)
  rw [lg_entry_eq]
  generalize (lg_sl ([.ref h_la, .int p0]) ++ List.replicate (2 - (lg_sl ([.ref h_la, .int p0])).length) Slot.unset).toArray = ls at hl ⊢
  have hl : lv_has ls 2 [(0, .ref h_la), (1, .int p0)] := hl
  have h := hf
  unfold f_Layout_cornerT at h
  refine lv_aload_n hx hb d_Layout_cornerT_0 rfl (lv_at hl 0 rfl) ?_
  obtain ⟨o9, hc9, h⟩ := bd_e h
  have hPc := hP.sub (ws' := [(h_la, .inr (8, [.ref h_di, .ref h_la_ways, .ref h_la_symbolOf, .ref h_la_xs, .ref h_la_ys, u_la_differs, u_la_sequence, u_la_count])), (h_la_ways, .inl (c_la_ways, 4, .inl la_ways))]) [0, 1] rfl
  have hKc := hK.sub (tys' := [(c_la_ways, .int)]) [0] rfl
  refine vp_callSi (va_Run.run (va_runV (As := []) (rest := []) ⟨hx, hb, hml, hown, hB⟩ (c_Layout_isTurned l dC dI h_la h_la_ways c_la_ways (.ref h_di) (.ref h_la_symbolOf) (.ref h_la_xs) (.ref h_la_ys) u_la_differs u_la_sequence u_la_count la_ways o9 hc9) (cwV 0 hB (goodA (m4 bw_307 bw_309 bs_3 bw_12) (goodB bw_310)) rfl rfl rfl (by decide +kernel) ⟨Nat.le_of_ble_eq_true rfl, Nat.le_of_ble_eq_true rfl⟩) ⟨fb_p, va_recv hK hP (ci := 8) (q0 := 0) rfl rfl, (pre_p hPc hKc hnw [.ref h_la])⟩ rfl rfl hl.1 rfl (lv_room (Nat.le_of_ble_eq_true rfl)) d_Layout_cornerT_1 ⟨Nat.zero_le _, Nat.zero_le _⟩)) (fun r_1 e_r_1 => ?_)
  subst e_r_1
  clear hPc hKc hc9
  refine lv_if_eq (tgt := 27) hx hb d_Layout_cornerT_4 (by decide) (fun c_1 => ?_) (fun c_1 => ?_)
  · have h := if_t h c_1
    refine lv_aload_n hx hb d_Layout_cornerT_27 rfl (lv_at hl 0 rfl) ?_
    refine va_get (D := (dC, dI)) (ci := 8) (v := .ref h_la_ys) (C := R_Layout) (T := T_Layout) (N := 8) hx hb hB iw_Layout hown hK hP 0 rfl rfl 4 (by decide) (hB _ bw_227) (fun _ h9 => h9) rfl d_Layout_cornerT_28 ?_
    refine lv_iload_n hx hb d_Layout_cornerT_31 rfl (lv_at hl 1 rfl) ?_
    obtain ⟨hin, h⟩ := gq_e h
    refine va_iald hx hb hK hP 2 1 rfl rfl hin d_Layout_cornerT_32 ?_
    refine lv_aload_n hx hb d_Layout_cornerT_33 rfl (lv_at hl 0 rfl) ?_
    refine lv_aload_n hx hb d_Layout_cornerT_34 rfl (lv_at hl 0 rfl) ?_
    refine va_get (D := (dC, dI)) (ci := 8) (v := .ref h_la_symbolOf) (C := R_Layout) (T := T_Layout) (N := 8) hx hb hB iw_Layout hown hK hP 0 rfl rfl 2 (by decide) (hB _ bw_218) (fun _ h9 => h9) rfl d_Layout_cornerT_35 ?_
    refine lv_iload_n hx hb d_Layout_cornerT_38 rfl (lv_at hl 1 rfl) ?_
    obtain ⟨hin, h⟩ := gq_e h
    refine va_iald hx hb hK hP 3 2 rfl rfl hin d_Layout_cornerT_39 ?_
    obtain ⟨o9, hc9, h⟩ := bd_e h
    have hPc := hP.sub (ws' := [(h_la, .inr (8, [.ref h_di, .ref h_la_ways, .ref h_la_symbolOf, .ref h_la_xs, .ref h_la_ys, u_la_differs, u_la_sequence, u_la_count])), (h_la_ways, .inl (c_la_ways, 4, .inl la_ways)), (h_di, .inr (6, [.ref h_di_widths, .ref h_di_heights, u_di_samples, u_di_count])), (h_di_heights, .inl (c_di_heights, 16, .inl di_heights))]) [0, 1, 4, 5] rfl
    have hKc := hK.sub (tys' := [(c_la_ways, .int), (c_di_heights, .int)]) [0, 3] rfl
    refine vp_callSi (va_Run.run (va_runV (As := [.int (la_symbolOf (p0).toNatClampNeg)]) (rest := [.int (la_ys (p0).toNatClampNeg)]) ⟨hx, hb, hml, hown, hB⟩ (c_Layout_cornerRow l dC dI h_la h_la_ways h_di h_di_heights c_la_ways c_di_heights (.ref h_la_symbolOf) (.ref h_la_xs) (.ref h_la_ys) u_la_differs u_la_sequence u_la_count (.ref h_di_widths) u_di_samples u_di_count la_ways di_heights (la_symbolOf (p0).toNatClampNeg) o9 hc9) (cwV 1 hB (goodA (m4 bw_315 bw_317 bs_5 bw_12) (goodB bw_318)) rfl rfl rfl (by decide +kernel) ⟨Nat.le_of_ble_eq_true rfl, Nat.le_of_ble_eq_true rfl⟩) ⟨fb_p, va_recv hK hP (ci := 8) (q0 := 0) rfl rfl, (pre_p hPc hKc hnw [.ref h_la, .int (la_symbolOf (p0).toNatClampNeg)])⟩ rfl rfl hl.1 rfl (lv_room (Nat.le_of_ble_eq_true rfl)) d_Layout_cornerT_40 ⟨Nat.zero_le _, Nat.zero_le _⟩)) (fun r_2 e_r_2 => ?_)
    subst e_r_2
    clear hPc hKc hc9
    refine lv_iadd hx hb d_Layout_cornerT_43 ?_
    subst eQ
    exact W.iret (v := ((la_ys (p0).toNatClampNeg) + r_2)) hx hb hr (fun t ht hW => ⟨_, rfl, Option.some.inj h, ht⟩) (fun _ h9 => absurd h9 List.not_mem_nil) d_Layout_cornerT_44
  · have h := if_f h c_1
    refine lv_aload_n hx hb d_Layout_cornerT_7 rfl (lv_at hl 0 rfl) ?_
    refine va_get (D := (dC, dI)) (ci := 8) (v := .ref h_la_xs) (C := R_Layout) (T := T_Layout) (N := 8) hx hb hB iw_Layout hown hK hP 0 rfl rfl 3 (by decide) (hB _ bw_224) (fun _ h9 => h9) rfl d_Layout_cornerT_8 ?_
    refine lv_iload_n hx hb d_Layout_cornerT_11 rfl (lv_at hl 1 rfl) ?_
    obtain ⟨hin, h⟩ := gq_e h
    refine va_iald hx hb hK hP 6 4 rfl rfl hin d_Layout_cornerT_12 ?_
    refine lv_aload_n hx hb d_Layout_cornerT_13 rfl (lv_at hl 0 rfl) ?_
    refine lv_aload_n hx hb d_Layout_cornerT_14 rfl (lv_at hl 0 rfl) ?_
    refine va_get (D := (dC, dI)) (ci := 8) (v := .ref h_la_symbolOf) (C := R_Layout) (T := T_Layout) (N := 8) hx hb hB iw_Layout hown hK hP 0 rfl rfl 2 (by decide) (hB _ bw_218) (fun _ h9 => h9) rfl d_Layout_cornerT_15 ?_
    refine lv_iload_n hx hb d_Layout_cornerT_18 rfl (lv_at hl 1 rfl) ?_
    obtain ⟨hin, h⟩ := gq_e h
    refine va_iald hx hb hK hP 3 2 rfl rfl hin d_Layout_cornerT_19 ?_
    obtain ⟨o9, hc9, h⟩ := bd_e h
    have hPc := hP.sub (ws' := [(h_la, .inr (8, [.ref h_di, .ref h_la_ways, .ref h_la_symbolOf, .ref h_la_xs, .ref h_la_ys, u_la_differs, u_la_sequence, u_la_count])), (h_la_ways, .inl (c_la_ways, 4, .inl la_ways)), (h_di, .inr (6, [.ref h_di_widths, .ref h_di_heights, u_di_samples, u_di_count])), (h_di_widths, .inl (c_di_widths, 16, .inl di_widths))]) [0, 1, 4, 7] rfl
    have hKc := hK.sub (tys' := [(c_la_ways, .int), (c_di_widths, .int)]) [0, 5] rfl
    refine vp_callSi (va_Run.run (va_runV (As := [.int (la_symbolOf (p0).toNatClampNeg)]) (rest := [.int (la_xs (p0).toNatClampNeg)]) ⟨hx, hb, hml, hown, hB⟩ (c_Layout_cornerColumn l dC dI h_la h_la_ways h_di h_di_widths c_la_ways c_di_widths (.ref h_la_symbolOf) (.ref h_la_xs) (.ref h_la_ys) u_la_differs u_la_sequence u_la_count (.ref h_di_heights) u_di_samples u_di_count la_ways di_widths (la_symbolOf (p0).toNatClampNeg) o9 hc9) (cwV 1 hB (goodA (m4 bw_311 bw_313 bs_4 bw_12) (goodB bw_314)) rfl rfl rfl (by decide +kernel) ⟨Nat.le_of_ble_eq_true rfl, Nat.le_of_ble_eq_true rfl⟩) ⟨fb_p, va_recv hK hP (ci := 8) (q0 := 0) rfl rfl, (pre_p hPc hKc hnw [.ref h_la, .int (la_symbolOf (p0).toNatClampNeg)])⟩ rfl rfl hl.1 rfl (lv_room (Nat.le_of_ble_eq_true rfl)) d_Layout_cornerT_20 ⟨Nat.zero_le _, Nat.zero_le _⟩)) (fun r_3 e_r_3 => ?_)
    subst e_r_3
    clear hPc hKc hc9
    refine lv_iadd hx hb d_Layout_cornerT_23 ?_
    refine lv_goto (tgt := 44) hx hb d_Layout_cornerT_24 (by decide) ?_
    subst eQ
    exact W.iret (v := ((la_xs (p0).toNatClampNeg) + r_3)) hx hb hr (fun t ht hW => ⟨_, rfl, Option.some.inj h, ht⟩) (fun _ h9 => absurd h9 List.not_mem_nil) d_Layout_cornerT_44
set_option maxHeartbeats 4000000 in
set_option maxRecDepth 100000 in
theorem c_Layout_strip (l : Launch) (dC : Nat → ClassId) (dI : Nat → Nat → Nat) (h_la : Nat) (h_la_ways : Nat) (h_la_ys : Nat) (h_la_symbolOf : Nat) (h_di : Nat) (h_di_heights : Nat) (h_la_xs : Nat) (h_di_widths : Nat) (c_la_ways : ClassId) (c_la_ys : ClassId) (c_la_symbolOf : ClassId) (c_di_heights : ClassId) (c_la_xs : ClassId) (c_di_widths : ClassId) (u_la_differs : Value) (u_la_sequence : Value) (u_la_count : Value) (u_di_samples : Value) (u_di_count : Value) (la_ways : (Nat → Int32)) (la_ys : (Nat → Int32)) (la_symbolOf : (Nat → Int32)) (di_heights : (Nat → Int32)) (la_xs : (Nat → Int32)) (di_widths : (Nat → Int32)) (p0 : Int32) (o : Int32) (hf : f_Layout_strip la_ways la_ys la_symbolOf di_heights la_xs di_widths p0 = some o) :
    Met l y_Layout_strip ws_Layout_strip { frames := 2, cells := 0, slots := 0, locals := 42 } (va_Pc [.ref h_la, .int p0] (PcP (dC, dI) [(h_la, .inr (8, [.ref h_di, .ref h_la_ways, .ref h_la_symbolOf, .ref h_la_xs, .ref h_la_ys, u_la_differs, u_la_sequence, u_la_count])), (h_la_ways, .inl (c_la_ways, 4, .inl la_ways)), (h_la_ys, .inl (c_la_ys, 40, .inl la_ys)), (h_la_symbolOf, .inl (c_la_symbolOf, 40, .inl la_symbolOf)), (h_di, .inr (6, [.ref h_di_widths, .ref h_di_heights, u_di_samples, u_di_count])), (h_di_heights, .inl (c_di_heights, 16, .inl di_heights)), (h_la_xs, .inl (c_la_xs, 40, .inl la_xs)), (h_di_widths, .inl (c_di_widths, 16, .inl di_widths))] [(c_la_ways, .int), (c_la_ys, .int), (c_la_symbolOf, .int), (c_di_heights, .int), (c_la_xs, .int), (c_di_widths, .int)]))
      (vp_Si (fun r => r = o)) 0 0 (fun _ => False) := by
  refine Met.ofW (cc := b_Layout_strip) (maxL := 2) (ret := (some .int)) (by decide) rfl ?_
  intro p e s m args below meth c s₁ B hml hv
  obtain ⟨rfl, hP, hK, hnw⟩ := hv
  have hx := B.exec
  have hb := B.bytes
  have hr := B.returns
  have hts := atoms_spec (ws := ws_Layout_strip) B.pre
  have hB : ∀ w ∈ BIG, w.before _ s = true := fun w h => hts w (List.mem_cons_of_mem _ h)
  have hown : s.vm.findClass R_Layout = some m.cls := findClass_of_methodNamed B.named
  have hlocks := B.notSynchronized
  refine W_Q (fun Q9 eQ => ?_)
  have hl := lv_entry ([.ref h_la, .int p0]) (n := 2) (Nat.le_of_ble_eq_true rfl)
  rw [lg_entry_eq]
  generalize (lg_sl ([.ref h_la, .int p0]) ++ List.replicate (2 - (lg_sl ([.ref h_la, .int p0])).length) Slot.unset).toArray = ls at hl ⊢
  have hl : lv_has ls 2 [(0, .ref h_la), (1, .int p0)] := hl
  have h := hf
  unfold f_Layout_strip at h
  refine lv_aload_n hx hb d_Layout_strip_0 rfl (lv_at hl 0 rfl) ?_
  refine lv_iload_n hx hb d_Layout_strip_1 rfl (lv_at hl 1 rfl) ?_
  obtain ⟨o9, hc9, h⟩ := bd_e h
  have hPc := hP.sub (ws' := [(h_la, .inr (8, [.ref h_di, .ref h_la_ways, .ref h_la_symbolOf, .ref h_la_xs, .ref h_la_ys, u_la_differs, u_la_sequence, u_la_count])), (h_la_ways, .inl (c_la_ways, 4, .inl la_ways)), (h_la_ys, .inl (c_la_ys, 40, .inl la_ys)), (h_la_symbolOf, .inl (c_la_symbolOf, 40, .inl la_symbolOf)), (h_di, .inr (6, [.ref h_di_widths, .ref h_di_heights, u_di_samples, u_di_count])), (h_di_heights, .inl (c_di_heights, 16, .inl di_heights)), (h_la_xs, .inl (c_la_xs, 40, .inl la_xs)), (h_di_widths, .inl (c_di_widths, 16, .inl di_widths))]) [0, 1, 2, 3, 4, 5, 6, 7] rfl
  have hKc := hK.sub (tys' := [(c_la_ways, .int), (c_la_ys, .int), (c_la_symbolOf, .int), (c_di_heights, .int), (c_la_xs, .int), (c_di_widths, .int)]) [0, 1, 2, 3, 4, 5] rfl
  refine vp_callSi (va_Run.run (va_runV (As := [.int p0]) (rest := []) ⟨hx, hb, hml, hown, hB⟩ (c_Layout_cornerT l dC dI h_la h_la_ways h_la_ys h_la_symbolOf h_di h_di_heights h_la_xs h_di_widths c_la_ways c_la_ys c_la_symbolOf c_di_heights c_la_xs c_di_widths u_la_differs u_la_sequence u_la_count u_di_samples u_di_count la_ways la_ys la_symbolOf di_heights la_xs di_widths p0 o9 hc9) (cwV 1 hB (goodA (m4 bw_303 bw_305 bs_2 bw_12) (goodB bw_306)) rfl rfl rfl (by decide +kernel) ⟨Nat.le_of_ble_eq_true rfl, Nat.le_of_ble_eq_true rfl⟩) ⟨fb_p, va_recv hK hP (ci := 8) (q0 := 0) rfl rfl, (pre_p hPc hKc hnw [.ref h_la, .int p0])⟩ rfl rfl hl.1 rfl (lv_room (Nat.le_of_ble_eq_true rfl)) d_Layout_strip_2 ⟨Nat.zero_le _, Nat.zero_le _⟩)) (fun r_1 e_r_1 => ?_)
  subst e_r_1
  clear hPc hKc hc9
  refine lv_aload_n hx hb d_Layout_strip_5 rfl (lv_at hl 0 rfl) ?_
  refine va_get (D := (dC, dI)) (ci := 8) (v := .ref h_la_ways) (C := R_Layout) (T := T_Layout) (N := 8) hx hb hB iw_Layout hown hK hP 0 rfl rfl 1 (by decide) (hB _ bw_213) (fun _ h9 => h9) rfl d_Layout_strip_6 ?_
  refine lv_iconst (v := 2) hx hb d_Layout_strip_9 (by decide) ?_
  obtain ⟨hin, h⟩ := gq_e h
  refine va_iald hx hb hK hP 1 0 rfl rfl hin d_Layout_strip_10 ?_
  refine lv_ishr hx hb d_Layout_strip_11 ?_
  subst eQ
  exact W.iret (v := (r_1 >>> ((la_ways ((2 : Int32)).toNatClampNeg) &&& 31))) hx hb hr (fun t ht hW => ⟨_, rfl, Option.some.inj h, ht⟩) (fun _ h9 => absurd h9 List.not_mem_nil) d_Layout_strip_12
set_option maxHeartbeats 4000000 in
set_option maxRecDepth 100000 in
theorem c_Layout_nextS (l : Launch) (dC : Nat → ClassId) (dI : Nat → Nat → Nat) (h_la : Nat) (h_la_symbolOf : Nat) (h_la_ways : Nat) (h_la_xs : Nat) (h_di : Nat) (h_di_widths : Nat) (h_la_ys : Nat) (h_di_heights : Nat) (c_la_symbolOf : ClassId) (c_la_ways : ClassId) (c_la_xs : ClassId) (c_di_widths : ClassId) (c_la_ys : ClassId) (c_di_heights : ClassId) (u_la_differs : Value) (u_la_sequence : Value) (u_la_count : Value) (u_di_samples : Value) (u_di_count : Value) (la_symbolOf : (Nat → Int32)) (la_ways : (Nat → Int32)) (la_xs : (Nat → Int32)) (di_widths : (Nat → Int32)) (la_ys : (Nat → Int32)) (di_heights : (Nat → Int32)) (p0 : Int32) (o : Int32) (hf : f_Layout_nextS la_symbolOf la_ways la_xs di_widths la_ys di_heights p0 = some o) :
    Met l y_Layout_nextS ws_Layout_nextS { frames := 2, cells := 0, slots := 0, locals := 42 } (va_Pc [.ref h_la, .int p0] (PcP (dC, dI) [(h_la, .inr (8, [.ref h_di, .ref h_la_ways, .ref h_la_symbolOf, .ref h_la_xs, .ref h_la_ys, u_la_differs, u_la_sequence, u_la_count])), (h_la_symbolOf, .inl (c_la_symbolOf, 40, .inl la_symbolOf)), (h_la_ways, .inl (c_la_ways, 4, .inl la_ways)), (h_la_xs, .inl (c_la_xs, 40, .inl la_xs)), (h_di, .inr (6, [.ref h_di_widths, .ref h_di_heights, u_di_samples, u_di_count])), (h_di_widths, .inl (c_di_widths, 16, .inl di_widths)), (h_la_ys, .inl (c_la_ys, 40, .inl la_ys)), (h_di_heights, .inl (c_di_heights, 16, .inl di_heights))] [(c_la_symbolOf, .int), (c_la_ways, .int), (c_la_xs, .int), (c_di_widths, .int), (c_la_ys, .int), (c_di_heights, .int)]))
      (vp_Si (fun r => r = o)) 0 0 (fun _ => False) := by
  refine Met.ofW (cc := b_Layout_nextS) (maxL := 3) (ret := (some .int)) (by decide) rfl ?_
  intro p e s m args below meth c s₁ B hml hv
  obtain ⟨rfl, hP, hK, hnw⟩ := hv
  have hx := B.exec
  have hb := B.bytes
  have hr := B.returns
  have hts := atoms_spec (ws := ws_Layout_nextS) B.pre
  have hB : ∀ w ∈ BIG, w.before _ s = true := fun w h => hts w (List.mem_cons_of_mem _ h)
  have hown : s.vm.findClass R_Layout = some m.cls := findClass_of_methodNamed B.named
  have hlocks := B.notSynchronized
  refine W_Q (fun Q9 eQ => ?_)
  have hl := lv_entry ([.ref h_la, .int p0]) (n := 3) (Nat.le_of_ble_eq_true rfl)
  rw [lg_entry_eq]
  generalize (lg_sl ([.ref h_la, .int p0]) ++ List.replicate (3 - (lg_sl ([.ref h_la, .int p0])).length) Slot.unset).toArray = ls at hl ⊢
  have hl : lv_has ls 3 [(0, .ref h_la), (1, .int p0)] := hl
  have h := hf
  unfold f_Layout_nextS at h
  refine lv_aload_n hx hb d_Layout_nextS_0 rfl (lv_at hl 0 rfl) ?_
  refine va_get (D := (dC, dI)) (ci := 8) (v := .ref h_la_symbolOf) (C := R_Layout) (T := T_Layout) (N := 8) hx hb hB iw_Layout hown hK hP 0 rfl rfl 2 (by decide) (hB _ bw_218) (fun _ h9 => h9) rfl d_Layout_nextS_1 ?_
  refine lv_iload_n hx hb d_Layout_nextS_4 rfl (lv_at hl 1 rfl) ?_
  obtain ⟨hin, h⟩ := gq_e h
  refine va_iald hx hb hK hP 1 0 rfl rfl hin d_Layout_nextS_5 ?_
  refine lv_topi (fun v2_1 e_v2_1 => ?_)
  have h := nl_u e_v2_1 h
  refine lv_istore_n (lv' := [(2, .int v2_1), (0, .ref h_la), (1, .int p0)]) hx hb d_Layout_nextS_6 rfl hl (by decide) rfl (fun ls hl => ?_)
  refine lv_aload_n hx hb d_Layout_nextS_7 rfl (lv_at hl 1 rfl) ?_
  refine lv_iload_n hx hb d_Layout_nextS_8 rfl (lv_at hl 2 rfl) ?_
  obtain ⟨o9, hc9, h⟩ := bd_e h
  have hPc := hP.sub (ws' := [(h_la, .inr (8, [.ref h_di, .ref h_la_ways, .ref h_la_symbolOf, .ref h_la_xs, .ref h_la_ys, u_la_differs, u_la_sequence, u_la_count])), (h_la_ways, .inl (c_la_ways, 4, .inl la_ways)), (h_la_xs, .inl (c_la_xs, 40, .inl la_xs)), (h_la_symbolOf, .inl (c_la_symbolOf, 40, .inl la_symbolOf)), (h_di, .inr (6, [.ref h_di_widths, .ref h_di_heights, u_di_samples, u_di_count])), (h_di_widths, .inl (c_di_widths, 16, .inl di_widths)), (h_la_ys, .inl (c_la_ys, 40, .inl la_ys)), (h_di_heights, .inl (c_di_heights, 16, .inl di_heights))]) [0, 2, 3, 1, 4, 5, 6, 7] rfl
  have hKc := hK.sub (tys' := [(c_la_ways, .int), (c_la_xs, .int), (c_la_symbolOf, .int), (c_di_widths, .int), (c_la_ys, .int), (c_di_heights, .int)]) [1, 2, 0, 3, 4, 5] rfl
  refine vp_callSi (va_Run.run (va_runV (As := [.int p0]) (rest := []) ⟨hx, hb, hml, hown, hB⟩ (c_Layout_cornerS l dC dI h_la h_la_ways h_la_xs h_la_symbolOf h_di h_di_widths h_la_ys h_di_heights c_la_ways c_la_xs c_la_symbolOf c_di_widths c_la_ys c_di_heights u_la_differs u_la_sequence u_la_count u_di_samples u_di_count la_ways la_xs la_symbolOf di_widths la_ys di_heights p0 o9 hc9) (cwV 1 hB (goodA (m4 bw_493 bw_443 bs_24 bw_12) (goodB bw_444)) rfl rfl rfl (by decide +kernel) ⟨Nat.le_of_ble_eq_true rfl, Nat.le_of_ble_eq_true rfl⟩) ⟨fb_p, va_recv hK hP (ci := 8) (q0 := 0) rfl rfl, (pre_p hPc hKc hnw [.ref h_la, .int p0])⟩ rfl rfl hl.1 rfl (lv_room (Nat.le_of_ble_eq_true rfl)) d_Layout_nextS_9 ⟨Nat.zero_le _, Nat.zero_le _⟩)) (fun r_2 e_r_2 => ?_)
  subst e_r_2
  clear hPc hKc hc9
  refine lv_aload_n hx hb d_Layout_nextS_12 rfl (lv_at hl 1 rfl) ?_
  obtain ⟨o9, hc9, h⟩ := bd_e h
  have hPc := hP.sub (ws' := [(h_la, .inr (8, [.ref h_di, .ref h_la_ways, .ref h_la_symbolOf, .ref h_la_xs, .ref h_la_ys, u_la_differs, u_la_sequence, u_la_count])), (h_la_ways, .inl (c_la_ways, 4, .inl la_ways))]) [0, 2] rfl
  have hKc := hK.sub (tys' := [(c_la_ways, .int)]) [1] rfl
  refine vp_callSi (va_Run.run (va_runV (As := []) (rest := [.int r_2]) ⟨hx, hb, hml, hown, hB⟩ (c_Layout_isTurned l dC dI h_la h_la_ways c_la_ways (.ref h_di) (.ref h_la_symbolOf) (.ref h_la_xs) (.ref h_la_ys) u_la_differs u_la_sequence u_la_count la_ways o9 hc9) (cwV 0 hB (goodA (m4 bw_307 bw_309 bs_3 bw_12) (goodB bw_310)) rfl rfl rfl (by decide +kernel) ⟨Nat.le_of_ble_eq_true rfl, Nat.le_of_ble_eq_true rfl⟩) ⟨fb_p, va_recv hK hP (ci := 8) (q0 := 0) rfl rfl, (pre_p hPc hKc hnw [.ref h_la])⟩ rfl rfl hl.1 rfl (lv_room (Nat.le_of_ble_eq_true rfl)) d_Layout_nextS_13 ⟨Nat.zero_le _, Nat.zero_le _⟩)) (fun r_3 e_r_3 => ?_)
  subst e_r_3
  clear hPc hKc hc9
  refine lv_if_eq (tgt := 31) hx hb d_Layout_nextS_16 (by decide) (fun c_1 => ?_) (fun c_1 => ?_)
  · have h := if_t h c_1
    refine lv_aload_n hx hb d_Layout_nextS_31 rfl (lv_at hl 1 rfl) ?_
    refine va_get (D := (dC, dI)) (ci := 8) (v := .ref h_di) (C := R_Layout) (T := T_Layout) (N := 8) hx hb hB iw_Layout hown hK hP 0 rfl rfl 0 (by decide) (hB _ bw_209) (fun _ h9 => h9) rfl d_Layout_nextS_32 ?_
    refine va_getN (D := (dC, dI)) (ci := 6) (v := .ref h_di_widths) (C := R_Dictionary) (T := T_Dictionary) (N := 4) hx hb hB iw_Dictionary hown hK hP 4 rfl rfl 0 (by decide) (va_Nw.use rfl (hnw.1 _ bn_46)) (fun _ h9 => h9) rfl d_Layout_nextS_35 ?_
    refine lv_iload_n hx hb d_Layout_nextS_38 rfl (lv_at hl 0 rfl) ?_
    obtain ⟨hin, h⟩ := gq_e h
    refine va_iald hx hb hK hP 5 3 rfl rfl hin d_Layout_nextS_39 ?_
    refine lv_iadd hx hb d_Layout_nextS_40 ?_
    subst eQ
    exact W.iret (v := (r_2 + (di_widths (v2_1).toNatClampNeg))) hx hb hr (fun t ht hW => ⟨_, rfl, Option.some.inj h, ht⟩) (fun _ h9 => absurd h9 List.not_mem_nil) d_Layout_nextS_41
  · have h := if_f h c_1
    refine lv_aload_n hx hb d_Layout_nextS_19 rfl (lv_at hl 1 rfl) ?_
    refine va_get (D := (dC, dI)) (ci := 8) (v := .ref h_di) (C := R_Layout) (T := T_Layout) (N := 8) hx hb hB iw_Layout hown hK hP 0 rfl rfl 0 (by decide) (hB _ bw_209) (fun _ h9 => h9) rfl d_Layout_nextS_20 ?_
    refine va_getN (D := (dC, dI)) (ci := 6) (v := .ref h_di_heights) (C := R_Dictionary) (T := T_Dictionary) (N := 4) hx hb hB iw_Dictionary hown hK hP 4 rfl rfl 1 (by decide) (va_Nw.use rfl (hnw.1 _ bn_49)) (fun _ h9 => h9) rfl d_Layout_nextS_23 ?_
    refine lv_iload_n hx hb d_Layout_nextS_26 rfl (lv_at hl 0 rfl) ?_
    obtain ⟨hin, h⟩ := gq_e h
    refine va_iald hx hb hK hP 7 5 rfl rfl hin d_Layout_nextS_27 ?_
    refine lv_goto (tgt := 40) hx hb d_Layout_nextS_28 (by decide) ?_
    refine lv_iadd hx hb d_Layout_nextS_40 ?_
    subst eQ
    exact W.iret (v := (r_2 + (di_heights (v2_1).toNatClampNeg))) hx hb hr (fun t ht hW => ⟨_, rfl, Option.some.inj h, ht⟩) (fun _ h9 => absurd h9 List.not_mem_nil) d_Layout_nextS_41
set_option maxHeartbeats 4000000 in
set_option maxRecDepth 100000 in
theorem c_Layout_arrange (l : Launch) (dC : Nat → ClassId) (dI : Nat → Nat → Nat) (h_la : Nat) (h_la_ways : Nat) (h_la_ys : Nat) (h_la_symbolOf : Nat) (h_di : Nat) (h_di_heights : Nat) (h_la_xs : Nat) (h_di_widths : Nat) (h_la_sequence : Nat) (c_la_ways : ClassId) (c_la_ys : ClassId) (c_la_symbolOf : ClassId) (c_di_heights : ClassId) (c_la_xs : ClassId) (c_di_widths : ClassId) (c_la_sequence : ClassId) (u_la_differs : Value) (u_di_samples : Value) (u_di_count : Value) (la_count : Int32) (la_ways : (Nat → Int32)) (la_ys : (Nat → Int32)) (la_symbolOf : (Nat → Int32)) (di_heights : (Nat → Int32)) (la_xs : (Nat → Int32)) (di_widths : (Nat → Int32)) (la_sequence : (Nat → Int32)) (sz : Nat) (o : (Nat → Int32)) (hf : f_Layout_arrange la_count la_ways la_ys la_symbolOf di_heights la_xs di_widths la_sequence = some o) :
    Met l y_Layout_arrange ws_Layout_arrange { frames := 3, cells := 0, slots := 0, locals := 63 } (va_Pc [.ref h_la] (PcM (dC, dI) [(h_la, .inr (8, [.ref h_di, .ref h_la_ways, .ref h_la_symbolOf, .ref h_la_xs, .ref h_la_ys, u_la_differs, .ref h_la_sequence, .int la_count])), (h_la_ways, .inl (c_la_ways, 4, .inl la_ways)), (h_la_ys, .inl (c_la_ys, 40, .inl la_ys)), (h_la_symbolOf, .inl (c_la_symbolOf, 40, .inl la_symbolOf)), (h_di, .inr (6, [.ref h_di_widths, .ref h_di_heights, u_di_samples, u_di_count])), (h_di_heights, .inl (c_di_heights, 16, .inl di_heights)), (h_la_xs, .inl (c_la_xs, 40, .inl la_xs)), (h_di_widths, .inl (c_di_widths, 16, .inl di_widths)), (h_la_sequence, .inl (c_la_sequence, 40, .inl la_sequence))] [(c_la_ways, .int), (c_la_ys, .int), (c_la_symbolOf, .int), (c_di_heights, .int), (c_la_xs, .int), (c_di_widths, .int), (c_la_sequence, .int)] sz))
      (va_Qv (fun u : (Nat → Int32) => u = o) (fun u t => va_P (dC, dI) CL [(h_la, .inr (8, [.ref h_di, .ref h_la_ways, .ref h_la_symbolOf, .ref h_la_xs, .ref h_la_ys, u_la_differs, .ref h_la_sequence, .int la_count])), (h_la_ways, .inl (c_la_ways, 4, .inl la_ways)), (h_la_ys, .inl (c_la_ys, 40, .inl la_ys)), (h_la_symbolOf, .inl (c_la_symbolOf, 40, .inl la_symbolOf)), (h_di, .inr (6, [.ref h_di_widths, .ref h_di_heights, u_di_samples, u_di_count])), (h_di_heights, .inl (c_di_heights, 16, .inl di_heights)), (h_la_xs, .inl (c_la_xs, 40, .inl la_xs)), (h_di_widths, .inl (c_di_widths, 16, .inl di_widths)), (h_la_sequence, .inl (c_la_sequence, 40, .inl u))] t.heap ∧ va_K (dC, dI) CL [(c_la_ways, .int), (c_la_ys, .int), (c_la_symbolOf, .int), (c_di_heights, .int), (c_la_xs, .int), (c_di_widths, .int), (c_la_sequence, .int)] t ∧ va_D (va_A [(h_la, .inr (8, [.ref h_di, .ref h_la_ways, .ref h_la_symbolOf, .ref h_la_xs, .ref h_la_ys, u_la_differs, .ref h_la_sequence, .int la_count])), (h_la_ways, .inl (c_la_ways, 4, .inl la_ways)), (h_la_ys, .inl (c_la_ys, 40, .inl la_ys)), (h_la_symbolOf, .inl (c_la_symbolOf, 40, .inl la_symbolOf)), (h_di, .inr (6, [.ref h_di_widths, .ref h_di_heights, u_di_samples, u_di_count])), (h_di_heights, .inl (c_di_heights, 16, .inl di_heights)), (h_la_xs, .inl (c_la_xs, 40, .inl la_xs)), (h_di_widths, .inl (c_di_widths, 16, .inl di_widths)), (h_la_sequence, .inl (c_la_sequence, 40, .inl la_sequence))] sz) [(h_la, .inr (8, [.ref h_di, .ref h_la_ways, .ref h_la_symbolOf, .ref h_la_xs, .ref h_la_ys, u_la_differs, .ref h_la_sequence, .int la_count])), (h_la_ways, .inl (c_la_ways, 4, .inl la_ways)), (h_la_ys, .inl (c_la_ys, 40, .inl la_ys)), (h_la_symbolOf, .inl (c_la_symbolOf, 40, .inl la_symbolOf)), (h_di, .inr (6, [.ref h_di_widths, .ref h_di_heights, u_di_samples, u_di_count])), (h_di_heights, .inl (c_di_heights, 16, .inl di_heights)), (h_la_xs, .inl (c_la_xs, 40, .inl la_xs)), (h_di_widths, .inl (c_di_widths, 16, .inl di_widths)), (h_la_sequence, .inl (c_la_sequence, 40, .inl u))]) (va_A [(h_la, .inr (8, [.ref h_di, .ref h_la_ways, .ref h_la_symbolOf, .ref h_la_xs, .ref h_la_ys, u_la_differs, .ref h_la_sequence, .int la_count])), (h_la_ways, .inl (c_la_ways, 4, .inl la_ways)), (h_la_ys, .inl (c_la_ys, 40, .inl la_ys)), (h_la_symbolOf, .inl (c_la_symbolOf, 40, .inl la_symbolOf)), (h_di, .inr (6, [.ref h_di_widths, .ref h_di_heights, u_di_samples, u_di_count])), (h_di_heights, .inl (c_di_heights, 16, .inl di_heights)), (h_la_xs, .inl (c_la_xs, 40, .inl la_xs)), (h_di_widths, .inl (c_di_widths, 16, .inl di_widths)), (h_la_sequence, .inl (c_la_sequence, 40, .inl la_sequence))] sz)) 0 0 (va_A [(h_la, .inr (8, [.ref h_di, .ref h_la_ways, .ref h_la_symbolOf, .ref h_la_xs, .ref h_la_ys, u_la_differs, .ref h_la_sequence, .int la_count])), (h_la_ways, .inl (c_la_ways, 4, .inl la_ways)), (h_la_ys, .inl (c_la_ys, 40, .inl la_ys)), (h_la_symbolOf, .inl (c_la_symbolOf, 40, .inl la_symbolOf)), (h_di, .inr (6, [.ref h_di_widths, .ref h_di_heights, u_di_samples, u_di_count])), (h_di_heights, .inl (c_di_heights, 16, .inl di_heights)), (h_la_xs, .inl (c_la_xs, 40, .inl la_xs)), (h_di_widths, .inl (c_di_widths, 16, .inl di_widths)), (h_la_sequence, .inl (c_la_sequence, 40, .inl la_sequence))] sz) := by
  refine Met.ofW (cc := b_Layout_arrange) (maxL := 4) (ret := none) (by decide) rfl ?_
  intro p e s m args below meth c s₁ B hml hv
  obtain ⟨rfl, hsz, hP, hK, hD0, hnw⟩ := hv
  have hx := B.exec
  have hb := B.bytes
  have hr := B.returns
  have hts := atoms_spec (ws := ws_Layout_arrange) B.pre
  have hB : ∀ w ∈ BIG, w.before _ s = true := fun w h => hts w (List.mem_cons_of_mem _ h)
  have hown : s.vm.findClass R_Layout = some m.cls := findClass_of_methodNamed B.named
  have hlocks := B.notSynchronized
  subst hsz
  have hD := hD0.self (sz := s.heap.size)
  refine W_Q (fun Q9 eQ => ?_)
  generalize hAe : va_A [(h_la, .inr (8, [.ref h_di, .ref h_la_ways, .ref h_la_symbolOf, .ref h_la_xs, .ref h_la_ys, u_la_differs, .ref h_la_sequence, .int la_count])), (h_la_ways, .inl (c_la_ways, 4, .inl la_ways)), (h_la_ys, .inl (c_la_ys, 40, .inl la_ys)), (h_la_symbolOf, .inl (c_la_symbolOf, 40, .inl la_symbolOf)), (h_di, .inr (6, [.ref h_di_widths, .ref h_di_heights, u_di_samples, u_di_count])), (h_di_heights, .inl (c_di_heights, 16, .inl di_heights)), (h_la_xs, .inl (c_la_xs, 40, .inl la_xs)), (h_di_widths, .inl (c_di_widths, 16, .inl di_widths)), (h_la_sequence, .inl (c_la_sequence, 40, .inl la_sequence))] s.heap.size = A at hD eQ
  have hA : ∀ q : Nat, s.heap.size ≤ q → A q := fun q h => by rw [← hAe]; exact Or.inr h
  have hS : va_S A s.heap s.heap [] := va_S.rf
  have hl := lv_entry ([.ref h_la]) (n := 4) (Nat.le_of_ble_eq_true rfl)
  rw [lg_entry_eq]
  generalize (lg_sl ([.ref h_la]) ++ List.replicate (4 - (lg_sl ([.ref h_la])).length) Slot.unset).toArray = ls at hl ⊢
  have hl : lv_has ls 4 [(0, .ref h_la)] := hl
  have h := hf
  unfold f_Layout_arrange at h
  refine lv_iconst (v := 0) hx hb d_Layout_arrange_0 (by decide) ?_
  refine lv_istore_n (lv' := [(1, .int (0 : Int32)), (0, .ref h_la)]) hx hb d_Layout_arrange_1 rfl hl (by decide) rfl (fun ls hl => ?_)
  have w_self2 : ∀ n9 : Nat, ∀ (v1_1 : Int32) (la_sequence_2 : (Nat → Int32)) (H : Heap) (locs : List Loc) (ls : Array Slot), lp (f_Layout_arrange_L2 la_count la_ways la_ys la_symbolOf di_heights la_xs di_widths) n9 (v1_1, la_sequence_2) = some o → va_P (dC, dI) CL [(h_la, .inr (8, [.ref h_di, .ref h_la_ways, .ref h_la_symbolOf, .ref h_la_xs, .ref h_la_ys, u_la_differs, .ref h_la_sequence, .int la_count])), (h_la_ways, .inl (c_la_ways, 4, .inl la_ways)), (h_la_ys, .inl (c_la_ys, 40, .inl la_ys)), (h_la_symbolOf, .inl (c_la_symbolOf, 40, .inl la_symbolOf)), (h_di, .inr (6, [.ref h_di_widths, .ref h_di_heights, u_di_samples, u_di_count])), (h_di_heights, .inl (c_di_heights, 16, .inl di_heights)), (h_la_xs, .inl (c_la_xs, 40, .inl la_xs)), (h_di_widths, .inl (c_di_widths, 16, .inl di_widths)), (h_la_sequence, .inl (c_la_sequence, 40, .inl la_sequence_2))] H → va_D A [(h_la, .inr (8, [.ref h_di, .ref h_la_ways, .ref h_la_symbolOf, .ref h_la_xs, .ref h_la_ys, u_la_differs, .ref h_la_sequence, .int la_count])), (h_la_ways, .inl (c_la_ways, 4, .inl la_ways)), (h_la_ys, .inl (c_la_ys, 40, .inl la_ys)), (h_la_symbolOf, .inl (c_la_symbolOf, 40, .inl la_symbolOf)), (h_di, .inr (6, [.ref h_di_widths, .ref h_di_heights, u_di_samples, u_di_count])), (h_di_heights, .inl (c_di_heights, 16, .inl di_heights)), (h_la_xs, .inl (c_la_xs, 40, .inl la_xs)), (h_di_widths, .inl (c_di_widths, 16, .inl di_widths)), (h_la_sequence, .inl (c_la_sequence, 40, .inl la_sequence_2))] → va_S A s.heap H locs → lv_has ls 4 [(1, .int v1_1), (0, .ref h_la)] → W p l e ({ frames := 3, cells := 0, slots := 0, locals := 63 } : Room) s m ([.ref h_la] : List Value).toArray below meth c H locs 0 0 Q9 (F0 m 2 ls []) := by
    intro n9
    induction n9 with
    | zero =>
      intro v1_1 la_sequence_2 H locs ls h hP hD hS hl
      exact absurd h (by simp [lp])
    | succ n9 ih_self2 =>
      intro v1_1 la_sequence_2 H locs ls h hP hD hS hl
      obtain ⟨self2, e_self2, h⟩ := abs_k (P := fun z9 => f_Layout_arrange_L2 la_count la_ways la_ys la_symbolOf di_heights la_xs di_widths z9 (v1_1, la_sequence_2) = some o) (lp_e h)
      rw [← e_self2] at ih_self2
      unfold f_Layout_arrange_L2 at h
      try dsimp only at h
      refine lv_iload_n hx hb d_Layout_arrange_2 rfl (lv_at hl 0 rfl) ?_
      refine lv_aload_n hx hb d_Layout_arrange_3 rfl (lv_at hl 1 rfl) ?_
      refine va_get (D := (dC, dI)) (ci := 8) (v := .int la_count) (C := R_Layout) (T := T_Layout) (N := 8) hx hb hB iw_Layout hown hK hP 0 rfl rfl 7 (by decide) (hB _ bw_238) (fun _ h9 => h9) rfl d_Layout_arrange_4 ?_
      refine lv_icmp_ge (tgt := 71) hx hb d_Layout_arrange_7 (by decide) (fun c_1 => ?_) (fun c_1 => ?_)
      · have h := if_t h c_1
        subst eQ
        exact W.vret hx hb hr (fun t ht hW => ⟨⟨la_sequence_2, rfl, Option.some.inj h, by rw [ht]; exact hP, va_K.moved hW.alike hK, hD⟩, hS.F ht⟩) hS.2.2 d_Layout_arrange_71
      · have h := if_f h c_1
        refine lv_aload_n hx hb d_Layout_arrange_10 rfl (lv_at hl 1 rfl) ?_
        refine lv_iload_n hx hb d_Layout_arrange_11 rfl (lv_at hl 0 rfl) ?_
        obtain ⟨o9, hc9, h⟩ := bd_e h
        have hPc := hP.sub (ws' := [(h_la, .inr (8, [.ref h_di, .ref h_la_ways, .ref h_la_symbolOf, .ref h_la_xs, .ref h_la_ys, u_la_differs, .ref h_la_sequence, .int la_count])), (h_la_ways, .inl (c_la_ways, 4, .inl la_ways)), (h_la_ys, .inl (c_la_ys, 40, .inl la_ys)), (h_la_symbolOf, .inl (c_la_symbolOf, 40, .inl la_symbolOf)), (h_di, .inr (6, [.ref h_di_widths, .ref h_di_heights, u_di_samples, u_di_count])), (h_di_heights, .inl (c_di_heights, 16, .inl di_heights)), (h_la_xs, .inl (c_la_xs, 40, .inl la_xs)), (h_di_widths, .inl (c_di_widths, 16, .inl di_widths))]) [0, 1, 2, 3, 4, 5, 6, 7] rfl
        have hKc := hK.sub (tys' := [(c_la_ways, .int), (c_la_ys, .int), (c_la_symbolOf, .int), (c_di_heights, .int), (c_la_xs, .int), (c_di_widths, .int)]) [0, 1, 2, 3, 4, 5] rfl
        refine vp_callSi (va_Run.run (va_runV (As := [.int v1_1]) (rest := []) ⟨hx, hb, hml, hown, hB⟩ (c_Layout_strip l dC dI h_la h_la_ways h_la_ys h_la_symbolOf h_di h_di_heights h_la_xs h_di_widths c_la_ways c_la_ys c_la_symbolOf c_di_heights c_la_xs c_di_widths u_la_differs (.ref h_la_sequence) (.int la_count) u_di_samples u_di_count la_ways la_ys la_symbolOf di_heights la_xs di_widths v1_1 o9 hc9) (cwV 1 hB (goodA (m4 bw_299 bw_301 bs_1 bw_12) (goodB bw_302)) rfl rfl rfl (by decide +kernel) ⟨Nat.le_of_ble_eq_true rfl, Nat.le_of_ble_eq_true rfl⟩) ⟨fb_p, va_recv hK hP (ci := 8) (q0 := 0) rfl rfl, (pre_p hPc hKc hnw [.ref h_la, .int v1_1])⟩ rfl rfl hl.1 rfl (lv_room (Nat.le_of_ble_eq_true rfl)) d_Layout_arrange_12 ⟨Nat.zero_le _, Nat.zero_le _⟩)) (fun r_3 e_r_3 => ?_)
        subst e_r_3
        clear hPc hKc hc9
        refine lv_istore_n (lv' := [(2, .int r_3), (1, .int v1_1), (0, .ref h_la)]) hx hb d_Layout_arrange_15 rfl hl (by decide) rfl (fun ls hl => ?_)
        refine lv_iload_n hx hb d_Layout_arrange_16 rfl (lv_at hl 1 rfl) ?_
        refine lv_istore_n (lv' := [(3, .int v1_1), (2, .int r_3), (1, .int v1_1), (0, .ref h_la)]) hx hb d_Layout_arrange_17 rfl hl (by decide) rfl (fun ls hl => ?_)
        obtain ⟨k58, e_k58, h⟩ := abs_k (P := fun k9 => lp (f_Layout_arrange_L18 la_ways la_ys la_symbolOf di_heights la_xs di_widths r_3 k9) FU (v1_1, la_sequence_2) = some o) h
        have w_k58 : ∀ (v3_6 : Int32) (la_sequence_7 : (Nat → Int32)) (H : Heap) (locs : List Loc) (ls : Array Slot), k58 v3_6 la_sequence_7 = some o → va_P (dC, dI) CL [(h_la, .inr (8, [.ref h_di, .ref h_la_ways, .ref h_la_symbolOf, .ref h_la_xs, .ref h_la_ys, u_la_differs, .ref h_la_sequence, .int la_count])), (h_la_ways, .inl (c_la_ways, 4, .inl la_ways)), (h_la_ys, .inl (c_la_ys, 40, .inl la_ys)), (h_la_symbolOf, .inl (c_la_symbolOf, 40, .inl la_symbolOf)), (h_di, .inr (6, [.ref h_di_widths, .ref h_di_heights, u_di_samples, u_di_count])), (h_di_heights, .inl (c_di_heights, 16, .inl di_heights)), (h_la_xs, .inl (c_la_xs, 40, .inl la_xs)), (h_di_widths, .inl (c_di_widths, 16, .inl di_widths)), (h_la_sequence, .inl (c_la_sequence, 40, .inl la_sequence_7))] H → va_D A [(h_la, .inr (8, [.ref h_di, .ref h_la_ways, .ref h_la_symbolOf, .ref h_la_xs, .ref h_la_ys, u_la_differs, .ref h_la_sequence, .int la_count])), (h_la_ways, .inl (c_la_ways, 4, .inl la_ways)), (h_la_ys, .inl (c_la_ys, 40, .inl la_ys)), (h_la_symbolOf, .inl (c_la_symbolOf, 40, .inl la_symbolOf)), (h_di, .inr (6, [.ref h_di_widths, .ref h_di_heights, u_di_samples, u_di_count])), (h_di_heights, .inl (c_di_heights, 16, .inl di_heights)), (h_la_xs, .inl (c_la_xs, 40, .inl la_xs)), (h_di_widths, .inl (c_di_widths, 16, .inl di_widths)), (h_la_sequence, .inl (c_la_sequence, 40, .inl la_sequence_7))] → va_S A s.heap H locs → lv_has ls 4 [(3, .int v3_6), (1, .int v1_1), (0, .ref h_la)] → W p l e ({ frames := 3, cells := 0, slots := 0, locals := 63 } : Room) s m ([.ref h_la] : List Value).toArray below meth c H locs 0 0 Q9 (F0 m 58 ls []) := by
          intro v3_6 la_sequence_7 H locs ls h hP hD hS hl
          rw [e_k58] at h
          refine lv_aload_n hx hb d_Layout_arrange_58 rfl (lv_at hl 2 rfl) ?_
          refine va_get (D := (dC, dI)) (ci := 8) (v := .ref h_la_sequence) (C := R_Layout) (T := T_Layout) (N := 8) hx hb hB iw_Layout hown hK hP 0 rfl rfl 6 (by decide) (hB _ bw_235) (fun _ h9 => h9) rfl d_Layout_arrange_59 ?_
          refine lv_iload_n hx hb d_Layout_arrange_62 rfl (lv_at hl 0 rfl) ?_
          refine lv_iload_n hx hb d_Layout_arrange_63 rfl (lv_at hl 1 rfl) ?_
          obtain ⟨hin, h⟩ := gq_e h
          refine va_iast hx hb hK hP hD hS 8 6 rfl rfl hin d_Layout_arrange_64 (fun H locs hP hD hS => ?_)
          have hP : va_P (dC, dI) CL [(h_la, .inr (8, [.ref h_di, .ref h_la_ways, .ref h_la_symbolOf, .ref h_la_xs, .ref h_la_ys, u_la_differs, .ref h_la_sequence, .int la_count])), (h_la_ways, .inl (c_la_ways, 4, .inl la_ways)), (h_la_ys, .inl (c_la_ys, 40, .inl la_ys)), (h_la_symbolOf, .inl (c_la_symbolOf, 40, .inl la_symbolOf)), (h_di, .inr (6, [.ref h_di_widths, .ref h_di_heights, u_di_samples, u_di_count])), (h_di_heights, .inl (c_di_heights, 16, .inl di_heights)), (h_la_xs, .inl (c_la_xs, 40, .inl la_xs)), (h_di_widths, .inl (c_di_widths, 16, .inl di_widths)), (h_la_sequence, .inl (c_la_sequence, 40, .inl (upd la_sequence_7 (v3_6).toNatClampNeg v1_1)))] H := hP
          have hD : va_D A [(h_la, .inr (8, [.ref h_di, .ref h_la_ways, .ref h_la_symbolOf, .ref h_la_xs, .ref h_la_ys, u_la_differs, .ref h_la_sequence, .int la_count])), (h_la_ways, .inl (c_la_ways, 4, .inl la_ways)), (h_la_ys, .inl (c_la_ys, 40, .inl la_ys)), (h_la_symbolOf, .inl (c_la_symbolOf, 40, .inl la_symbolOf)), (h_di, .inr (6, [.ref h_di_widths, .ref h_di_heights, u_di_samples, u_di_count])), (h_di_heights, .inl (c_di_heights, 16, .inl di_heights)), (h_la_xs, .inl (c_la_xs, 40, .inl la_xs)), (h_di_widths, .inl (c_di_widths, 16, .inl di_widths)), (h_la_sequence, .inl (c_la_sequence, 40, .inl (upd la_sequence_7 (v3_6).toNatClampNeg v1_1)))] := hD
          obtain ⟨v1_11, e_v1_11⟩ : ∃ y9 : Int32, y9 = (v1_1 + (1 : Int32)) := ⟨_, rfl⟩
          have h := nl_u e_v1_11 h
          refine lv_iinc (v := v1_11) (lv' := [(1, .int v1_11), (3, .int v3_6), (0, .ref h_la)]) hx hb d_Layout_arrange_65 hl (k := 1) rfl (by rw [e_v1_11]; rfl) (by decide) rfl (fun ls hl => ?_)
          refine lv_goto (tgt := 2) hx hb d_Layout_arrange_68 (by decide) ?_
          exact ih_self2 _ _ _ _ _ h hP hD hS (lv_sub hl [0, 2] rfl)
        have w_self18 : ∀ n9 : Nat, ∀ (v3_4 : Int32) (la_sequence_5 : (Nat → Int32)) (H : Heap) (locs : List Loc) (ls : Array Slot), lp (f_Layout_arrange_L18 la_ways la_ys la_symbolOf di_heights la_xs di_widths r_3 k58) n9 (v3_4, la_sequence_5) = some o → va_P (dC, dI) CL [(h_la, .inr (8, [.ref h_di, .ref h_la_ways, .ref h_la_symbolOf, .ref h_la_xs, .ref h_la_ys, u_la_differs, .ref h_la_sequence, .int la_count])), (h_la_ways, .inl (c_la_ways, 4, .inl la_ways)), (h_la_ys, .inl (c_la_ys, 40, .inl la_ys)), (h_la_symbolOf, .inl (c_la_symbolOf, 40, .inl la_symbolOf)), (h_di, .inr (6, [.ref h_di_widths, .ref h_di_heights, u_di_samples, u_di_count])), (h_di_heights, .inl (c_di_heights, 16, .inl di_heights)), (h_la_xs, .inl (c_la_xs, 40, .inl la_xs)), (h_di_widths, .inl (c_di_widths, 16, .inl di_widths)), (h_la_sequence, .inl (c_la_sequence, 40, .inl la_sequence_5))] H → va_D A [(h_la, .inr (8, [.ref h_di, .ref h_la_ways, .ref h_la_symbolOf, .ref h_la_xs, .ref h_la_ys, u_la_differs, .ref h_la_sequence, .int la_count])), (h_la_ways, .inl (c_la_ways, 4, .inl la_ways)), (h_la_ys, .inl (c_la_ys, 40, .inl la_ys)), (h_la_symbolOf, .inl (c_la_symbolOf, 40, .inl la_symbolOf)), (h_di, .inr (6, [.ref h_di_widths, .ref h_di_heights, u_di_samples, u_di_count])), (h_di_heights, .inl (c_di_heights, 16, .inl di_heights)), (h_la_xs, .inl (c_la_xs, 40, .inl la_xs)), (h_di_widths, .inl (c_di_widths, 16, .inl di_widths)), (h_la_sequence, .inl (c_la_sequence, 40, .inl la_sequence_5))] → va_S A s.heap H locs → lv_has ls 4 [(3, .int v3_4), (2, .int r_3), (1, .int v1_1), (0, .ref h_la)] → W p l e ({ frames := 3, cells := 0, slots := 0, locals := 63 } : Room) s m ([.ref h_la] : List Value).toArray below meth c H locs 0 0 Q9 (F0 m 18 ls []) := by
          intro n9
          induction n9 with
          | zero =>
            intro v3_4 la_sequence_5 H locs ls h hP hD hS hl
            exact absurd h (by simp [lp])
          | succ n9 ih_self18 =>
            intro v3_4 la_sequence_5 H locs ls h hP hD hS hl
            obtain ⟨self18, e_self18, h⟩ := abs_k (P := fun z9 => f_Layout_arrange_L18 la_ways la_ys la_symbolOf di_heights la_xs di_widths r_3 k58 z9 (v3_4, la_sequence_5) = some o) (lp_e h)
            rw [← e_self18] at ih_self18
            unfold f_Layout_arrange_L18 at h
            try dsimp only at h
            refine lv_iload_n hx hb d_Layout_arrange_18 rfl (lv_at hl 0 rfl) ?_
            refine lv_if_le (tgt := 58) hx hb d_Layout_arrange_19 (by decide) (fun c_2 => ?_) (fun c_2 => ?_)
            · have h := if_t h c_2
              exact w_k58 _ _ _ _ _ h hP hD hS (lv_sub hl [0, 2, 3] rfl)
            · have h := if_f h c_2
              refine lv_aload_n hx hb d_Layout_arrange_22 rfl (lv_at hl 3 rfl) ?_
              refine lv_aload_n hx hb d_Layout_arrange_23 rfl (lv_at hl 3 rfl) ?_
              refine va_get (D := (dC, dI)) (ci := 8) (v := .ref h_la_sequence) (C := R_Layout) (T := T_Layout) (N := 8) hx hb hB iw_Layout hown hK hP 0 rfl rfl 6 (by decide) (hB _ bw_235) (fun _ h9 => h9) rfl d_Layout_arrange_24 ?_
              refine lv_iload_n hx hb d_Layout_arrange_27 rfl (lv_at hl 0 rfl) ?_
              refine lv_iconst (v := 1) hx hb d_Layout_arrange_28 (by decide) ?_
              refine lv_isub hx hb d_Layout_arrange_29 ?_
              obtain ⟨hin, h⟩ := gq_e h
              refine va_iald hx hb hK hP 8 6 rfl rfl hin d_Layout_arrange_30 ?_
              obtain ⟨o9, hc9, h⟩ := bd_e h
              have hPc := hP.sub (ws' := [(h_la, .inr (8, [.ref h_di, .ref h_la_ways, .ref h_la_symbolOf, .ref h_la_xs, .ref h_la_ys, u_la_differs, .ref h_la_sequence, .int la_count])), (h_la_ways, .inl (c_la_ways, 4, .inl la_ways)), (h_la_ys, .inl (c_la_ys, 40, .inl la_ys)), (h_la_symbolOf, .inl (c_la_symbolOf, 40, .inl la_symbolOf)), (h_di, .inr (6, [.ref h_di_widths, .ref h_di_heights, u_di_samples, u_di_count])), (h_di_heights, .inl (c_di_heights, 16, .inl di_heights)), (h_la_xs, .inl (c_la_xs, 40, .inl la_xs)), (h_di_widths, .inl (c_di_widths, 16, .inl di_widths))]) [0, 1, 2, 3, 4, 5, 6, 7] rfl
              have hKc := hK.sub (tys' := [(c_la_ways, .int), (c_la_ys, .int), (c_la_symbolOf, .int), (c_di_heights, .int), (c_la_xs, .int), (c_di_widths, .int)]) [0, 1, 2, 3, 4, 5] rfl
              refine vp_callSi (va_Run.run (va_runV (As := [.int (la_sequence_5 ((v3_4 - (1 : Int32))).toNatClampNeg)]) (rest := []) ⟨hx, hb, hml, hown, hB⟩ (c_Layout_strip l dC dI h_la h_la_ways h_la_ys h_la_symbolOf h_di h_di_heights h_la_xs h_di_widths c_la_ways c_la_ys c_la_symbolOf c_di_heights c_la_xs c_di_widths u_la_differs (.ref h_la_sequence) (.int la_count) u_di_samples u_di_count la_ways la_ys la_symbolOf di_heights la_xs di_widths (la_sequence_5 ((v3_4 - (1 : Int32))).toNatClampNeg) o9 hc9) (cwV 1 hB (goodA (m4 bw_299 bw_301 bs_1 bw_12) (goodB bw_302)) rfl rfl rfl (by decide +kernel) ⟨Nat.le_of_ble_eq_true rfl, Nat.le_of_ble_eq_true rfl⟩) ⟨fb_p, va_recv hK hP (ci := 8) (q0 := 0) rfl rfl, (pre_p hPc hKc hnw [.ref h_la, .int (la_sequence_5 ((v3_4 - (1 : Int32))).toNatClampNeg)])⟩ rfl rfl hl.1 rfl (lv_room (Nat.le_of_ble_eq_true rfl)) d_Layout_arrange_31 ⟨Nat.zero_le _, Nat.zero_le _⟩)) (fun r_8 e_r_8 => ?_)
              subst e_r_8
              clear hPc hKc hc9
              refine lv_iload_n hx hb d_Layout_arrange_34 rfl (lv_at hl 1 rfl) ?_
              refine lv_icmp_le (tgt := 58) hx hb d_Layout_arrange_35 (by decide) (fun c_3 => ?_) (fun c_3 => ?_)
              · have h := if_t h c_3
                exact w_k58 _ _ _ _ _ h hP hD hS (lv_sub hl [0, 2, 3] rfl)
              · have h := if_f h c_3
                refine lv_aload_n hx hb d_Layout_arrange_38 rfl (lv_at hl 3 rfl) ?_
                refine va_get (D := (dC, dI)) (ci := 8) (v := .ref h_la_sequence) (C := R_Layout) (T := T_Layout) (N := 8) hx hb hB iw_Layout hown hK hP 0 rfl rfl 6 (by decide) (hB _ bw_235) (fun _ h9 => h9) rfl d_Layout_arrange_39 ?_
                refine lv_iload_n hx hb d_Layout_arrange_42 rfl (lv_at hl 0 rfl) ?_
                refine lv_aload_n hx hb d_Layout_arrange_43 rfl (lv_at hl 3 rfl) ?_
                refine va_get (D := (dC, dI)) (ci := 8) (v := .ref h_la_sequence) (C := R_Layout) (T := T_Layout) (N := 8) hx hb hB iw_Layout hown hK hP 0 rfl rfl 6 (by decide) (hB _ bw_235) (fun _ h9 => h9) rfl d_Layout_arrange_44 ?_
                refine lv_iload_n hx hb d_Layout_arrange_47 rfl (lv_at hl 0 rfl) ?_
                refine lv_iconst (v := 1) hx hb d_Layout_arrange_48 (by decide) ?_
                refine lv_isub hx hb d_Layout_arrange_49 ?_
                obtain ⟨hin, h⟩ := gq_e h
                refine va_iald hx hb hK hP 8 6 rfl rfl hin d_Layout_arrange_50 ?_
                refine lv_topi (fun w_9 e_w_9 => ?_)
                have h := nl_u e_w_9 h
                obtain ⟨hin, h⟩ := gq_e h
                refine va_iast hx hb hK hP hD hS 8 6 rfl rfl hin d_Layout_arrange_51 (fun H locs hP hD hS => ?_)
                have hP : va_P (dC, dI) CL [(h_la, .inr (8, [.ref h_di, .ref h_la_ways, .ref h_la_symbolOf, .ref h_la_xs, .ref h_la_ys, u_la_differs, .ref h_la_sequence, .int la_count])), (h_la_ways, .inl (c_la_ways, 4, .inl la_ways)), (h_la_ys, .inl (c_la_ys, 40, .inl la_ys)), (h_la_symbolOf, .inl (c_la_symbolOf, 40, .inl la_symbolOf)), (h_di, .inr (6, [.ref h_di_widths, .ref h_di_heights, u_di_samples, u_di_count])), (h_di_heights, .inl (c_di_heights, 16, .inl di_heights)), (h_la_xs, .inl (c_la_xs, 40, .inl la_xs)), (h_di_widths, .inl (c_di_widths, 16, .inl di_widths)), (h_la_sequence, .inl (c_la_sequence, 40, .inl (upd la_sequence_5 (v3_4).toNatClampNeg w_9)))] H := hP
                have hD : va_D A [(h_la, .inr (8, [.ref h_di, .ref h_la_ways, .ref h_la_symbolOf, .ref h_la_xs, .ref h_la_ys, u_la_differs, .ref h_la_sequence, .int la_count])), (h_la_ways, .inl (c_la_ways, 4, .inl la_ways)), (h_la_ys, .inl (c_la_ys, 40, .inl la_ys)), (h_la_symbolOf, .inl (c_la_symbolOf, 40, .inl la_symbolOf)), (h_di, .inr (6, [.ref h_di_widths, .ref h_di_heights, u_di_samples, u_di_count])), (h_di_heights, .inl (c_di_heights, 16, .inl di_heights)), (h_la_xs, .inl (c_la_xs, 40, .inl la_xs)), (h_di_widths, .inl (c_di_widths, 16, .inl di_widths)), (h_la_sequence, .inl (c_la_sequence, 40, .inl (upd la_sequence_5 (v3_4).toNatClampNeg w_9)))] := hD
                obtain ⟨v3_10, e_v3_10⟩ : ∃ y9 : Int32, y9 = (v3_4 + (-1 : Int32)) := ⟨_, rfl⟩
                have h := nl_u e_v3_10 h
                refine lv_iinc (v := v3_10) (lv' := [(3, .int v3_10), (2, .int r_3), (1, .int v1_1), (0, .ref h_la)]) hx hb d_Layout_arrange_52 hl (k := 0) rfl (by rw [e_v3_10]; rfl) (by decide) rfl (fun ls hl => ?_)
                refine lv_goto (tgt := 18) hx hb d_Layout_arrange_55 (by decide) ?_
                exact ih_self18 _ _ _ _ _ h hP hD hS hl
        exact w_self18 FU _ _ _ _ _ h hP hD hS hl
  exact w_self2 FU _ _ _ _ _ h hP hD hS hl
