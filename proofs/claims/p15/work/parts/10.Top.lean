set_option maxHeartbeats 4000000 in
set_option maxRecDepth 100000 in
theorem c_Top_isWithin (l : Launch) (dC : Nat → ClassId) (dI : Nat → Nat → Nat) (p0 : Int32) (p1 : Int32) (p2 : Int32) (o : Int32) (hf : f_Top_isWithin p0 p1 p2 = some o) :
    Met l y_Top_isWithin ws_Top_isWithin { frames := 0, cells := 0, slots := 0, locals := 0 } (va_Pc [.int p0, .int p1, .int p2] (PcP (dC, dI) [] []))
      (vp_Si (fun r => r = o)) 0 0 (fun _ => False) := by
  refine Met.ofW (cc := b_Top_isWithin) (maxL := 3) (ret := (some .boolean)) (by decide) rfl ?_
  intro p e s m args below meth c s₁ B hml hv
  obtain ⟨rfl, hP, hK, hnw⟩ := hv
  have hx := B.exec
  have hb := B.bytes
  have hr := B.returns
  have hts := atoms_spec (ws := ws_Top_isWithin) B.pre
  have hB : ∀ w ∈ BIG, w.before _ s = true := fun w h => hts w (List.mem_cons_of_mem _ h)
  have hown : s.vm.findClass R_Top = some m.cls := findClass_of_methodNamed B.named
  have hlocks := B.notSynchronized
  refine W_Q (fun Q9 eQ => ?_)
  have hl := lv_entry ([.int p0, .int p1, .int p2]) (n := 3) (Nat.le_of_ble_eq_true rfl)
  rw [lg_entry_eq]
  generalize (lg_sl ([.int p0, .int p1, .int p2]) ++ List.replicate (3 - (lg_sl ([.int p0, .int p1, .int p2])).length) Slot.unset).toArray = ls at hl ⊢
  have hl : lv_has ls 3 [(0, .int p0), (1, .int p1), (2, .int p2)] := hl
  have h := hf
  unfold f_Top_isWithin at h
  refine lv_iload_n hx hb d_Top_isWithin_0 rfl (lv_at hl 0 rfl) ?_
  refine lv_iload_n hx hb d_Top_isWithin_1 rfl (lv_at hl 1 rfl) ?_
  refine lv_icmp_lt (tgt := 14) hx hb d_Top_isWithin_2 (by decide) (fun c_1 => ?_) (fun c_1 => ?_)
  · have h := if_t h c_1
    refine lv_iconst (v := 0) hx hb d_Top_isWithin_14 (by decide) ?_
    subst eQ
    exact W.zret (v := (0 : Int32)) hx hb hr rfl (fun t ht hW => ⟨_, rfl, Option.some.inj h, ht⟩) (fun _ h9 => absurd h9 List.not_mem_nil) d_Top_isWithin_15
  · have h := if_f h c_1
    refine lv_iload_n hx hb d_Top_isWithin_5 rfl (lv_at hl 0 rfl) ?_
    refine lv_iload_n hx hb d_Top_isWithin_6 rfl (lv_at hl 2 rfl) ?_
    refine lv_icmp_gt (tgt := 14) hx hb d_Top_isWithin_7 (by decide) (fun c_2 => ?_) (fun c_2 => ?_)
    · have h := if_t h c_2
      refine lv_iconst (v := 0) hx hb d_Top_isWithin_14 (by decide) ?_
      subst eQ
      exact W.zret (v := (0 : Int32)) hx hb hr rfl (fun t ht hW => ⟨_, rfl, Option.some.inj h, ht⟩) (fun _ h9 => absurd h9 List.not_mem_nil) d_Top_isWithin_15
    · have h := if_f h c_2
      refine lv_iconst (v := 1) hx hb d_Top_isWithin_10 (by decide) ?_
      refine lv_goto (tgt := 15) hx hb d_Top_isWithin_11 (by decide) ?_
      subst eQ
      exact W.zret (v := (1 : Int32)) hx hb hr rfl (fun t ht hW => ⟨_, rfl, Option.some.inj h, ht⟩) (fun _ h9 => absurd h9 List.not_mem_nil) d_Top_isWithin_15
set_option maxHeartbeats 4000000 in
set_option maxRecDepth 100000 in
theorem c_Top_isPlace (l : Launch) (dC : Nat → ClassId) (dI : Nat → Nat → Nat) (p0 : Int32) (o : Int32) (hf : f_Top_isPlace p0 = some o) :
    Met l y_Top_isPlace ws_Top_isPlace { frames := 1, cells := 0, slots := 0, locals := 22 } (va_Pc [.int p0] (PcP (dC, dI) [] []))
      (vp_Si (fun r => r = o)) 0 0 (fun _ => False) := by
  refine Met.ofW (cc := b_Top_isPlace) (maxL := 1) (ret := (some .boolean)) (by decide) rfl ?_
  intro p e s m args below meth c s₁ B hml hv
  obtain ⟨rfl, hP, hK, hnw⟩ := hv
  have hx := B.exec
  have hb := B.bytes
  have hr := B.returns
  have hts := atoms_spec (ws := ws_Top_isPlace) B.pre
  have hB : ∀ w ∈ BIG, w.before _ s = true := fun w h => hts w (List.mem_cons_of_mem _ h)
  have hown : s.vm.findClass R_Top = some m.cls := findClass_of_methodNamed B.named
  have hlocks := B.notSynchronized
  refine W_Q (fun Q9 eQ => ?_)
  have hl := lv_entry ([.int p0]) (n := 1) (Nat.le_of_ble_eq_true rfl)
  rw [lg_entry_eq]
  generalize (lg_sl ([.int p0]) ++ List.replicate (1 - (lg_sl ([.int p0])).length) Slot.unset).toArray = ls at hl ⊢
  have hl : lv_has ls 1 [(0, .int p0)] := hl
  have h := hf
  unfold f_Top_isPlace at h
  refine lv_iload_n hx hb d_Top_isPlace_0 rfl (lv_at hl 0 rfl) ?_
  refine lv_bipush (v := -8) hx hb d_Top_isPlace_1 (by decide) ?_
  refine lv_bipush (v := 31) hx hb d_Top_isPlace_3 (by decide) ?_
  obtain ⟨o9, hc9, h⟩ := bd_e h
  have hPc := hP.sub (ws' := []) [] rfl
  have hKc := hK.sub (tys' := []) [] rfl
  refine vp_callSi (va_Run.run (va_runS (As := [.int p0, .int (-8 : Int32), .int (31 : Int32)]) (rest := []) ⟨hx, hb, hml, hown, hB⟩ (c_Top_isWithin l dC dI p0 (-8 : Int32) (31 : Int32) o9 hc9) (va_cwS 3 hB (goodA (m3 bw_600 bw_343 bw_1) (goodB bw_344)) rfl rfl rfl (by decide +kernel) ⟨Nat.le_of_ble_eq_true rfl, Nat.le_of_ble_eq_true rfl⟩) ⟨fb_p, (pre_p hPc hKc hnw [.int p0, .int (-8 : Int32), .int (31 : Int32)])⟩ rfl rfl hl.1 rfl (lv_room (Nat.le_of_ble_eq_true rfl)) d_Top_isPlace_5 ⟨Nat.zero_le _, Nat.zero_le _⟩)) (fun r_1 e_r_1 => ?_)
  subst e_r_1
  clear hPc hKc hc9
  subst eQ
  obtain ⟨hz, h⟩ := bz_e h
  exact W.zret (v := r_1) hx hb hr (bz_n hz) (fun t ht hW => ⟨_, rfl, Option.some.inj h, ht⟩) (fun _ h9 => absurd h9 List.not_mem_nil) d_Top_isPlace_8
set_option maxHeartbeats 4000000 in
set_option maxRecDepth 100000 in
theorem c_Top_nearest (l : Launch) (dC : Nat → ClassId) (dI : Nat → Nat → Nat) (p0 : Int32) (p1 : Int32) (p2 : Int32) (o : Int32) (hf : f_Top_nearest p0 p1 p2 = some o) :
    Met l y_Top_nearest ws_Top_nearest { frames := 1, cells := 0, slots := 0, locals := 30 } (va_Pc [.int p0, .int p1, .int p2] (PcP (dC, dI) [] []))
      (vp_Si (fun r => r = o)) 0 0 (fun _ => False) := by
  refine Met.ofW (cc := b_Top_nearest) (maxL := 3) (ret := (some .int)) (by decide) rfl ?_
  intro p e s m args below meth c s₁ B hml hv
  obtain ⟨rfl, hP, hK, hnw⟩ := hv
  have hx := B.exec
  have hb := B.bytes
  have hr := B.returns
  have hts := atoms_spec (ws := ws_Top_nearest) B.pre
  have hB : ∀ w ∈ BIG, w.before _ s = true := fun w h => hts w (List.mem_cons_of_mem _ h)
  have hown : s.vm.findClass R_Top = some m.cls := findClass_of_methodNamed B.named
  have hlocks := B.notSynchronized
  refine W_Q (fun Q9 eQ => ?_)
  have hl := lv_entry ([.int p0, .int p1, .int p2]) (n := 3) (Nat.le_of_ble_eq_true rfl)
  rw [lg_entry_eq]
  generalize (lg_sl ([.int p0, .int p1, .int p2]) ++ List.replicate (3 - (lg_sl ([.int p0, .int p1, .int p2])).length) Slot.unset).toArray = ls at hl ⊢
  have hl : lv_has ls 3 [(0, .int p0), (1, .int p1), (2, .int p2)] := hl
  have h := hf
  unfold f_Top_nearest at h
  refine lv_iload_n hx hb d_Top_nearest_0 rfl (lv_at hl 1 rfl) ?_
  refine lv_iload_n hx hb d_Top_nearest_1 rfl (lv_at hl 2 rfl) ?_
  refine lv_iload_n hx hb d_Top_nearest_2 rfl (lv_at hl 0 rfl) ?_
  refine va_mmin hx hb (hml.trans hl.1.symm) hown (hB _ bw_32) (hB _ bw_33) (hB _ bw_2) (hB _ bm_min) (Nat.le_of_ble_eq_true rfl) (Nat.le_of_ble_eq_true rfl) (Nat.zero_le _) (Nat.zero_le _) d_Top_nearest_3 ?_
  refine va_mmax hx hb (hml.trans hl.1.symm) hown (hB _ bw_35) (hB _ bw_36) (hB _ bw_2) (hB _ bm_max) (Nat.le_of_ble_eq_true rfl) (Nat.le_of_ble_eq_true rfl) (Nat.zero_le _) (Nat.zero_le _) d_Top_nearest_6 ?_
  subst eQ
  exact W.iret (v := (if p1 < (if p0 < p2 then p0 else p2) then (if p0 < p2 then p0 else p2) else p1)) hx hb hr (fun t ht hW => ⟨_, rfl, Option.some.inj h, ht⟩) (fun _ h9 => absurd h9 List.not_mem_nil) d_Top_nearest_9
set_option maxHeartbeats 4000000 in
set_option maxRecDepth 100000 in
theorem c_Top_withBit (l : Launch) (dC : Nat → ClassId) (dI : Nat → Nat → Nat) (p0 : Int64) (p1 : Int32) (p2 : Int32) (o : Int64) (hf : f_Top_withBit p0 p1 p2 = some o) :
    Met l y_Top_withBit ws_Top_withBit { frames := 0, cells := 0, slots := 0, locals := 0 } (va_Pc [.long p0, .int p1, .int p2] (PcP (dC, dI) [] []))
      (vp_Sl (fun r => r = o)) 0 0 (fun _ => False) := by
  refine Met.ofW (cc := b_Top_withBit) (maxL := 4) (ret := (some .long)) (by decide) rfl ?_
  intro p e s m args below meth c s₁ B hml hv
  obtain ⟨rfl, hP, hK, hnw⟩ := hv
  have hx := B.exec
  have hb := B.bytes
  have hr := B.returns
  have hts := atoms_spec (ws := ws_Top_withBit) B.pre
  have hB : ∀ w ∈ BIG, w.before _ s = true := fun w h => hts w (List.mem_cons_of_mem _ h)
  have hown : s.vm.findClass R_Top = some m.cls := findClass_of_methodNamed B.named
  have hlocks := B.notSynchronized
  refine W_Q (fun Q9 eQ => ?_)
  have hl := lv_entry ([.long p0, .int p1, .int p2]) (n := 4) (Nat.le_of_ble_eq_true rfl)
  rw [lg_entry_eq]
  generalize (lg_sl ([.long p0, .int p1, .int p2]) ++ List.replicate (4 - (lg_sl ([.long p0, .int p1, .int p2])).length) Slot.unset).toArray = ls at hl ⊢
  have hl : lv_has ls 4 [(0, .long p0), (2, .int p1), (3, .int p2)] := hl
  have h := hf
  unfold f_Top_withBit at h
  refine lv_iload_n hx hb d_Top_withBit_0 rfl (lv_at hl 2 rfl) ?_
  refine lv_if_eq (tgt := 12) hx hb d_Top_withBit_1 (by decide) (fun c_1 => ?_) (fun c_1 => ?_)
  · have h := if_t h c_1
    refine lv_lload_n hx hb d_Top_withBit_12 rfl (lv_at hl 0 rfl) ?_
    refine lv_lconst (v := 1) hx hb d_Top_withBit_13 (by decide) ?_
    refine lv_iload_n hx hb d_Top_withBit_14 rfl (lv_at hl 1 rfl) ?_
    refine lv_lshl hx hb d_Top_withBit_15 rfl ?_
    refine lv_ldc2 (v := -1) hx hb hown (hts (.constantLong R_Top 273 (-1)) (by decide +kernel)) d_Top_withBit_16 ?_
    refine lv_lxor hx hb d_Top_withBit_19 ?_
    refine lv_land hx hb d_Top_withBit_20 ?_
    subst eQ
    exact W.lret (v := (p0 &&& (((1 : Int64) <<< ((p1).toInt64 &&& 63)) ^^^ (-1 : Int64)))) hx hb hr (fun t ht hW => ⟨_, rfl, Option.some.inj h, ht⟩) (fun _ h9 => absurd h9 List.not_mem_nil) d_Top_withBit_21
  · have h := if_f h c_1
    refine lv_lload_n hx hb d_Top_withBit_4 rfl (lv_at hl 0 rfl) ?_
    refine lv_lconst (v := 1) hx hb d_Top_withBit_5 (by decide) ?_
    refine lv_iload_n hx hb d_Top_withBit_6 rfl (lv_at hl 1 rfl) ?_
    refine lv_lshl hx hb d_Top_withBit_7 rfl ?_
    refine lv_lor hx hb d_Top_withBit_8 ?_
    refine lv_goto (tgt := 21) hx hb d_Top_withBit_9 (by decide) ?_
    subst eQ
    exact W.lret (v := (p0 ||| ((1 : Int64) <<< ((p1).toInt64 &&& 63)))) hx hb hr (fun t ht hW => ⟨_, rfl, Option.some.inj h, ht⟩) (fun _ h9 => absurd h9 List.not_mem_nil) d_Top_withBit_21
set_option maxHeartbeats 4000000 in
set_option maxRecDepth 100000 in
theorem c_Top_hasBit (l : Launch) (dC : Nat → ClassId) (dI : Nat → Nat → Nat) (p0 : Int64) (p1 : Int32) (o : Int32) (hf : f_Top_hasBit p0 p1 = some o) :
    Met l y_Top_hasBit ws_Top_hasBit { frames := 0, cells := 0, slots := 0, locals := 0 } (va_Pc [.long p0, .int p1] (PcP (dC, dI) [] []))
      (vp_Si (fun r => r = o)) 0 0 (fun _ => False) := by
  refine Met.ofW (cc := b_Top_hasBit) (maxL := 3) (ret := (some .boolean)) (by decide) rfl ?_
  intro p e s m args below meth c s₁ B hml hv
  obtain ⟨rfl, hP, hK, hnw⟩ := hv
  have hx := B.exec
  have hb := B.bytes
  have hr := B.returns
  have hts := atoms_spec (ws := ws_Top_hasBit) B.pre
  have hB : ∀ w ∈ BIG, w.before _ s = true := fun w h => hts w (List.mem_cons_of_mem _ h)
  have hown : s.vm.findClass R_Top = some m.cls := findClass_of_methodNamed B.named
  have hlocks := B.notSynchronized
  refine W_Q (fun Q9 eQ => ?_)
  have hl := lv_entry ([.long p0, .int p1]) (n := 3) (Nat.le_of_ble_eq_true rfl)
  rw [lg_entry_eq]
  generalize (lg_sl ([.long p0, .int p1]) ++ List.replicate (3 - (lg_sl ([.long p0, .int p1])).length) Slot.unset).toArray = ls at hl ⊢
  have hl : lv_has ls 3 [(0, .long p0), (2, .int p1)] := hl
  have h := hf
  unfold f_Top_hasBit at h
  refine lv_lload_n hx hb d_Top_hasBit_0 rfl (lv_at hl 0 rfl) ?_
  refine lv_iload_n hx hb d_Top_hasBit_1 rfl (lv_at hl 1 rfl) ?_
  refine lv_lushr hx hb d_Top_hasBit_2 rfl ?_
  refine lv_lconst (v := 1) hx hb d_Top_hasBit_3 (by decide) ?_
  refine lv_land hx hb d_Top_hasBit_4 ?_
  refine lv_lconst (v := 0) hx hb d_Top_hasBit_5 (by decide) ?_
  refine W.lcmp hx hb d_Top_hasBit_6 ?_
  refine lv_if_eq (tgt := 14) hx hb d_Top_hasBit_7 (by decide) (fun c_1 => ?_) (fun c_1 => ?_)
  · have h := if_t h c_1
    refine lv_iconst (v := 0) hx hb d_Top_hasBit_14 (by decide) ?_
    subst eQ
    exact W.zret (v := (0 : Int32)) hx hb hr rfl (fun t ht hW => ⟨_, rfl, Option.some.inj h, ht⟩) (fun _ h9 => absurd h9 List.not_mem_nil) d_Top_hasBit_15
  · have h := if_f h c_1
    refine lv_iconst (v := 1) hx hb d_Top_hasBit_10 (by decide) ?_
    refine lv_goto (tgt := 15) hx hb d_Top_hasBit_11 (by decide) ?_
    subst eQ
    exact W.zret (v := (1 : Int32)) hx hb hr rfl (fun t ht hW => ⟨_, rfl, Option.some.inj h, ht⟩) (fun _ h9 => absurd h9 List.not_mem_nil) d_Top_hasBit_15
