set_option maxHeartbeats 4000000 in
set_option maxRecDepth 100000 in
/-- the law's cell(s, k): the script's k-th int, 0 behind its end -/
theorem c_Law_cell (l : Launch) (b L : Nat) (xs : Nat → Int32) (k : Int32) (hk : ¬ Int32.ofNat L ≤ k → vp_in k L) : Met l y_Law_cell ws_Law_cell { frames := 0, cells := 0, slots := 0, locals := 0 } (va_Pc [.ref b, .int k] (fun U => va_X b L xs U U.heap ∧ b < U.heap.size))
    (vp_Si (fun r => r = if Int32.ofNat L ≤ k then 0 else xs k.toNatClampNeg)) 0 0 (fun _ => False) := by
  refine Met.ofW (cc := b_Law_cell) (maxL := 2) (ret := (some .int)) (by decide) rfl ?_
  intro p e s m args below meth c s₁ B hml hv
  obtain ⟨rfl, hX, hbl⟩ := hv
  have hx := B.exec
  have hb := B.bytes
  have hr := B.returns
  have hlocks := B.notSynchronized
  have hS : va_S (fun _ => False) s.heap s.heap [] := va_S.rf
  have hl := lv_entry ([.ref b, .int k]) (n := 2) (Nat.le_of_ble_eq_true rfl)
  rw [lg_entry_eq]
  generalize (lg_sl ([.ref b, .int k]) ++ List.replicate (2 - (lg_sl ([.ref b, .int k])).length) Slot.unset).toArray = ls at hl ⊢
  have hl : lv_has ls 2 [(0, .ref b), (1, .int k)] := hl
  refine lv_iload_n hx hb d_Law_cell_0 rfl (lv_at hl 1 rfl) ?_
  refine lv_aload_n hx hb d_Law_cell_1 rfl (lv_at hl 0 rfl) ?_
  refine va_slen hx hb hX hbl (fun h => h) hS d_Law_cell_2 ?_
  refine lv_icmp_ge (tgt := 12) hx hb d_Law_cell_3 (by decide) (fun c_1 => ?_) (fun c_1 => ?_)
  · refine lv_iconst (v := 0) hx hb d_Law_cell_12 (by decide) ?_
    exact W.iret (v := 0) hx hb hr (fun t ht hW => ⟨_, rfl, (if_pos c_1).symm, ht⟩) (fun _ h9 => absurd h9 List.not_mem_nil) d_Law_cell_13
  · refine lv_aload_n hx hb d_Law_cell_6 rfl (lv_at hl 0 rfl) ?_
    refine lv_iload_n hx hb d_Law_cell_7 rfl (lv_at hl 1 rfl) ?_
    refine va_sld hx hb hX hbl (fun h => h) hS (hk c_1) d_Law_cell_8 ?_
    refine lv_goto (tgt := 13) hx hb d_Law_cell_9 (by decide) ?_
    exact W.iret (v := xs k.toNatClampNeg) hx hb hr (fun t ht hW => ⟨_, rfl, (if_neg c_1).symm, ht⟩) (fun _ h9 => absurd h9 List.not_mem_nil) d_Law_cell_13
