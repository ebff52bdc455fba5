/-! the law's own methods: their tables, the classes that an entry passes by -/
def xnl : List Cond := [.not (.castable "java/lang/IllegalArgumentException" "java/lang/UnsupportedOperationException"), .not (.castable "java/lang/IllegalArgumentException" "java/lang/IndexOutOfBoundsException"), .not (.castable "java/lang/UnsupportedOperationException" "java/lang/IllegalArgumentException"), .not (.castable "java/lang/UnsupportedOperationException" "java/lang/IndexOutOfBoundsException"), .not (.castable "java/lang/IndexOutOfBoundsException" "java/lang/IllegalArgumentException"), .not (.castable "java/lang/IndexOutOfBoundsException" "java/lang/UnsupportedOperationException")]
def xn (U : State) : Prop := ∀ w ∈ xnl, w.before #[] U = true
theorem xn_atom : ∀ w ∈ xnl, w.castAtom = true := by decide +kernel
theorem xn_go {s U : State} (hW : s.WarmedH U.vm) (h : xn s) : xn U := by
  intro w hw
  have h1 := Cond.castAtom_setVm (args := #[]) hW.alike w (xn_atom w hw) (h w hw)
  simp only [xnl, List.mem_cons, List.not_mem_nil, or_false] at hw
  rcases hw with rfl | rfl | rfl | rfl | rfl | rfl <;> exact h1
theorem xn_use {s : State} {args : Array Value} (h : xn s) {a b : String} (hm : Cond.not (.castable a b) ∈ xnl) : (Cond.not (.castable a b)).before args s = true := h _ hm
theorem xt_tab {p : Program} {l : Launch} {y : MethodName} {S : Spec} {cc : ByteArray} {maxL : Nat} {ret : Option FieldType} {e : Env} {s s₁ : State} {m : MethodId} {args : Array Value} {below : List Frame} {meth : Method} {c : Code} {bytes : ByteArray} {hh : List (Nat × Nat × Nat × Nat)}
    (B : BodyLoose p l y S cc maxL ret e s m args below meth c s₁) (h : (Cond.codeWith y bytes maxL ret hh).before args s = true) : c.exceptionTable.toList = tableOf hh := by
  obtain ⟨m9, meth9, c9, hn9, h1, h2, -, -, h5, -, -, -⟩ := Cond.codeWith_spec h
  cases Option.some.inj (B.named.symm.trans hn9)
  cases Option.some.inj (B.method.symm.trans h1)
  cases Option.some.inj ((Stand.of_body B).code.symm.trans h2)
  rw [← h5]
  unfold tableOf
  rw [List.map_map]
  exact (List.map_id c.exceptionTable.toList).symm
theorem vp_callSX {p : Program} {l : Launch} {e : Env} {R : Room} {s : State} {m : MethodId} {args : Array Value} {below : List Frame} {meth : Method} {c : Code} {H : Heap} {locs : List Loc} {cells slots mc ms pc : Nat} {Q : State → Prop} {ls : Array Slot} {rest st0 : List Value} {post : Int32 → Prop} {a : Array Value} (hr : va_Run p l e R s m args below meth c H locs cells slots mc ms (F0 m pc ls st0) rest (vp_Si post a) (fun _ => False))
    (kk : ∀ r : Int32, post r → W p l e R s m args below meth c H locs (cells + mc) (slots + ms) Q (F0 m (pc + 3) ls (.int r :: rest))) : W p l e R s m args below meth c H locs cells slots Q (F0 m pc ls st0) := by
  intro T hT X
  obtain ⟨v, st₀, t, T', L, h0, X', hL, e1, -, ⟨r, hv, hp, hh⟩, st⟩ := hr T hT X
  cases hv
  have hLn : L = [] := List.eq_nil_iff_forall_not_mem.mpr (fun q hq => (hL q hq).elim)
  subst hLn
  rw [List.append_nil] at X'
  obtain ⟨t2, a1, b1⟩ := kk r hp T' (by rw [e1, hh, h0]) X'
  exact ⟨t2, st t2 a1, b1⟩
theorem kept9 {D : va_G} {ws : va_W} {H H1 : Heap} (hP : va_P D CL ws H) (hk : ∀ z : Nat, z < H.size → H1[z]? = H[z]?) : va_P D CL ws H1 := hP.kept fun k q h => hk q.1 ((hP k q h).lt)
theorem keptS {A : Nat → Prop} {H0 H H1 : Heap} {locs : List Loc} (hS : va_S A H0 H locs) (hz : H.size ≤ H1.size) (hk : ∀ z : Nat, z < H.size → H1[z]? = H[z]?) : va_S A H0 H1 locs := ⟨Nat.le_trans hS.1 hz, fun q h1 h2 => (hk q (Nat.lt_of_lt_of_le h1 hS.1)).trans (hS.2.1 q h1 h2), hS.2.2⟩
theorem d_Law_cell_0 : decode b_Law_cell 0 = .ok (.iload_n 1, 1) := by decide +kernel
theorem d_Law_cell_1 : decode b_Law_cell 1 = .ok (.aload_n 0, 1) := by decide +kernel
theorem d_Law_cell_2 : decode b_Law_cell 2 = .ok (.arraylength, 1) := by decide +kernel
theorem d_Law_cell_3 : decode b_Law_cell 3 = .ok (.if_icmp .ge 9, 3) := by decide +kernel
theorem d_Law_cell_6 : decode b_Law_cell 6 = .ok (.aload_n 0, 1) := by decide +kernel
theorem d_Law_cell_7 : decode b_Law_cell 7 = .ok (.iload_n 1, 1) := by decide +kernel
theorem d_Law_cell_8 : decode b_Law_cell 8 = .ok (.iaload, 1) := by decide +kernel
theorem d_Law_cell_9 : decode b_Law_cell 9 = .ok (.goto 4, 3) := by decide +kernel
theorem d_Law_cell_12 : decode b_Law_cell 12 = .ok (.iconst 0, 1) := by decide +kernel
theorem d_Law_cell_13 : decode b_Law_cell 13 = .ok (.ireturn, 1) := by decide +kernel
theorem d_Law_symbol_0 : decode b_Law_symbol 0 = .ok (.aload_n 3, 1) := by decide +kernel
theorem d_Law_symbol_1 : decode b_Law_symbol 1 = .ok (.iconst 0, 1) := by decide +kernel
theorem d_Law_symbol_2 : decode b_Law_symbol 2 = .ok (.aload_n 0, 1) := by decide +kernel
theorem d_Law_symbol_3 : decode b_Law_symbol 3 = .ok (.iload_n 1, 1) := by decide +kernel
theorem d_Law_symbol_4 : decode b_Law_symbol 4 = .ok (.iload_n 2, 1) := by decide +kernel
theorem d_Law_symbol_5 : decode b_Law_symbol 5 = .ok (.invokevirtual 7, 3) := by decide +kernel
theorem d_Law_symbol_8 : decode b_Law_symbol 8 = .ok (.i2l, 1) := by decide +kernel
theorem d_Law_symbol_9 : decode b_Law_symbol 9 = .ok (.lastore, 1) := by decide +kernel
theorem d_Law_symbol_10 : decode b_Law_symbol 10 = .ok (.goto 11, 3) := by decide +kernel
theorem d_Law_symbol_13 : decode b_Law_symbol 13 = .ok (.astore 4, 2) := by decide +kernel
theorem d_Law_symbol_15 : decode b_Law_symbol 15 = .ok (.iconst 1, 1) := by decide +kernel
theorem d_Law_symbol_16 : decode b_Law_symbol 16 = .ok (.ireturn, 1) := by decide +kernel
theorem d_Law_symbol_17 : decode b_Law_symbol 17 = .ok (.astore 4, 2) := by decide +kernel
theorem d_Law_symbol_19 : decode b_Law_symbol 19 = .ok (.iconst 2, 1) := by decide +kernel
theorem d_Law_symbol_20 : decode b_Law_symbol 20 = .ok (.ireturn, 1) := by decide +kernel
theorem d_Law_symbol_21 : decode b_Law_symbol 21 = .ok (.iconst 0, 1) := by decide +kernel
theorem d_Law_symbol_22 : decode b_Law_symbol 22 = .ok (.ireturn, 1) := by decide +kernel
theorem d_Law_put_0 : decode b_Law_put 0 = .ok (.aload 5, 2) := by decide +kernel
theorem d_Law_put_2 : decode b_Law_put 2 = .ok (.iconst 0, 1) := by decide +kernel
theorem d_Law_put_3 : decode b_Law_put 3 = .ok (.aload_n 0, 1) := by decide +kernel
theorem d_Law_put_4 : decode b_Law_put 4 = .ok (.iload_n 1, 1) := by decide +kernel
theorem d_Law_put_5 : decode b_Law_put 5 = .ok (.iload_n 2, 1) := by decide +kernel
theorem d_Law_put_6 : decode b_Law_put 6 = .ok (.iload_n 3, 1) := by decide +kernel
theorem d_Law_put_7 : decode b_Law_put 7 = .ok (.iload 4, 2) := by decide +kernel
theorem d_Law_put_9 : decode b_Law_put 9 = .ok (.invokevirtual 17, 3) := by decide +kernel
theorem d_Law_put_12 : decode b_Law_put 12 = .ok (.ifCond .eq 7, 3) := by decide +kernel
theorem d_Law_put_15 : decode b_Law_put 15 = .ok (.lconst 1, 1) := by decide +kernel
theorem d_Law_put_16 : decode b_Law_put 16 = .ok (.goto 4, 3) := by decide +kernel
theorem d_Law_put_19 : decode b_Law_put 19 = .ok (.lconst 0, 1) := by decide +kernel
theorem d_Law_put_20 : decode b_Law_put 20 = .ok (.lastore, 1) := by decide +kernel
theorem d_Law_put_21 : decode b_Law_put 21 = .ok (.goto 7, 3) := by decide +kernel
theorem d_Law_put_24 : decode b_Law_put 24 = .ok (.astore 6, 2) := by decide +kernel
theorem d_Law_put_26 : decode b_Law_put 26 = .ok (.iconst 1, 1) := by decide +kernel
theorem d_Law_put_27 : decode b_Law_put 27 = .ok (.ireturn, 1) := by decide +kernel
theorem d_Law_put_28 : decode b_Law_put 28 = .ok (.iconst 0, 1) := by decide +kernel
theorem d_Law_put_29 : decode b_Law_put 29 = .ok (.ireturn, 1) := by decide +kernel
theorem d_Law_instance_0 : decode b_Law_instance 0 = .ok (.aload 4, 2) := by decide +kernel
theorem d_Law_instance_2 : decode b_Law_instance 2 = .ok (.iconst 0, 1) := by decide +kernel
theorem d_Law_instance_3 : decode b_Law_instance 3 = .ok (.aload_n 0, 1) := by decide +kernel
theorem d_Law_instance_4 : decode b_Law_instance 4 = .ok (.iload_n 1, 1) := by decide +kernel
theorem d_Law_instance_5 : decode b_Law_instance 5 = .ok (.iload_n 2, 1) := by decide +kernel
theorem d_Law_instance_6 : decode b_Law_instance 6 = .ok (.iload_n 3, 1) := by decide +kernel
theorem d_Law_instance_7 : decode b_Law_instance 7 = .ok (.invokevirtual 23, 3) := by decide +kernel
theorem d_Law_instance_10 : decode b_Law_instance 10 = .ok (.i2l, 1) := by decide +kernel
theorem d_Law_instance_11 : decode b_Law_instance 11 = .ok (.lastore, 1) := by decide +kernel
theorem d_Law_instance_12 : decode b_Law_instance 12 = .ok (.goto 15, 3) := by decide +kernel
theorem d_Law_instance_15 : decode b_Law_instance 15 = .ok (.astore 5, 2) := by decide +kernel
theorem d_Law_instance_17 : decode b_Law_instance 17 = .ok (.iconst 1, 1) := by decide +kernel
theorem d_Law_instance_18 : decode b_Law_instance 18 = .ok (.ireturn, 1) := by decide +kernel
theorem d_Law_instance_19 : decode b_Law_instance 19 = .ok (.astore 5, 2) := by decide +kernel
theorem d_Law_instance_21 : decode b_Law_instance 21 = .ok (.iconst 2, 1) := by decide +kernel
theorem d_Law_instance_22 : decode b_Law_instance 22 = .ok (.ireturn, 1) := by decide +kernel
theorem d_Law_instance_23 : decode b_Law_instance 23 = .ok (.astore 5, 2) := by decide +kernel
theorem d_Law_instance_25 : decode b_Law_instance 25 = .ok (.iconst 3, 1) := by decide +kernel
theorem d_Law_instance_26 : decode b_Law_instance 26 = .ok (.ireturn, 1) := by decide +kernel
theorem d_Law_instance_27 : decode b_Law_instance 27 = .ok (.iconst 0, 1) := by decide +kernel
theorem d_Law_instance_28 : decode b_Law_instance 28 = .ok (.ireturn, 1) := by decide +kernel
theorem d_Law_refine_0 : decode b_Law_refine 0 = .ok (.aload 5, 2) := by decide +kernel
theorem d_Law_refine_2 : decode b_Law_refine 2 = .ok (.iconst 0, 1) := by decide +kernel
theorem d_Law_refine_3 : decode b_Law_refine 3 = .ok (.aload_n 0, 1) := by decide +kernel
theorem d_Law_refine_4 : decode b_Law_refine 4 = .ok (.iload_n 1, 1) := by decide +kernel
theorem d_Law_refine_5 : decode b_Law_refine 5 = .ok (.iload_n 2, 1) := by decide +kernel
theorem d_Law_refine_6 : decode b_Law_refine 6 = .ok (.iload_n 3, 1) := by decide +kernel
theorem d_Law_refine_7 : decode b_Law_refine 7 = .ok (.iload 4, 2) := by decide +kernel
theorem d_Law_refine_9 : decode b_Law_refine 9 = .ok (.invokevirtual 27, 3) := by decide +kernel
theorem d_Law_refine_12 : decode b_Law_refine 12 = .ok (.ifCond .eq 7, 3) := by decide +kernel
theorem d_Law_refine_15 : decode b_Law_refine 15 = .ok (.lconst 1, 1) := by decide +kernel
theorem d_Law_refine_16 : decode b_Law_refine 16 = .ok (.goto 4, 3) := by decide +kernel
theorem d_Law_refine_19 : decode b_Law_refine 19 = .ok (.lconst 0, 1) := by decide +kernel
theorem d_Law_refine_20 : decode b_Law_refine 20 = .ok (.lastore, 1) := by decide +kernel
theorem d_Law_refine_21 : decode b_Law_refine 21 = .ok (.goto 7, 3) := by decide +kernel
theorem d_Law_refine_24 : decode b_Law_refine 24 = .ok (.astore 6, 2) := by decide +kernel
theorem d_Law_refine_26 : decode b_Law_refine 26 = .ok (.iconst 1, 1) := by decide +kernel
theorem d_Law_refine_27 : decode b_Law_refine 27 = .ok (.ireturn, 1) := by decide +kernel
theorem d_Law_refine_28 : decode b_Law_refine 28 = .ok (.iconst 0, 1) := by decide +kernel
theorem d_Law_refine_29 : decode b_Law_refine 29 = .ok (.ireturn, 1) := by decide +kernel
theorem d_Law_way_0 : decode b_Law_way 0 = .ok (.aload_n 3, 1) := by decide +kernel
theorem d_Law_way_1 : decode b_Law_way 1 = .ok (.iconst 0, 1) := by decide +kernel
theorem d_Law_way_2 : decode b_Law_way 2 = .ok (.aload_n 0, 1) := by decide +kernel
theorem d_Law_way_3 : decode b_Law_way 3 = .ok (.iload_n 1, 1) := by decide +kernel
theorem d_Law_way_4 : decode b_Law_way 4 = .ok (.iload_n 2, 1) := by decide +kernel
theorem d_Law_way_5 : decode b_Law_way 5 = .ok (.invokevirtual 30, 3) := by decide +kernel
theorem d_Law_way_8 : decode b_Law_way 8 = .ok (.i2l, 1) := by decide +kernel
theorem d_Law_way_9 : decode b_Law_way 9 = .ok (.lastore, 1) := by decide +kernel
theorem d_Law_way_10 : decode b_Law_way 10 = .ok (.goto 7, 3) := by decide +kernel
theorem d_Law_way_13 : decode b_Law_way 13 = .ok (.astore 4, 2) := by decide +kernel
theorem d_Law_way_15 : decode b_Law_way 15 = .ok (.iconst 1, 1) := by decide +kernel
theorem d_Law_way_16 : decode b_Law_way 16 = .ok (.ireturn, 1) := by decide +kernel
theorem d_Law_way_17 : decode b_Law_way 17 = .ok (.iconst 0, 1) := by decide +kernel
theorem d_Law_way_18 : decode b_Law_way 18 = .ok (.ireturn, 1) := by decide +kernel
theorem d_Law_order_0 : decode b_Law_order 0 = .ok (.aload_n 2, 1) := by decide +kernel
theorem d_Law_order_1 : decode b_Law_order 1 = .ok (.iconst 0, 1) := by decide +kernel
theorem d_Law_order_2 : decode b_Law_order 2 = .ok (.aload_n 0, 1) := by decide +kernel
theorem d_Law_order_3 : decode b_Law_order 3 = .ok (.iload_n 1, 1) := by decide +kernel
theorem d_Law_order_4 : decode b_Law_order 4 = .ok (.invokevirtual 33, 3) := by decide +kernel
theorem d_Law_order_7 : decode b_Law_order 7 = .ok (.i2l, 1) := by decide +kernel
theorem d_Law_order_8 : decode b_Law_order 8 = .ok (.lastore, 1) := by decide +kernel
theorem d_Law_order_9 : decode b_Law_order 9 = .ok (.goto 6, 3) := by decide +kernel
theorem d_Law_order_12 : decode b_Law_order 12 = .ok (.astore_n 3, 1) := by decide +kernel
theorem d_Law_order_13 : decode b_Law_order 13 = .ok (.iconst 1, 1) := by decide +kernel
theorem d_Law_order_14 : decode b_Law_order 14 = .ok (.ireturn, 1) := by decide +kernel
theorem d_Law_order_15 : decode b_Law_order 15 = .ok (.iconst 0, 1) := by decide +kernel
theorem d_Law_order_16 : decode b_Law_order 16 = .ok (.ireturn, 1) := by decide +kernel
theorem d_Law_at_0 : decode b_Law_at 0 = .ok (.aload_n 3, 1) := by decide +kernel
theorem d_Law_at_1 : decode b_Law_at 1 = .ok (.iconst 0, 1) := by decide +kernel
theorem d_Law_at_2 : decode b_Law_at 2 = .ok (.aload_n 0, 1) := by decide +kernel
theorem d_Law_at_3 : decode b_Law_at 3 = .ok (.iload_n 1, 1) := by decide +kernel
theorem d_Law_at_4 : decode b_Law_at 4 = .ok (.iload_n 2, 1) := by decide +kernel
theorem d_Law_at_5 : decode b_Law_at 5 = .ok (.invokevirtual 37, 3) := by decide +kernel
theorem d_Law_at_8 : decode b_Law_at 8 = .ok (.ifCond .eq 7, 3) := by decide +kernel
theorem d_Law_at_11 : decode b_Law_at 11 = .ok (.lconst 1, 1) := by decide +kernel
theorem d_Law_at_12 : decode b_Law_at 12 = .ok (.goto 4, 3) := by decide +kernel
theorem d_Law_at_15 : decode b_Law_at 15 = .ok (.lconst 0, 1) := by decide +kernel
theorem d_Law_at_16 : decode b_Law_at 16 = .ok (.lastore, 1) := by decide +kernel
theorem d_Law_at_17 : decode b_Law_at 17 = .ok (.goto 7, 3) := by decide +kernel
theorem d_Law_at_20 : decode b_Law_at 20 = .ok (.astore 4, 2) := by decide +kernel
theorem d_Law_at_22 : decode b_Law_at 22 = .ok (.iconst 1, 1) := by decide +kernel
theorem d_Law_at_23 : decode b_Law_at 23 = .ok (.ireturn, 1) := by decide +kernel
theorem d_Law_at_24 : decode b_Law_at 24 = .ok (.iconst 0, 1) := by decide +kernel
theorem d_Law_at_25 : decode b_Law_at 25 = .ok (.ireturn, 1) := by decide +kernel
theorem d_Law_byteAt_0 : decode b_Law_byteAt 0 = .ok (.aload_n 2, 1) := by decide +kernel
theorem d_Law_byteAt_1 : decode b_Law_byteAt 1 = .ok (.iconst 0, 1) := by decide +kernel
theorem d_Law_byteAt_2 : decode b_Law_byteAt 2 = .ok (.aload_n 0, 1) := by decide +kernel
theorem d_Law_byteAt_3 : decode b_Law_byteAt 3 = .ok (.iload_n 1, 1) := by decide +kernel
theorem d_Law_byteAt_4 : decode b_Law_byteAt 4 = .ok (.invokevirtual 41, 3) := by decide +kernel
theorem d_Law_byteAt_7 : decode b_Law_byteAt 7 = .ok (.i2l, 1) := by decide +kernel
theorem d_Law_byteAt_8 : decode b_Law_byteAt 8 = .ok (.lastore, 1) := by decide +kernel
theorem d_Law_byteAt_9 : decode b_Law_byteAt 9 = .ok (.goto 6, 3) := by decide +kernel
theorem d_Law_byteAt_12 : decode b_Law_byteAt 12 = .ok (.astore_n 3, 1) := by decide +kernel
theorem d_Law_byteAt_13 : decode b_Law_byteAt 13 = .ok (.iconst 1, 1) := by decide +kernel
theorem d_Law_byteAt_14 : decode b_Law_byteAt 14 = .ok (.ireturn, 1) := by decide +kernel
theorem d_Law_byteAt_15 : decode b_Law_byteAt 15 = .ok (.iconst 0, 1) := by decide +kernel
theorem d_Law_byteAt_16 : decode b_Law_byteAt 16 = .ok (.ireturn, 1) := by decide +kernel
theorem d_Law_feed_0 : decode b_Law_feed 0 = .ok (.aload_n 2, 1) := by decide +kernel
theorem d_Law_feed_1 : decode b_Law_feed 1 = .ok (.iconst 0, 1) := by decide +kernel
theorem d_Law_feed_2 : decode b_Law_feed 2 = .ok (.aload_n 0, 1) := by decide +kernel
theorem d_Law_feed_3 : decode b_Law_feed 3 = .ok (.iload_n 1, 1) := by decide +kernel
theorem d_Law_feed_4 : decode b_Law_feed 4 = .ok (.invokevirtual 44, 3) := by decide +kernel
theorem d_Law_feed_7 : decode b_Law_feed 7 = .ok (.i2l, 1) := by decide +kernel
theorem d_Law_feed_8 : decode b_Law_feed 8 = .ok (.lastore, 1) := by decide +kernel
theorem d_Law_feed_9 : decode b_Law_feed 9 = .ok (.goto 9, 3) := by decide +kernel
theorem d_Law_feed_12 : decode b_Law_feed 12 = .ok (.astore_n 3, 1) := by decide +kernel
theorem d_Law_feed_13 : decode b_Law_feed 13 = .ok (.iconst 1, 1) := by decide +kernel
theorem d_Law_feed_14 : decode b_Law_feed 14 = .ok (.ireturn, 1) := by decide +kernel
theorem d_Law_feed_15 : decode b_Law_feed 15 = .ok (.astore_n 3, 1) := by decide +kernel
theorem d_Law_feed_16 : decode b_Law_feed 16 = .ok (.iconst 2, 1) := by decide +kernel
theorem d_Law_feed_17 : decode b_Law_feed 17 = .ok (.ireturn, 1) := by decide +kernel
theorem d_Law_feed_18 : decode b_Law_feed 18 = .ok (.iconst 0, 1) := by decide +kernel
theorem d_Law_feed_19 : decode b_Law_feed 19 = .ok (.ireturn, 1) := by decide +kernel
theorem d_Law_pass_0 : decode b_Law_pass 0 = .ok (.aload_n 1, 1) := by decide +kernel
theorem d_Law_pass_1 : decode b_Law_pass 1 = .ok (.iconst 0, 1) := by decide +kernel
theorem d_Law_pass_2 : decode b_Law_pass 2 = .ok (.aload_n 0, 1) := by decide +kernel
theorem d_Law_pass_3 : decode b_Law_pass 3 = .ok (.invokevirtual 47, 3) := by decide +kernel
theorem d_Law_pass_6 : decode b_Law_pass 6 = .ok (.i2l, 1) := by decide +kernel
theorem d_Law_pass_7 : decode b_Law_pass 7 = .ok (.lastore, 1) := by decide +kernel
theorem d_Law_pass_8 : decode b_Law_pass 8 = .ok (.goto 6, 3) := by decide +kernel
theorem d_Law_pass_11 : decode b_Law_pass 11 = .ok (.astore_n 2, 1) := by decide +kernel
theorem d_Law_pass_12 : decode b_Law_pass 12 = .ok (.iconst 1, 1) := by decide +kernel
theorem d_Law_pass_13 : decode b_Law_pass 13 = .ok (.ireturn, 1) := by decide +kernel
theorem d_Law_pass_14 : decode b_Law_pass 14 = .ok (.iconst 0, 1) := by decide +kernel
theorem d_Law_pass_15 : decode b_Law_pass 15 = .ok (.ireturn, 1) := by decide +kernel
theorem d_Law_place_0 : decode b_Law_place 0 = .ok (.aload_n 3, 1) := by decide +kernel
theorem d_Law_place_1 : decode b_Law_place 1 = .ok (.iconst 0, 1) := by decide +kernel
theorem d_Law_place_2 : decode b_Law_place 2 = .ok (.aload_n 0, 1) := by decide +kernel
theorem d_Law_place_3 : decode b_Law_place 3 = .ok (.iload_n 1, 1) := by decide +kernel
theorem d_Law_place_4 : decode b_Law_place 4 = .ok (.iload_n 2, 1) := by decide +kernel
theorem d_Law_place_5 : decode b_Law_place 5 = .ok (.invokevirtual 51, 3) := by decide +kernel
theorem d_Law_place_8 : decode b_Law_place 8 = .ok (.i2l, 1) := by decide +kernel
theorem d_Law_place_9 : decode b_Law_place 9 = .ok (.lastore, 1) := by decide +kernel
theorem d_Law_place_10 : decode b_Law_place 10 = .ok (.goto 7, 3) := by decide +kernel
theorem d_Law_place_13 : decode b_Law_place 13 = .ok (.astore 4, 2) := by decide +kernel
theorem d_Law_place_15 : decode b_Law_place 15 = .ok (.iconst 1, 1) := by decide +kernel
theorem d_Law_place_16 : decode b_Law_place 16 = .ok (.ireturn, 1) := by decide +kernel
theorem d_Law_place_17 : decode b_Law_place 17 = .ok (.iconst 0, 1) := by decide +kernel
theorem d_Law_place_18 : decode b_Law_place 18 = .ok (.ireturn, 1) := by decide +kernel

def ws_Law_symbol : List Cond := .codeWith y_Law_symbol b_Law_symbol 5 (some .int) [(0, 10, 13, 13), (0, 10, 17, 15)] :: BIG
def ws_Law_put : List Cond := .codeWith y_Law_put b_Law_put 7 (some .int) [(0, 21, 24, 21)] :: BIG
def ws_Law_instance : List Cond := .codeWith y_Law_instance b_Law_instance 6 (some .int) [(0, 12, 15, 21), (0, 12, 19, 13), (0, 12, 23, 15)] :: BIG
def ws_Law_refine : List Cond := .codeWith y_Law_refine b_Law_refine 7 (some .int) [(0, 21, 24, 21)] :: BIG
def ws_Law_way : List Cond := .codeWith y_Law_way b_Law_way 5 (some .int) [(0, 10, 13, 13)] :: BIG
def ws_Law_order : List Cond := .codeWith y_Law_order b_Law_order 4 (some .int) [(0, 9, 12, 13)] :: BIG
def ws_Law_at : List Cond := .codeWith y_Law_at b_Law_at 5 (some .int) [(0, 17, 20, 21)] :: BIG
def ws_Law_byteAt : List Cond := .codeWith y_Law_byteAt b_Law_byteAt 4 (some .int) [(0, 9, 12, 21)] :: BIG
def ws_Law_feed : List Cond := .codeWith y_Law_feed b_Law_feed 4 (some .int) [(0, 9, 12, 13), (0, 9, 15, 15)] :: BIG
def ws_Law_pass : List Cond := .codeWith y_Law_pass b_Law_pass 3 (some .int) [(0, 8, 11, 15)] :: BIG
def ws_Law_place : List Cond := .codeWith y_Law_place b_Law_place 5 (some .int) [(0, 10, 13, 21)] :: BIG
def f_Law_symbol (out : (Nat → Int64)) (di_count : Int32) (di_widths : (Nat → Int32)) (di_heights : (Nat → Int32)) (di_samples : (Nat → Int64)) (p1 : Int32) (p2 : Int32) : Option (Int32 × (Nat → Int64) × Int32 × (Nat → Int32) × (Nat → Int32) × (Nat → Int64)) :=
  bd (f_Top_symbol di_count di_widths di_heights di_samples p1 p2) fun
  | .inl ex_5 =>
    if ex_5 = "java/lang/IllegalArgumentException" then
      some ((1 : Int32), out, di_count, di_widths, di_heights, di_samples)
    else
    if ex_5 = "java/lang/UnsupportedOperationException" then
      some ((2 : Int32), out, di_count, di_widths, di_heights, di_samples)
    else
      none
  | .inr (r_1, di_count_2, di_widths_3, di_heights_4, di_samples_5) =>
    nl (r_1).toInt64 fun w_6 =>
    gq (0 : Int32) 1 <|
    some ((0 : Int32), (vp_updL out ((0 : Int32)).toNatClampNeg w_6), di_count_2, di_widths_3, di_heights_4, di_samples_5)


def f_Law_put (out : (Nat → Int64)) (di_count : Int32) (di_widths : (Nat → Int32)) (di_heights : (Nat → Int32)) (di_samples : (Nat → Int64)) (p1 : Int32) (p2 : Int32) (p3 : Int32) (p4 : Int32) : Option (Int32 × (Nat → Int64) × (Nat → Int64)) :=
  bd (f_Top_put di_count di_widths di_heights di_samples p1 p2 p3 p4) fun
  | .inl ex_9 =>
    if ex_9 = "java/lang/IndexOutOfBoundsException" then
      some ((1 : Int32), out, di_samples)
    else
      none
  | .inr (r_1, di_samples_2) =>
    jn (fun (s_3 : Int32) (s_4 : Int64) =>
        gq s_3 1 <|
        some ((0 : Int32), (vp_updL out (s_3).toNatClampNeg s_4), di_samples_2)) fun j20 =>
    if r_1 = 0 then
      j20 (0 : Int32) (0 : Int64)
    else
      j20 (0 : Int32) (1 : Int64)


def f_Law_instance (out : (Nat → Int64)) (di_count : Int32) (la_count : Int32) (la_symbolOf : (Nat → Int32)) (la_xs : (Nat → Int32)) (la_ys : (Nat → Int32)) (la_differs : (Nat → Int64)) (p1 : Int32) (p2 : Int32) (p3 : Int32) : Option (Int32 × (Nat → Int64) × Int32 × (Nat → Int32) × (Nat → Int32) × (Nat → Int32) × (Nat → Int64)) :=
  bd (f_Top_instance di_count la_count la_symbolOf la_xs la_ys la_differs p1 p2 p3) fun
  | .inl ex_7 =>
    if ex_7 = "java/lang/IndexOutOfBoundsException" then
      some ((1 : Int32), out, la_count, la_symbolOf, la_xs, la_ys, la_differs)
    else
    if ex_7 = "java/lang/IllegalArgumentException" then
      some ((2 : Int32), out, la_count, la_symbolOf, la_xs, la_ys, la_differs)
    else
    if ex_7 = "java/lang/UnsupportedOperationException" then
      some ((3 : Int32), out, la_count, la_symbolOf, la_xs, la_ys, la_differs)
    else
      none
  | .inr (r_1, la_count_2, la_symbolOf_3, la_xs_4, la_ys_5, la_differs_6) =>
    nl (r_1).toInt64 fun w_7 =>
    gq (0 : Int32) 1 <|
    some ((0 : Int32), (vp_updL out ((0 : Int32)).toNatClampNeg w_7), la_count_2, la_symbolOf_3, la_xs_4, la_ys_5, la_differs_6)


def f_Law_refine (out : (Nat → Int64)) (la_count : Int32) (la_symbolOf : (Nat → Int32)) (di_widths : (Nat → Int32)) (di_heights : (Nat → Int32)) (la_differs : (Nat → Int64)) (p1 : Int32) (p2 : Int32) (p3 : Int32) (p4 : Int32) : Option (Int32 × (Nat → Int64) × (Nat → Int64)) :=
  bd (f_Top_refine la_count la_symbolOf di_widths di_heights la_differs p1 p2 p3 p4) fun
  | .inl ex_9 =>
    if ex_9 = "java/lang/IndexOutOfBoundsException" then
      some ((1 : Int32), out, la_differs)
    else
      none
  | .inr (r_1, la_differs_2) =>
    jn (fun (s_3 : Int32) (s_4 : Int64) =>
        gq s_3 1 <|
        some ((0 : Int32), (vp_updL out (s_3).toNatClampNeg s_4), la_differs_2)) fun j20 =>
    if r_1 = 0 then
      j20 (0 : Int32) (0 : Int64)
    else
      j20 (0 : Int32) (1 : Int64)


def f_Law_way (out : (Nat → Int64)) (la_ways : (Nat → Int32)) (p1 : Int32) (p2 : Int32) : Option (Int32 × (Nat → Int64) × (Nat → Int32)) :=
  bd (f_Top_way la_ways p1 p2) fun
  | .inl ex_5 =>
    if ex_5 = "java/lang/IllegalArgumentException" then
      some ((1 : Int32), out, la_ways)
    else
      none
  | .inr (r_1, la_ways_2) =>
    nl (r_1).toInt64 fun w_3 =>
    gq (0 : Int32) 1 <|
    some ((0 : Int32), (vp_updL out ((0 : Int32)).toNatClampNeg w_3), la_ways_2)


def f_Law_at (out : (Nat → Int64)) (pg_width : Int32) (pg_height : Int32) (n_pg_dark : Nat) (pg_dark : (Nat → Int32)) (p1 : Int32) (p2 : Int32) : Option (Int32 × (Nat → Int64)) :=
  bd (f_Top_at pg_width pg_height n_pg_dark pg_dark p1 p2) fun
  | .inl ex_5 =>
    if ex_5 = "java/lang/IndexOutOfBoundsException" then
      some ((1 : Int32), out)
    else
      none
  | .inr r_1 =>
    jn (fun (s_2 : Int32) (s_3 : Int64) =>
        gq s_2 1 <|
        some ((0 : Int32), (vp_updL out (s_2).toNatClampNeg s_3))) fun j16 =>
    if r_1 = 0 then
      j16 (0 : Int32) (0 : Int64)
    else
      j16 (0 : Int32) (1 : Int64)


def f_Law_byteAt (out : (Nat → Int64)) (tb_count : Int32) (tb_bytes : (Nat → Int32)) (p1 : Int32) : Option (Int32 × (Nat → Int64)) :=
  bd (f_Top_byteAt tb_count tb_bytes p1) fun
  | .inl ex_4 =>
    if ex_4 = "java/lang/IndexOutOfBoundsException" then
      some ((1 : Int32), out)
    else
      none
  | .inr r_1 =>
    nl (r_1).toInt64 fun w_2 =>
    gq (0 : Int32) 1 <|
    some ((0 : Int32), (vp_updL out ((0 : Int32)).toNatClampNeg w_2))


def f_Law_feed (out : (Nat → Int64)) (cb_count : Int32) (cb_bytes : (Nat → Int32)) (p1 : Int32) : Option (Int32 × (Nat → Int64) × Int32 × (Nat → Int32)) :=
  bd (f_Top_feed cb_count cb_bytes p1) fun
  | .inl ex_4 =>
    if ex_4 = "java/lang/IllegalArgumentException" then
      some ((1 : Int32), out, cb_count, cb_bytes)
    else
    if ex_4 = "java/lang/UnsupportedOperationException" then
      some ((2 : Int32), out, cb_count, cb_bytes)
    else
      none
  | .inr (r_1, cb_count_2, cb_bytes_3) =>
    nl (r_1).toInt64 fun w_4 =>
    gq (0 : Int32) 1 <|
    some ((0 : Int32), (vp_updL out ((0 : Int32)).toNatClampNeg w_4), cb_count_2, cb_bytes_3)


def f_Law_pass (out : (Nat → Int64)) (tb_count : Int32) (cb_count : Int32) (tb_bytes : (Nat → Int32)) (cb_bytes : (Nat → Int32)) : Option (Int32 × (Nat → Int64) × Int32 × (Nat → Int32)) :=
  bd (f_Top_pass tb_count cb_count tb_bytes cb_bytes) fun
  | .inl ex_3 =>
    if ex_3 = "java/lang/UnsupportedOperationException" then
      some ((1 : Int32), out, cb_count, cb_bytes)
    else
      none
  | .inr (r_1, cb_count_2, cb_bytes_3) =>
    nl (r_1).toInt64 fun w_4 =>
    gq (0 : Int32) 1 <|
    some ((0 : Int32), (vp_updL out ((0 : Int32)).toNatClampNeg w_4), cb_count_2, cb_bytes_3)


def f_Law_place (out : (Nat → Int64)) (la_count : Int32) (la_symbolOf : (Nat → Int32)) (la_xs : (Nat → Int32)) (la_ys : (Nat → Int32)) (la_ways : (Nat → Int32)) (di_widths : (Nat → Int32)) (di_heights : (Nat → Int32)) (la_differs : (Nat → Int64)) (p1 : Int32) (p2 : Int32) : Option (Int32 × (Nat → Int64)) :=
  bd (f_Top_place la_count la_symbolOf la_xs la_ys la_ways di_widths di_heights la_differs p1 p2) fun
  | .inl ex_5 =>
    if ex_5 = "java/lang/IndexOutOfBoundsException" then
      some ((1 : Int32), out)
    else
      none
  | .inr r_1 =>
    nl (r_1).toInt64 fun w_2 =>
    gq (0 : Int32) 1 <|
    some ((0 : Int32), (vp_updL out ((0 : Int32)).toNatClampNeg w_2))


def f_Law_order_C (out : (Nat → Int64)) (la_count : Int32) (la_ways : (Nat → Int32)) (la_ys : (Nat → Int32)) (la_symbolOf : (Nat → Int32)) (di_count : Int32) (di_heights : (Nat → Int32)) (la_xs : (Nat → Int32)) (di_widths : (Nat → Int32)) (la_sequence : (Nat → Int32)) (na_weights : (Nat → Int32)) (na_joinedTo : (Nat → Int32)) (na_lengths : (Nat → Int32)) (na_codes : (Nat → Int32)) (wr_keeping : Int32) (wr_count : Int32) (tb_count : Int32) (tb_bytes : (Nat → Int32)) (la_differs : (Nat → Int64)) (p1 : Int32) : Option (Int32 × (Nat → Int64) × (Nat → Int32) × (Nat → Int32) × (Nat → Int32) × (Nat → Int32) × (Nat → Int32) × (Nat → Int32) × (Nat → Int32) × (Nat → Int32) × Int32 × Int32 × Int32 × (Nat → Int32) × (Nat → Int64)) :=
  bd (f_Top_order_C la_count la_ways la_ys la_symbolOf di_count di_heights la_xs di_widths la_sequence na_weights na_joinedTo na_lengths na_codes wr_keeping wr_count tb_count tb_bytes la_differs p1) fun
  | .inl ex_4 =>
    if ex_4 = "java/lang/IllegalArgumentException" then
      some ((1 : Int32), out, la_ys, la_symbolOf, la_xs, la_sequence, na_weights, na_joinedTo, na_lengths, na_codes, wr_keeping, wr_count, tb_count, tb_bytes, la_differs)
    else
      none
  | .inr (r_1, la_ys_2, la_symbolOf_3, la_xs_4, la_sequence_5, na_weights_6, na_joinedTo_7, na_lengths_8, na_codes_9, wr_keeping_10, wr_count_11, tb_count_12, tb_bytes_13, la_differs_14) =>
    nl (r_1).toInt64 fun w_15 =>
    gq (0 : Int32) 1 <|
    some ((0 : Int32), (vp_updL out ((0 : Int32)).toNatClampNeg w_15), la_ys_2, la_symbolOf_3, la_xs_4, la_sequence_5, na_weights_6, na_joinedTo_7, na_lengths_8, na_codes_9, wr_keeping_10, wr_count_11, tb_count_12, tb_bytes_13, la_differs_14)


def f_Law_order_F (out : (Nat → Int64)) (la_count : Int32) (la_ways : (Nat → Int32)) (la_ys : (Nat → Int32)) (la_symbolOf : (Nat → Int32)) (di_count : Int32) (di_heights : (Nat → Int32)) (la_xs : (Nat → Int32)) (di_widths : (Nat → Int32)) (la_sequence : (Nat → Int32)) (wr_keeping : Int32) (wr_count : Int32) (tb_count : Int32) (tb_bytes : (Nat → Int32)) (na_row : (Nat → Int32)) (la_differs : (Nat → Int64)) (p1 : Int32) : Option (Int32 × (Nat → Int64) × (Nat → Int32) × (Nat → Int32) × (Nat → Int32) × (Nat → Int32) × Int32 × Int32 × Int32 × (Nat → Int32) × (Nat → Int32) × (Nat → Int64)) :=
  bd (f_Top_order_F la_count la_ways la_ys la_symbolOf di_count di_heights la_xs di_widths la_sequence wr_keeping wr_count tb_count tb_bytes na_row la_differs p1) fun
  | .inl ex_4 =>
    if ex_4 = "java/lang/IllegalArgumentException" then
      some ((1 : Int32), out, la_ys, la_symbolOf, la_xs, la_sequence, wr_keeping, wr_count, tb_count, tb_bytes, na_row, la_differs)
    else
      none
  | .inr (r_1, la_ys_2, la_symbolOf_3, la_xs_4, la_sequence_5, wr_keeping_6, wr_count_7, tb_count_8, tb_bytes_9, na_row_10, la_differs_11) =>
    nl (r_1).toInt64 fun w_12 =>
    gq (0 : Int32) 1 <|
    some ((0 : Int32), (vp_updL out ((0 : Int32)).toNatClampNeg w_12), la_ys_2, la_symbolOf_3, la_xs_4, la_sequence_5, wr_keeping_6, wr_count_7, tb_count_8, tb_bytes_9, na_row_10, la_differs_11)

