/-! what holds at the law's entry: nw, stt, xw, xn, and the good words -/
theorem st_big {b : Nat} {s : State} (hts : ∀ w ∈ lw_tbl, w.before #[Value.ref b] s = true) : ∀ w ∈ BIG, w.before #[Value.ref b] s = true := fun w h => hts w (big_lw w h)
theorem fwl_in : ∀ q ∈ fwl, Cond.declares q.2.1 ∈ tables_1 ∧ Cond.interfaceMethod q.2.1.cls q.2.1.cls q.2.1.name q.2.1.desc ∈ tables_1 ∧ Cond.publicMethod q.2.2 ∈ tables_1 ∧ Cond.unhidden q.1 q.2.1.name q.2.1.desc ∈ tables_1 ∧ Cond.castable q.1 q.2.1.cls ∈ tables_1 := by decide +kernel
theorem st_nw {b : Nat} {s : State} (hts : ∀ w ∈ lw_tbl, w.before #[Value.ref b] s = true) : nw s := by
  have ht : ∀ w ∈ tables_1, w.before #[Value.ref b] s = true := fun w h => hts w (List.mem_append_right _ h)
  refine ⟨fun w hw => va_Nw.of (nest_tab (List.mem_filter.mp hw).2) (ht w (List.mem_filter.mp hw).1), fun q hq => ?_⟩
  obtain ⟨h1, h2, h3, h4, h5⟩ := fwl_in q hq
  exact va_Fw.of (ht _ h1) (ht _ h2) (ht _ h3) (ht _ h4) (ht _ h5)
theorem st_xw {b : Nat} {s : State} (hts : ∀ w ∈ lw_tbl, w.before #[Value.ref b] s = true) (hgv : (Jvm.Cond.and given_1 narrow_1).before #[Value.ref b] s = true) : xw s := by
  have ht : ∀ w ∈ tables_1, w.before #[Value.ref b] s = true := fun w h => hts w (List.mem_append_right _ h)
  have hs := flat_of_before _ hgv
  refine ⟨fun w hw => va_Nw.of (x_tab (List.mem_filter.mp hw).2) (ht w (List.mem_filter.mp hw).1), fun w hw => ?_, fun w hw => ?_⟩
  · have h1 : (Cond.isRef (.static Bundle.tN "UNASSIGNED_STACK" Bundle.steD)).before #[Value.ref b] s = true := hs _ (by decide +kernel)
    have h2 : (Cond.isRef (.static Bundle.tN "SUPPRESSED_SENTINEL" Bundle.listD)).before #[Value.ref b] s = true := hs _ (by decide +kernel)
    have h3 : (Cond.laysStatic Bundle.tN "UNASSIGNED_STACK" Bundle.steD).before #[Value.ref b] s = true := ht _ (by decide +kernel)
    have h4 : (Cond.laysStatic Bundle.tN "SUPPRESSED_SENTINEL" Bundle.listD).before #[Value.ref b] s = true := ht _ (by decide +kernel)
    simp only [xhl, List.mem_cons, List.not_mem_nil, or_false] at hw
    rcases hw with rfl | rfl | rfl | rfl
    · exact h1
    · exact h2
    · exact h3
    · exact h4
  · have h9 := ht w (List.mem_filter.mp hw).1
    have g := (List.mem_filter.mp hw).2
    cases w <;> first | exact h9 | (simp [isStr] at g)
theorem xnl_in : ∀ w ∈ xnl, w ∈ flatC (Jvm.Cond.and given_1 narrow_1) := by decide +kernel
theorem st_xn {b : Nat} {s : State} (hgv : (Jvm.Cond.and given_1 narrow_1).before #[Value.ref b] s = true) : xn s := by
  intro w hw
  have h9 := flat_of_before _ hgv w (xnl_in w hw)
  simp only [xnl, List.mem_cons, List.not_mem_nil, or_false] at hw
  rcases hw with rfl | rfl | rfl | rfl | rfl | rfl <;> exact h9
theorem st_MOST_OF_WAY {b : Nat} {s : State} {A : Nat → Prop} (hA : ∀ a : Nat, a < s.heap.size → ¬ A a) (hts : ∀ w ∈ lw_tbl, w.before #[Value.ref b] s = true) (hgv : (Jvm.Cond.and given_1 narrow_1).before #[Value.ref b] s = true) : stt1 "MOST_OF_WAY" tb_MOST_OF_WAY A s s.heap := by
  have ht : ∀ w ∈ tables_1, w.before #[Value.ref b] s = true := fun w h => hts w (List.mem_append_right _ h)
  have hs := flat_of_before _ hgv
  obtain ⟨t, h1, h2⟩ := va_Tof (tm := .static "TextRegions" "MOST_OF_WAY" "[I") (ty := .int) (N := 4) (f := fun k => .int (tb_MOST_OF_WAY k)) (A := A) (by decide) (hs _ (by decide +kernel)) (va_eqt (hs (.eq (.length (.static "TextRegions" "MOST_OF_WAY" "[I")) (.int 4)) (by decide +kernel))) (fun j hj => by
    match j, hj with
    | 0, _ => exact va_eqt (hs (.eq (.elem (.static "TextRegions" "MOST_OF_WAY" "[I") (.int 0)) (.int 3)) (by decide +kernel))
    | 1, _ => exact va_eqt (hs (.eq (.elem (.static "TextRegions" "MOST_OF_WAY" "[I") (.int 1)) (.int 1)) (by decide +kernel))
    | 2, _ => exact va_eqt (hs (.eq (.elem (.static "TextRegions" "MOST_OF_WAY" "[I") (.int 2)) (.int 3)) (by decide +kernel))
    | 3, _ => exact va_eqt (hs (.eq (.elem (.static "TextRegions" "MOST_OF_WAY" "[I") (.int 3)) (.int 4)) (by decide +kernel))
    | k + 4, h => exact absurd h (by omega)) hA
  exact ⟨t, va_Zref (ht _ (by decide +kernel)) (ht (.initialized "TextRegions") (by decide +kernel)) h1 hA, h2⟩
theorem st_BITS_OF_WAY {b : Nat} {s : State} {A : Nat → Prop} (hA : ∀ a : Nat, a < s.heap.size → ¬ A a) (hts : ∀ w ∈ lw_tbl, w.before #[Value.ref b] s = true) (hgv : (Jvm.Cond.and given_1 narrow_1).before #[Value.ref b] s = true) : stt1 "BITS_OF_WAY" tb_BITS_OF_WAY A s s.heap := by
  have ht : ∀ w ∈ tables_1, w.before #[Value.ref b] s = true := fun w h => hts w (List.mem_append_right _ h)
  have hs := flat_of_before _ hgv
  obtain ⟨t, h1, h2⟩ := va_Tof (tm := .static "TextRegions" "BITS_OF_WAY" "[I") (ty := .int) (N := 4) (f := fun k => .int (tb_BITS_OF_WAY k)) (A := A) (by decide) (hs _ (by decide +kernel)) (va_eqt (hs (.eq (.length (.static "TextRegions" "BITS_OF_WAY" "[I")) (.int 4)) (by decide +kernel))) (fun j hj => by
    match j, hj with
    | 0, _ => exact va_eqt (hs (.eq (.elem (.static "TextRegions" "BITS_OF_WAY" "[I") (.int 0)) (.int 2)) (by decide +kernel))
    | 1, _ => exact va_eqt (hs (.eq (.elem (.static "TextRegions" "BITS_OF_WAY" "[I") (.int 1)) (.int 1)) (by decide +kernel))
    | 2, _ => exact va_eqt (hs (.eq (.elem (.static "TextRegions" "BITS_OF_WAY" "[I") (.int 2)) (.int 2)) (by decide +kernel))
    | 3, _ => exact va_eqt (hs (.eq (.elem (.static "TextRegions" "BITS_OF_WAY" "[I") (.int 3)) (.int 3)) (by decide +kernel))
    | k + 4, h => exact absurd h (by omega)) hA
  exact ⟨t, va_Zref (ht _ (by decide +kernel)) (ht (.initialized "TextRegions") (by decide +kernel)) h1 hA, h2⟩
theorem st_WAYS_AS_TOLD {b : Nat} {s : State} {A : Nat → Prop} (hA : ∀ a : Nat, a < s.heap.size → ¬ A a) (hts : ∀ w ∈ lw_tbl, w.before #[Value.ref b] s = true) (hgv : (Jvm.Cond.and given_1 narrow_1).before #[Value.ref b] s = true) : stt1 "WAYS_AS_TOLD" tb_WAYS_AS_TOLD A s s.heap := by
  have ht : ∀ w ∈ tables_1, w.before #[Value.ref b] s = true := fun w h => hts w (List.mem_append_right _ h)
  have hs := flat_of_before _ hgv
  obtain ⟨t, h1, h2⟩ := va_Tof (tm := .static "TextRegions" "WAYS_AS_TOLD" "[I") (ty := .int) (N := 4) (f := fun k => .int (tb_WAYS_AS_TOLD k)) (A := A) (by decide) (hs _ (by decide +kernel)) (va_eqt (hs (.eq (.length (.static "TextRegions" "WAYS_AS_TOLD" "[I")) (.int 4)) (by decide +kernel))) (fun j hj => by
    match j, hj with
    | 0, _ => exact va_eqt (hs (.eq (.elem (.static "TextRegions" "WAYS_AS_TOLD" "[I") (.int 0)) (.int 2)) (by decide +kernel))
    | 1, _ => exact va_eqt (hs (.eq (.elem (.static "TextRegions" "WAYS_AS_TOLD" "[I") (.int 1)) (.int 1)) (by decide +kernel))
    | 2, _ => exact va_eqt (hs (.eq (.elem (.static "TextRegions" "WAYS_AS_TOLD" "[I") (.int 2)) (.int 0)) (by decide +kernel))
    | 3, _ => exact va_eqt (hs (.eq (.elem (.static "TextRegions" "WAYS_AS_TOLD" "[I") (.int 3)) (.int 3)) (by decide +kernel))
    | k + 4, h => exact absurd h (by omega)) hA
  exact ⟨t, va_Zref (ht _ (by decide +kernel)) (ht (.initialized "TextRegions") (by decide +kernel)) h1 hA, h2⟩
theorem st_stt {b : Nat} {s : State} {A : Nat → Prop} (hA : ∀ a : Nat, a < s.heap.size → ¬ A a) (hts : ∀ w ∈ lw_tbl, w.before #[Value.ref b] s = true) (hgv : (Jvm.Cond.and given_1 narrow_1).before #[Value.ref b] s = true) : stt A s s.heap := ⟨st_MOST_OF_WAY hA hts hgv, st_BITS_OF_WAY hA hts hgv, st_WAYS_AS_TOLD hA hts hgv⟩
