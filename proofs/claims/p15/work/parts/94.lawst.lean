/-! THE CLAIM OUT OF ONE WALK OF THE LAW'S BODY. Your part is whole_start (and what it stands on); all else here is the same for every law, but numbers. -/
def R_law : String := "TextRegionsLaw"
def lw_P (b : Addr) (xs : List Int32) (args : Array Value) (s : State) : Prop := args = #[.ref b] ∧ s.IntsAt b xs ∧ xs.length ≤ 2563 ∧ (Jvm.Cond.and given_1 narrow_1).before args s = true
def lw_Q (_ : Array Value) (s : State) (o : Outcome) (t : State) : Prop := o = .returned (some (.int 1)) ∧ Framed s o t [] 601024 7293000
def lw_Z (below : List Frame) (a : Array Value) (s : State) : State → Prop := fun t => ∃ o, t.status = .running ∧ Ended t below o ∧ lw_Q a s o t
/-- the law's own end, with 1 on the stack, nothing written that was there before, its room as the claim has it -/
theorem lw_ret {p : Program} {l : Launch} {e : Env} {s : State} {m : MethodId} {below : List Frame} {meth : Method} {c : Code} {b : Nat} (hx : p.tables.exec = Jvm.exec) (hb : c.code = code) (hr : meth.sig.returnType = ret) (hlocks : meth.locks = false) {pc : Nat} {H : Heap} {ls : Array Slot} (hdg : decode code pc = .ok (.ireturn, 1)) : W p l e room_1 s m #[Value.ref b] below meth c H [] 601024 7293000 (lw_Z below #[Value.ref b] s) (F0 m pc ls [.int 1]) := by
  intro T hT X
  obtain ⟨fs, hret, hrun, hended, hW, hframe⟩ := X.leave (v := some (.int 1)) (hlocks := hlocks) (fun h => by rw [hr] at h; cases h)
  have hmeth' : T.vm.method? m = some meth := X.method'
  refine ⟨T.setFrames fs, ?_, .returned (some (.int 1)), hrun, hended, rfl, ⟨_, rfl⟩, hW, hframe⟩
  jvm_step X.here [X.here.top, hx, hb, hdg, hmeth', hr, ret, narrow_b1]
  (try refine ⟨rfl, ?_⟩); (try refine ⟨rfl, ?_⟩)
  first | (intro acts; rw [hret _ acts rfl rfl rfl]) | rw [hret _ _ rfl rfl rfl]
  exact Steps.refl _
/-- what holds at the law's entry: the machine, the code, the tables' words (any of lw_tbl by 'hts w (by decide +kernel)'), the script of L ints xs at the cell b, what the Statement gives of the start (any of its parts by flat_of_before) -/
def lw_At (p : Program) (s : State) (m : MethodId) (meth : Method) (c : Code) (b L : Nat) (xs : Nat → Int32) : Prop :=
  p.tables.exec = Jvm.exec ∧ c.code = code ∧ meth.sig.returnType = ret ∧ c.maxLocals = 7 ∧ s.vm.findClass R_law = some m.cls ∧ (∀ w ∈ lw_tbl, w.before #[Value.ref b] s = true) ∧ va_X b L xs s s.heap ∧ b < s.heap.size ∧ meth.locks = false ∧ (Jvm.Cond.and given_1 narrow_1).before #[Value.ref b] s = true
/-! the state of the law: addresses and contents, of the class (TA, TS) and of the reference (MA, MS) -/
abbrev TA : Type := Nat × Nat × Nat × Nat × Nat × Nat × Nat × Nat × Nat × Nat × Nat × Nat × Nat × Nat × Nat × Nat × Nat × Nat × Nat × Nat × Nat × Nat × Nat × Nat × Nat × Nat × Nat × Nat × Nat × Nat × Nat × Nat × Nat × Nat × Nat × ClassId × ClassId × ClassId × ClassId × ClassId × ClassId × ClassId × ClassId × ClassId × ClassId × ClassId × ClassId × ClassId × ClassId × ClassId × ClassId × ClassId × ClassId × ClassId × ClassId × ClassId × ClassId × ClassId × Nat × ClassId
def TA.tr (z : TA) : Nat := z.1
def TA.di (z : TA) : Nat := z.2.1
def TA.pg (z : TA) : Nat := z.2.2.1
def TA.tb (z : TA) : Nat := z.2.2.2.1
def TA.cb (z : TA) : Nat := z.2.2.2.2.1
def TA.te (z : TA) : Nat := z.2.2.2.2.2.1
def TA.re (z : TA) : Nat := z.2.2.2.2.2.2.1
def TA.la (z : TA) : Nat := z.2.2.2.2.2.2.2.1
def TA.sp (z : TA) : Nat := z.2.2.2.2.2.2.2.2.1
def TA.di_widths (z : TA) : Nat := z.2.2.2.2.2.2.2.2.2.1
def TA.di_heights (z : TA) : Nat := z.2.2.2.2.2.2.2.2.2.2.1
def TA.di_samples (z : TA) : Nat := z.2.2.2.2.2.2.2.2.2.2.2.1
def TA.pg_dark (z : TA) : Nat := z.2.2.2.2.2.2.2.2.2.2.2.2.1
def TA.tb_bytes (z : TA) : Nat := z.2.2.2.2.2.2.2.2.2.2.2.2.2.1
def TA.cb_bytes (z : TA) : Nat := z.2.2.2.2.2.2.2.2.2.2.2.2.2.2.1
def TA.na (z : TA) : Nat := z.2.2.2.2.2.2.2.2.2.2.2.2.2.2.2.1
def TA.wr (z : TA) : Nat := z.2.2.2.2.2.2.2.2.2.2.2.2.2.2.2.2.1
def TA.rd (z : TA) : Nat := z.2.2.2.2.2.2.2.2.2.2.2.2.2.2.2.2.2.1
def TA.la_ways (z : TA) : Nat := z.2.2.2.2.2.2.2.2.2.2.2.2.2.2.2.2.2.2.1
def TA.la_symbolOf (z : TA) : Nat := z.2.2.2.2.2.2.2.2.2.2.2.2.2.2.2.2.2.2.2.1
def TA.la_xs (z : TA) : Nat := z.2.2.2.2.2.2.2.2.2.2.2.2.2.2.2.2.2.2.2.2.1
def TA.la_ys (z : TA) : Nat := z.2.2.2.2.2.2.2.2.2.2.2.2.2.2.2.2.2.2.2.2.2.1
def TA.la_differs (z : TA) : Nat := z.2.2.2.2.2.2.2.2.2.2.2.2.2.2.2.2.2.2.2.2.2.2.1
def TA.la_sequence (z : TA) : Nat := z.2.2.2.2.2.2.2.2.2.2.2.2.2.2.2.2.2.2.2.2.2.2.2.1
def TA.sp_ways (z : TA) : Nat := z.2.2.2.2.2.2.2.2.2.2.2.2.2.2.2.2.2.2.2.2.2.2.2.2.1
def TA.sp_symbolOf (z : TA) : Nat := z.2.2.2.2.2.2.2.2.2.2.2.2.2.2.2.2.2.2.2.2.2.2.2.2.2.1
def TA.sp_xs (z : TA) : Nat := z.2.2.2.2.2.2.2.2.2.2.2.2.2.2.2.2.2.2.2.2.2.2.2.2.2.2.1
def TA.sp_ys (z : TA) : Nat := z.2.2.2.2.2.2.2.2.2.2.2.2.2.2.2.2.2.2.2.2.2.2.2.2.2.2.2.1
def TA.sp_differs (z : TA) : Nat := z.2.2.2.2.2.2.2.2.2.2.2.2.2.2.2.2.2.2.2.2.2.2.2.2.2.2.2.2.1
def TA.sp_sequence (z : TA) : Nat := z.2.2.2.2.2.2.2.2.2.2.2.2.2.2.2.2.2.2.2.2.2.2.2.2.2.2.2.2.2.1
def TA.na_lengths (z : TA) : Nat := z.2.2.2.2.2.2.2.2.2.2.2.2.2.2.2.2.2.2.2.2.2.2.2.2.2.2.2.2.2.2.1
def TA.na_codes (z : TA) : Nat := z.2.2.2.2.2.2.2.2.2.2.2.2.2.2.2.2.2.2.2.2.2.2.2.2.2.2.2.2.2.2.2.1
def TA.na_weights (z : TA) : Nat := z.2.2.2.2.2.2.2.2.2.2.2.2.2.2.2.2.2.2.2.2.2.2.2.2.2.2.2.2.2.2.2.2.1
def TA.na_joinedTo (z : TA) : Nat := z.2.2.2.2.2.2.2.2.2.2.2.2.2.2.2.2.2.2.2.2.2.2.2.2.2.2.2.2.2.2.2.2.2.1
def TA.out (z : TA) : Nat := z.2.2.2.2.2.2.2.2.2.2.2.2.2.2.2.2.2.2.2.2.2.2.2.2.2.2.2.2.2.2.2.2.2.2.1
def TA.c_di_widths (z : TA) : ClassId := z.2.2.2.2.2.2.2.2.2.2.2.2.2.2.2.2.2.2.2.2.2.2.2.2.2.2.2.2.2.2.2.2.2.2.2.1
def TA.c_di_heights (z : TA) : ClassId := z.2.2.2.2.2.2.2.2.2.2.2.2.2.2.2.2.2.2.2.2.2.2.2.2.2.2.2.2.2.2.2.2.2.2.2.2.1
def TA.c_di_samples (z : TA) : ClassId := z.2.2.2.2.2.2.2.2.2.2.2.2.2.2.2.2.2.2.2.2.2.2.2.2.2.2.2.2.2.2.2.2.2.2.2.2.2.1
def TA.c_pg_dark (z : TA) : ClassId := z.2.2.2.2.2.2.2.2.2.2.2.2.2.2.2.2.2.2.2.2.2.2.2.2.2.2.2.2.2.2.2.2.2.2.2.2.2.2.1
def TA.c_tb_bytes (z : TA) : ClassId := z.2.2.2.2.2.2.2.2.2.2.2.2.2.2.2.2.2.2.2.2.2.2.2.2.2.2.2.2.2.2.2.2.2.2.2.2.2.2.2.1
def TA.c_cb_bytes (z : TA) : ClassId := z.2.2.2.2.2.2.2.2.2.2.2.2.2.2.2.2.2.2.2.2.2.2.2.2.2.2.2.2.2.2.2.2.2.2.2.2.2.2.2.2.1
def TA.c_la_ways (z : TA) : ClassId := z.2.2.2.2.2.2.2.2.2.2.2.2.2.2.2.2.2.2.2.2.2.2.2.2.2.2.2.2.2.2.2.2.2.2.2.2.2.2.2.2.2.1
def TA.c_la_symbolOf (z : TA) : ClassId := z.2.2.2.2.2.2.2.2.2.2.2.2.2.2.2.2.2.2.2.2.2.2.2.2.2.2.2.2.2.2.2.2.2.2.2.2.2.2.2.2.2.2.1
def TA.c_la_xs (z : TA) : ClassId := z.2.2.2.2.2.2.2.2.2.2.2.2.2.2.2.2.2.2.2.2.2.2.2.2.2.2.2.2.2.2.2.2.2.2.2.2.2.2.2.2.2.2.2.1
def TA.c_la_ys (z : TA) : ClassId := z.2.2.2.2.2.2.2.2.2.2.2.2.2.2.2.2.2.2.2.2.2.2.2.2.2.2.2.2.2.2.2.2.2.2.2.2.2.2.2.2.2.2.2.2.1
def TA.c_la_differs (z : TA) : ClassId := z.2.2.2.2.2.2.2.2.2.2.2.2.2.2.2.2.2.2.2.2.2.2.2.2.2.2.2.2.2.2.2.2.2.2.2.2.2.2.2.2.2.2.2.2.2.1
def TA.c_la_sequence (z : TA) : ClassId := z.2.2.2.2.2.2.2.2.2.2.2.2.2.2.2.2.2.2.2.2.2.2.2.2.2.2.2.2.2.2.2.2.2.2.2.2.2.2.2.2.2.2.2.2.2.2.1
def TA.c_sp_ways (z : TA) : ClassId := z.2.2.2.2.2.2.2.2.2.2.2.2.2.2.2.2.2.2.2.2.2.2.2.2.2.2.2.2.2.2.2.2.2.2.2.2.2.2.2.2.2.2.2.2.2.2.2.1
def TA.c_sp_symbolOf (z : TA) : ClassId := z.2.2.2.2.2.2.2.2.2.2.2.2.2.2.2.2.2.2.2.2.2.2.2.2.2.2.2.2.2.2.2.2.2.2.2.2.2.2.2.2.2.2.2.2.2.2.2.2.1
def TA.c_sp_xs (z : TA) : ClassId := z.2.2.2.2.2.2.2.2.2.2.2.2.2.2.2.2.2.2.2.2.2.2.2.2.2.2.2.2.2.2.2.2.2.2.2.2.2.2.2.2.2.2.2.2.2.2.2.2.2.1
def TA.c_sp_ys (z : TA) : ClassId := z.2.2.2.2.2.2.2.2.2.2.2.2.2.2.2.2.2.2.2.2.2.2.2.2.2.2.2.2.2.2.2.2.2.2.2.2.2.2.2.2.2.2.2.2.2.2.2.2.2.2.1
def TA.c_sp_differs (z : TA) : ClassId := z.2.2.2.2.2.2.2.2.2.2.2.2.2.2.2.2.2.2.2.2.2.2.2.2.2.2.2.2.2.2.2.2.2.2.2.2.2.2.2.2.2.2.2.2.2.2.2.2.2.2.2.1
def TA.c_sp_sequence (z : TA) : ClassId := z.2.2.2.2.2.2.2.2.2.2.2.2.2.2.2.2.2.2.2.2.2.2.2.2.2.2.2.2.2.2.2.2.2.2.2.2.2.2.2.2.2.2.2.2.2.2.2.2.2.2.2.2.1
def TA.c_na_lengths (z : TA) : ClassId := z.2.2.2.2.2.2.2.2.2.2.2.2.2.2.2.2.2.2.2.2.2.2.2.2.2.2.2.2.2.2.2.2.2.2.2.2.2.2.2.2.2.2.2.2.2.2.2.2.2.2.2.2.2.1
def TA.c_na_codes (z : TA) : ClassId := z.2.2.2.2.2.2.2.2.2.2.2.2.2.2.2.2.2.2.2.2.2.2.2.2.2.2.2.2.2.2.2.2.2.2.2.2.2.2.2.2.2.2.2.2.2.2.2.2.2.2.2.2.2.2.1
def TA.c_na_weights (z : TA) : ClassId := z.2.2.2.2.2.2.2.2.2.2.2.2.2.2.2.2.2.2.2.2.2.2.2.2.2.2.2.2.2.2.2.2.2.2.2.2.2.2.2.2.2.2.2.2.2.2.2.2.2.2.2.2.2.2.2.1
def TA.c_na_joinedTo (z : TA) : ClassId := z.2.2.2.2.2.2.2.2.2.2.2.2.2.2.2.2.2.2.2.2.2.2.2.2.2.2.2.2.2.2.2.2.2.2.2.2.2.2.2.2.2.2.2.2.2.2.2.2.2.2.2.2.2.2.2.2.1
def TA.c_out (z : TA) : ClassId := z.2.2.2.2.2.2.2.2.2.2.2.2.2.2.2.2.2.2.2.2.2.2.2.2.2.2.2.2.2.2.2.2.2.2.2.2.2.2.2.2.2.2.2.2.2.2.2.2.2.2.2.2.2.2.2.2.2.1
def TA.na_row (z : TA) : Nat := z.2.2.2.2.2.2.2.2.2.2.2.2.2.2.2.2.2.2.2.2.2.2.2.2.2.2.2.2.2.2.2.2.2.2.2.2.2.2.2.2.2.2.2.2.2.2.2.2.2.2.2.2.2.2.2.2.2.2.1
def TA.c_na_row (z : TA) : ClassId := z.2.2.2.2.2.2.2.2.2.2.2.2.2.2.2.2.2.2.2.2.2.2.2.2.2.2.2.2.2.2.2.2.2.2.2.2.2.2.2.2.2.2.2.2.2.2.2.2.2.2.2.2.2.2.2.2.2.2.2
abbrev TS : Type := Int32 × Int32 × Int32 × Int32 × Int32 × Int32 × Int32 × Int32 × Int32 × (Nat → Int32) × (Nat → Int32) × (Nat → Int64) × (Nat → Int32) × (Nat → Int32) × (Nat → Int32) × Int32 × Int32 × Int32 × Int32 × (Nat → Int32) × (Nat → Int32) × (Nat → Int32) × (Nat → Int32) × (Nat → Int64) × (Nat → Int32) × (Nat → Int32) × (Nat → Int32) × (Nat → Int32) × (Nat → Int32) × (Nat → Int64) × (Nat → Int32) × (Nat → Int32) × (Nat → Int32) × (Nat → Int32) × (Nat → Int32) × (Nat → Int64) × (Nat → Int32)
def TS.tr_kind (z : TS) : Int32 := z.1
def TS.tr_refusedAt (z : TS) : Int32 := z.2.1
def TS.di_count (z : TS) : Int32 := z.2.2.1
def TS.pg_width (z : TS) : Int32 := z.2.2.2.1
def TS.pg_height (z : TS) : Int32 := z.2.2.2.2.1
def TS.tb_count (z : TS) : Int32 := z.2.2.2.2.2.1
def TS.cb_count (z : TS) : Int32 := z.2.2.2.2.2.2.1
def TS.la_count (z : TS) : Int32 := z.2.2.2.2.2.2.2.1
def TS.sp_count (z : TS) : Int32 := z.2.2.2.2.2.2.2.2.1
def TS.di_widths (z : TS) : (Nat → Int32) := z.2.2.2.2.2.2.2.2.2.1
def TS.di_heights (z : TS) : (Nat → Int32) := z.2.2.2.2.2.2.2.2.2.2.1
def TS.di_samples (z : TS) : (Nat → Int64) := z.2.2.2.2.2.2.2.2.2.2.2.1
def TS.pg_dark (z : TS) : (Nat → Int32) := z.2.2.2.2.2.2.2.2.2.2.2.2.1
def TS.tb_bytes (z : TS) : (Nat → Int32) := z.2.2.2.2.2.2.2.2.2.2.2.2.2.1
def TS.cb_bytes (z : TS) : (Nat → Int32) := z.2.2.2.2.2.2.2.2.2.2.2.2.2.2.1
def TS.wr_keeping (z : TS) : Int32 := z.2.2.2.2.2.2.2.2.2.2.2.2.2.2.2.1
def TS.wr_count (z : TS) : Int32 := z.2.2.2.2.2.2.2.2.2.2.2.2.2.2.2.2.1
def TS.rd_place (z : TS) : Int32 := z.2.2.2.2.2.2.2.2.2.2.2.2.2.2.2.2.2.1
def TS.rd_refusal (z : TS) : Int32 := z.2.2.2.2.2.2.2.2.2.2.2.2.2.2.2.2.2.2.1
def TS.la_ways (z : TS) : (Nat → Int32) := z.2.2.2.2.2.2.2.2.2.2.2.2.2.2.2.2.2.2.2.1
def TS.la_symbolOf (z : TS) : (Nat → Int32) := z.2.2.2.2.2.2.2.2.2.2.2.2.2.2.2.2.2.2.2.2.1
def TS.la_xs (z : TS) : (Nat → Int32) := z.2.2.2.2.2.2.2.2.2.2.2.2.2.2.2.2.2.2.2.2.2.1
def TS.la_ys (z : TS) : (Nat → Int32) := z.2.2.2.2.2.2.2.2.2.2.2.2.2.2.2.2.2.2.2.2.2.2.1
def TS.la_differs (z : TS) : (Nat → Int64) := z.2.2.2.2.2.2.2.2.2.2.2.2.2.2.2.2.2.2.2.2.2.2.2.1
def TS.la_sequence (z : TS) : (Nat → Int32) := z.2.2.2.2.2.2.2.2.2.2.2.2.2.2.2.2.2.2.2.2.2.2.2.2.1
def TS.sp_ways (z : TS) : (Nat → Int32) := z.2.2.2.2.2.2.2.2.2.2.2.2.2.2.2.2.2.2.2.2.2.2.2.2.2.1
def TS.sp_symbolOf (z : TS) : (Nat → Int32) := z.2.2.2.2.2.2.2.2.2.2.2.2.2.2.2.2.2.2.2.2.2.2.2.2.2.2.1
def TS.sp_xs (z : TS) : (Nat → Int32) := z.2.2.2.2.2.2.2.2.2.2.2.2.2.2.2.2.2.2.2.2.2.2.2.2.2.2.2.1
def TS.sp_ys (z : TS) : (Nat → Int32) := z.2.2.2.2.2.2.2.2.2.2.2.2.2.2.2.2.2.2.2.2.2.2.2.2.2.2.2.2.1
def TS.sp_differs (z : TS) : (Nat → Int64) := z.2.2.2.2.2.2.2.2.2.2.2.2.2.2.2.2.2.2.2.2.2.2.2.2.2.2.2.2.2.1
def TS.sp_sequence (z : TS) : (Nat → Int32) := z.2.2.2.2.2.2.2.2.2.2.2.2.2.2.2.2.2.2.2.2.2.2.2.2.2.2.2.2.2.2.1
def TS.na_lengths (z : TS) : (Nat → Int32) := z.2.2.2.2.2.2.2.2.2.2.2.2.2.2.2.2.2.2.2.2.2.2.2.2.2.2.2.2.2.2.2.1
def TS.na_codes (z : TS) : (Nat → Int32) := z.2.2.2.2.2.2.2.2.2.2.2.2.2.2.2.2.2.2.2.2.2.2.2.2.2.2.2.2.2.2.2.2.1
def TS.na_weights (z : TS) : (Nat → Int32) := z.2.2.2.2.2.2.2.2.2.2.2.2.2.2.2.2.2.2.2.2.2.2.2.2.2.2.2.2.2.2.2.2.2.1
def TS.na_joinedTo (z : TS) : (Nat → Int32) := z.2.2.2.2.2.2.2.2.2.2.2.2.2.2.2.2.2.2.2.2.2.2.2.2.2.2.2.2.2.2.2.2.2.2.1
def TS.out (z : TS) : (Nat → Int64) := z.2.2.2.2.2.2.2.2.2.2.2.2.2.2.2.2.2.2.2.2.2.2.2.2.2.2.2.2.2.2.2.2.2.2.2.1
def TS.na_row (z : TS) : (Nat → Int32) := z.2.2.2.2.2.2.2.2.2.2.2.2.2.2.2.2.2.2.2.2.2.2.2.2.2.2.2.2.2.2.2.2.2.2.2.2
abbrev MA : Type := Nat × Nat × Nat × Nat × Nat × Nat × Nat × Nat × Nat × Nat × Nat × Nat × Nat × Nat × Nat × Nat × Nat × Nat × Nat × Nat × Nat × Nat × Nat × Nat × Nat × ClassId × ClassId × ClassId × ClassId × ClassId × ClassId × ClassId × ClassId × ClassId × ClassId × ClassId × ClassId × ClassId × ClassId × ClassId × ClassId × ClassId × ClassId × ClassId × ClassId × ClassId × ClassId × ClassId × ClassId
def MA.mo (z : MA) : Nat := z.1
def MA.mo_wide (z : MA) : Nat := z.2.1
def MA.mo_high (z : MA) : Nat := z.2.2.1
def MA.mo_dark (z : MA) : Nat := z.2.2.2.1
def MA.mo_symbolOf (z : MA) : Nat := z.2.2.2.2.1
def MA.mo_xs (z : MA) : Nat := z.2.2.2.2.2.1
def MA.mo_ys (z : MA) : Nat := z.2.2.2.2.2.2.1
def MA.mo_differs (z : MA) : Nat := z.2.2.2.2.2.2.2.1
def MA.mo_ways (z : MA) : Nat := z.2.2.2.2.2.2.2.2.1
def MA.mo_ordered (z : MA) : Nat := z.2.2.2.2.2.2.2.2.2.1
def MA.mo_page (z : MA) : Nat := z.2.2.2.2.2.2.2.2.2.2.1
def MA.mo_out (z : MA) : Nat := z.2.2.2.2.2.2.2.2.2.2.2.1
def MA.mo_counts (z : MA) : Nat := z.2.2.2.2.2.2.2.2.2.2.2.2.1
def MA.mo_lengths (z : MA) : Nat := z.2.2.2.2.2.2.2.2.2.2.2.2.2.1
def MA.mo_codes (z : MA) : Nat := z.2.2.2.2.2.2.2.2.2.2.2.2.2.2.1
def MA.mo_weight (z : MA) : Nat := z.2.2.2.2.2.2.2.2.2.2.2.2.2.2.2.1
def MA.mo_over (z : MA) : Nat := z.2.2.2.2.2.2.2.2.2.2.2.2.2.2.2.2.1
def MA.mo_used (z : MA) : Nat := z.2.2.2.2.2.2.2.2.2.2.2.2.2.2.2.2.2.1
def MA.mo_row (z : MA) : Nat := z.2.2.2.2.2.2.2.2.2.2.2.2.2.2.2.2.2.2.1
def MA.mo_in (z : MA) : Nat := z.2.2.2.2.2.2.2.2.2.2.2.2.2.2.2.2.2.2.2.1
def MA.mo_readSymbol (z : MA) : Nat := z.2.2.2.2.2.2.2.2.2.2.2.2.2.2.2.2.2.2.2.2.1
def MA.mo_readX (z : MA) : Nat := z.2.2.2.2.2.2.2.2.2.2.2.2.2.2.2.2.2.2.2.2.2.1
def MA.mo_readY (z : MA) : Nat := z.2.2.2.2.2.2.2.2.2.2.2.2.2.2.2.2.2.2.2.2.2.2.1
def MA.mo_readDiffers (z : MA) : Nat := z.2.2.2.2.2.2.2.2.2.2.2.2.2.2.2.2.2.2.2.2.2.2.2.1
def MA.mo_readWays (z : MA) : Nat := z.2.2.2.2.2.2.2.2.2.2.2.2.2.2.2.2.2.2.2.2.2.2.2.2.1
def MA.c_mo_wide (z : MA) : ClassId := z.2.2.2.2.2.2.2.2.2.2.2.2.2.2.2.2.2.2.2.2.2.2.2.2.2.1
def MA.c_mo_high (z : MA) : ClassId := z.2.2.2.2.2.2.2.2.2.2.2.2.2.2.2.2.2.2.2.2.2.2.2.2.2.2.1
def MA.c_mo_dark (z : MA) : ClassId := z.2.2.2.2.2.2.2.2.2.2.2.2.2.2.2.2.2.2.2.2.2.2.2.2.2.2.2.1
def MA.c_mo_symbolOf (z : MA) : ClassId := z.2.2.2.2.2.2.2.2.2.2.2.2.2.2.2.2.2.2.2.2.2.2.2.2.2.2.2.2.1
def MA.c_mo_xs (z : MA) : ClassId := z.2.2.2.2.2.2.2.2.2.2.2.2.2.2.2.2.2.2.2.2.2.2.2.2.2.2.2.2.2.1
def MA.c_mo_ys (z : MA) : ClassId := z.2.2.2.2.2.2.2.2.2.2.2.2.2.2.2.2.2.2.2.2.2.2.2.2.2.2.2.2.2.2.1
def MA.c_mo_differs (z : MA) : ClassId := z.2.2.2.2.2.2.2.2.2.2.2.2.2.2.2.2.2.2.2.2.2.2.2.2.2.2.2.2.2.2.2.1
def MA.c_mo_ways (z : MA) : ClassId := z.2.2.2.2.2.2.2.2.2.2.2.2.2.2.2.2.2.2.2.2.2.2.2.2.2.2.2.2.2.2.2.2.1
def MA.c_mo_ordered (z : MA) : ClassId := z.2.2.2.2.2.2.2.2.2.2.2.2.2.2.2.2.2.2.2.2.2.2.2.2.2.2.2.2.2.2.2.2.2.1
def MA.c_mo_page (z : MA) : ClassId := z.2.2.2.2.2.2.2.2.2.2.2.2.2.2.2.2.2.2.2.2.2.2.2.2.2.2.2.2.2.2.2.2.2.2.1
def MA.c_mo_out (z : MA) : ClassId := z.2.2.2.2.2.2.2.2.2.2.2.2.2.2.2.2.2.2.2.2.2.2.2.2.2.2.2.2.2.2.2.2.2.2.2.1
def MA.c_mo_counts (z : MA) : ClassId := z.2.2.2.2.2.2.2.2.2.2.2.2.2.2.2.2.2.2.2.2.2.2.2.2.2.2.2.2.2.2.2.2.2.2.2.2.1
def MA.c_mo_lengths (z : MA) : ClassId := z.2.2.2.2.2.2.2.2.2.2.2.2.2.2.2.2.2.2.2.2.2.2.2.2.2.2.2.2.2.2.2.2.2.2.2.2.2.1
def MA.c_mo_codes (z : MA) : ClassId := z.2.2.2.2.2.2.2.2.2.2.2.2.2.2.2.2.2.2.2.2.2.2.2.2.2.2.2.2.2.2.2.2.2.2.2.2.2.2.1
def MA.c_mo_weight (z : MA) : ClassId := z.2.2.2.2.2.2.2.2.2.2.2.2.2.2.2.2.2.2.2.2.2.2.2.2.2.2.2.2.2.2.2.2.2.2.2.2.2.2.2.1
def MA.c_mo_over (z : MA) : ClassId := z.2.2.2.2.2.2.2.2.2.2.2.2.2.2.2.2.2.2.2.2.2.2.2.2.2.2.2.2.2.2.2.2.2.2.2.2.2.2.2.2.1
def MA.c_mo_used (z : MA) : ClassId := z.2.2.2.2.2.2.2.2.2.2.2.2.2.2.2.2.2.2.2.2.2.2.2.2.2.2.2.2.2.2.2.2.2.2.2.2.2.2.2.2.2.1
def MA.c_mo_row (z : MA) : ClassId := z.2.2.2.2.2.2.2.2.2.2.2.2.2.2.2.2.2.2.2.2.2.2.2.2.2.2.2.2.2.2.2.2.2.2.2.2.2.2.2.2.2.2.1
def MA.c_mo_in (z : MA) : ClassId := z.2.2.2.2.2.2.2.2.2.2.2.2.2.2.2.2.2.2.2.2.2.2.2.2.2.2.2.2.2.2.2.2.2.2.2.2.2.2.2.2.2.2.2.1
def MA.c_mo_readSymbol (z : MA) : ClassId := z.2.2.2.2.2.2.2.2.2.2.2.2.2.2.2.2.2.2.2.2.2.2.2.2.2.2.2.2.2.2.2.2.2.2.2.2.2.2.2.2.2.2.2.2.1
def MA.c_mo_readX (z : MA) : ClassId := z.2.2.2.2.2.2.2.2.2.2.2.2.2.2.2.2.2.2.2.2.2.2.2.2.2.2.2.2.2.2.2.2.2.2.2.2.2.2.2.2.2.2.2.2.2.1
def MA.c_mo_readY (z : MA) : ClassId := z.2.2.2.2.2.2.2.2.2.2.2.2.2.2.2.2.2.2.2.2.2.2.2.2.2.2.2.2.2.2.2.2.2.2.2.2.2.2.2.2.2.2.2.2.2.2.1
def MA.c_mo_readDiffers (z : MA) : ClassId := z.2.2.2.2.2.2.2.2.2.2.2.2.2.2.2.2.2.2.2.2.2.2.2.2.2.2.2.2.2.2.2.2.2.2.2.2.2.2.2.2.2.2.2.2.2.2.2.1
def MA.c_mo_readWays (z : MA) : ClassId := z.2.2.2.2.2.2.2.2.2.2.2.2.2.2.2.2.2.2.2.2.2.2.2.2.2.2.2.2.2.2.2.2.2.2.2.2.2.2.2.2.2.2.2.2.2.2.2.2
abbrev MS : Type := Int32 × Int32 × Int32 × Int32 × Int32 × Int32 × Int32 × Int32 × Int32 × Int32 × Int32 × Int32 × Int32 × Int32 × (Nat → Int32) × (Nat → Int32) × (Nat → Int64) × (Nat → Int32) × (Nat → Int32) × (Nat → Int32) × (Nat → Int64) × (Nat → Int32) × (Nat → Int32) × (Nat → Int32) × (Nat → Int32) × (Nat → Int32) × (Nat → Int32) × (Nat → Int32) × (Nat → Int32) × (Nat → Int32) × (Nat → Int32) × (Nat → Int32) × (Nat → Int32) × (Nat → Int32) × (Nat → Int32) × (Nat → Int32) × (Nat → Int64) × (Nat → Int32)
def MS.mo_thrown (z : MS) : Int32 := z.1
def MS.mo_width (z : MS) : Int32 := z.2.1
def MS.mo_height (z : MS) : Int32 := z.2.2.1
def MS.mo_kind (z : MS) : Int32 := z.2.2.2.1
def MS.mo_symbols (z : MS) : Int32 := z.2.2.2.2.1
def MS.mo_instances (z : MS) : Int32 := z.2.2.2.2.2.1
def MS.mo_told (z : MS) : Int32 := z.2.2.2.2.2.2.1
def MS.mo_keeps (z : MS) : Int32 := z.2.2.2.2.2.2.2.1
def MS.mo_toldBytes (z : MS) : Int32 := z.2.2.2.2.2.2.2.2.1
def MS.mo_came (z : MS) : Int32 := z.2.2.2.2.2.2.2.2.2.1
def MS.mo_at (z : MS) : Int32 := z.2.2.2.2.2.2.2.2.2.2.1
def MS.mo_refused (z : MS) : Int32 := z.2.2.2.2.2.2.2.2.2.2.2.1
def MS.mo_place (z : MS) : Int32 := z.2.2.2.2.2.2.2.2.2.2.2.2.1
def MS.mo_readMany (z : MS) : Int32 := z.2.2.2.2.2.2.2.2.2.2.2.2.2.1
def MS.mo_wide (z : MS) : (Nat → Int32) := z.2.2.2.2.2.2.2.2.2.2.2.2.2.2.1
def MS.mo_high (z : MS) : (Nat → Int32) := z.2.2.2.2.2.2.2.2.2.2.2.2.2.2.2.1
def MS.mo_dark (z : MS) : (Nat → Int64) := z.2.2.2.2.2.2.2.2.2.2.2.2.2.2.2.2.1
def MS.mo_symbolOf (z : MS) : (Nat → Int32) := z.2.2.2.2.2.2.2.2.2.2.2.2.2.2.2.2.2.1
def MS.mo_xs (z : MS) : (Nat → Int32) := z.2.2.2.2.2.2.2.2.2.2.2.2.2.2.2.2.2.2.1
def MS.mo_ys (z : MS) : (Nat → Int32) := z.2.2.2.2.2.2.2.2.2.2.2.2.2.2.2.2.2.2.2.1
def MS.mo_differs (z : MS) : (Nat → Int64) := z.2.2.2.2.2.2.2.2.2.2.2.2.2.2.2.2.2.2.2.2.1
def MS.mo_ways (z : MS) : (Nat → Int32) := z.2.2.2.2.2.2.2.2.2.2.2.2.2.2.2.2.2.2.2.2.2.1
def MS.mo_ordered (z : MS) : (Nat → Int32) := z.2.2.2.2.2.2.2.2.2.2.2.2.2.2.2.2.2.2.2.2.2.2.1
def MS.mo_page (z : MS) : (Nat → Int32) := z.2.2.2.2.2.2.2.2.2.2.2.2.2.2.2.2.2.2.2.2.2.2.2.1
def MS.mo_out (z : MS) : (Nat → Int32) := z.2.2.2.2.2.2.2.2.2.2.2.2.2.2.2.2.2.2.2.2.2.2.2.2.1
def MS.mo_counts (z : MS) : (Nat → Int32) := z.2.2.2.2.2.2.2.2.2.2.2.2.2.2.2.2.2.2.2.2.2.2.2.2.2.1
def MS.mo_lengths (z : MS) : (Nat → Int32) := z.2.2.2.2.2.2.2.2.2.2.2.2.2.2.2.2.2.2.2.2.2.2.2.2.2.2.1
def MS.mo_codes (z : MS) : (Nat → Int32) := z.2.2.2.2.2.2.2.2.2.2.2.2.2.2.2.2.2.2.2.2.2.2.2.2.2.2.2.1
def MS.mo_weight (z : MS) : (Nat → Int32) := z.2.2.2.2.2.2.2.2.2.2.2.2.2.2.2.2.2.2.2.2.2.2.2.2.2.2.2.2.1
def MS.mo_over (z : MS) : (Nat → Int32) := z.2.2.2.2.2.2.2.2.2.2.2.2.2.2.2.2.2.2.2.2.2.2.2.2.2.2.2.2.2.1
def MS.mo_used (z : MS) : (Nat → Int32) := z.2.2.2.2.2.2.2.2.2.2.2.2.2.2.2.2.2.2.2.2.2.2.2.2.2.2.2.2.2.2.1
def MS.mo_row (z : MS) : (Nat → Int32) := z.2.2.2.2.2.2.2.2.2.2.2.2.2.2.2.2.2.2.2.2.2.2.2.2.2.2.2.2.2.2.2.1
def MS.mo_in (z : MS) : (Nat → Int32) := z.2.2.2.2.2.2.2.2.2.2.2.2.2.2.2.2.2.2.2.2.2.2.2.2.2.2.2.2.2.2.2.2.1
def MS.mo_readSymbol (z : MS) : (Nat → Int32) := z.2.2.2.2.2.2.2.2.2.2.2.2.2.2.2.2.2.2.2.2.2.2.2.2.2.2.2.2.2.2.2.2.2.1
def MS.mo_readX (z : MS) : (Nat → Int32) := z.2.2.2.2.2.2.2.2.2.2.2.2.2.2.2.2.2.2.2.2.2.2.2.2.2.2.2.2.2.2.2.2.2.2.1
def MS.mo_readY (z : MS) : (Nat → Int32) := z.2.2.2.2.2.2.2.2.2.2.2.2.2.2.2.2.2.2.2.2.2.2.2.2.2.2.2.2.2.2.2.2.2.2.2.1
def MS.mo_readDiffers (z : MS) : (Nat → Int64) := z.2.2.2.2.2.2.2.2.2.2.2.2.2.2.2.2.2.2.2.2.2.2.2.2.2.2.2.2.2.2.2.2.2.2.2.2.1
def MS.mo_readWays (z : MS) : (Nat → Int32) := z.2.2.2.2.2.2.2.2.2.2.2.2.2.2.2.2.2.2.2.2.2.2.2.2.2.2.2.2.2.2.2.2.2.2.2.2.2
def WC (a : TA) (z : TS) : va_W := [(a.tr, .inr (0, [.int z.tr_kind, .ref a.di, .ref a.pg, .ref a.tb, .ref a.cb, .ref a.te, .ref a.re, .ref a.la, .ref a.sp, .int z.tr_refusedAt])), (a.di, .inr (6, [.ref a.di_widths, .ref a.di_heights, .ref a.di_samples, .int z.di_count])), (a.pg, .inr (9, [.int z.pg_width, .int z.pg_height, .ref a.pg_dark])), (a.tb, .inr (4, [.ref a.tb_bytes, .int z.tb_count])), (a.cb, .inr (4, [.ref a.cb_bytes, .int z.cb_count])), (a.te, .inr (11, [.ref a.na, .ref a.wr])), (a.re, .inr (10, [.ref a.na, .ref a.rd])), (a.la, .inr (8, [.ref a.di, .ref a.la_ways, .ref a.la_symbolOf, .ref a.la_xs, .ref a.la_ys, .ref a.la_differs, .ref a.la_sequence, .int z.la_count])), (a.sp, .inr (8, [.ref a.di, .ref a.sp_ways, .ref a.sp_symbolOf, .ref a.sp_xs, .ref a.sp_ys, .ref a.sp_differs, .ref a.sp_sequence, .int z.sp_count])), (a.di_widths, .inl (a.c_di_widths, 16, .inl z.di_widths)), (a.di_heights, .inl (a.c_di_heights, 16, .inl z.di_heights)), (a.di_samples, .inl (a.c_di_samples, 16, .inr (.inl z.di_samples))), (a.pg_dark, .inl (a.c_pg_dark, (z.pg_width * z.pg_height).toNatClampNeg, .inl z.pg_dark)), (a.tb_bytes, .inl (a.c_tb_bytes, 2000, .inl z.tb_bytes)), (a.cb_bytes, .inl (a.c_cb_bytes, 2000, .inl z.cb_bytes)), (a.na, .inr (5, [.ref a.di, .ref a.na_lengths, .ref a.na_codes, .ref a.na_weights, .ref a.na_joinedTo])), (a.wr, .inr (3, [.ref a.tb, .int z.wr_keeping, .int z.wr_count])), (a.rd, .inr (2, [.ref a.cb, .int z.rd_place, .int z.rd_refusal])), (a.la_ways, .inl (a.c_la_ways, 4, .inl z.la_ways)), (a.la_symbolOf, .inl (a.c_la_symbolOf, 40, .inl z.la_symbolOf)), (a.la_xs, .inl (a.c_la_xs, 40, .inl z.la_xs)), (a.la_ys, .inl (a.c_la_ys, 40, .inl z.la_ys)), (a.la_differs, .inl (a.c_la_differs, 40, .inr (.inl z.la_differs))), (a.la_sequence, .inl (a.c_la_sequence, 40, .inl z.la_sequence)), (a.sp_ways, .inl (a.c_sp_ways, 4, .inl z.sp_ways)), (a.sp_symbolOf, .inl (a.c_sp_symbolOf, 40, .inl z.sp_symbolOf)), (a.sp_xs, .inl (a.c_sp_xs, 40, .inl z.sp_xs)), (a.sp_ys, .inl (a.c_sp_ys, 40, .inl z.sp_ys)), (a.sp_differs, .inl (a.c_sp_differs, 40, .inr (.inl z.sp_differs))), (a.sp_sequence, .inl (a.c_sp_sequence, 40, .inl z.sp_sequence)), (a.na_lengths, .inl (a.c_na_lengths, 16, .inl z.na_lengths)), (a.na_codes, .inl (a.c_na_codes, 16, .inl z.na_codes)), (a.na_weights, .inl (a.c_na_weights, 32, .inl z.na_weights)), (a.na_joinedTo, .inl (a.c_na_joinedTo, 32, .inl z.na_joinedTo)), (a.out, .inl (a.c_out, 1, .inr (.inl z.out)))]
def KC (a : TA) : List (ClassId × FieldType) := [(a.c_di_widths, .int), (a.c_di_heights, .int), (a.c_di_samples, .long), (a.c_pg_dark, .boolean), (a.c_tb_bytes, .int), (a.c_cb_bytes, .int), (a.c_la_ways, .int), (a.c_la_symbolOf, .int), (a.c_la_xs, .int), (a.c_la_ys, .int), (a.c_la_differs, .long), (a.c_la_sequence, .int), (a.c_sp_ways, .int), (a.c_sp_symbolOf, .int), (a.c_sp_xs, .int), (a.c_sp_ys, .int), (a.c_sp_differs, .long), (a.c_sp_sequence, .int), (a.c_na_lengths, .int), (a.c_na_codes, .int), (a.c_na_weights, .int), (a.c_na_joinedTo, .int), (a.c_out, .long)]
def WF (a : TA) (z : TS) : va_W := [(a.tr, .inr (0, [.int z.tr_kind, .ref a.di, .ref a.pg, .ref a.tb, .ref a.cb, .ref a.te, .ref a.re, .ref a.la, .ref a.sp, .int z.tr_refusedAt])), (a.di, .inr (6, [.ref a.di_widths, .ref a.di_heights, .ref a.di_samples, .int z.di_count])), (a.pg, .inr (9, [.int z.pg_width, .int z.pg_height, .ref a.pg_dark])), (a.tb, .inr (4, [.ref a.tb_bytes, .int z.tb_count])), (a.cb, .inr (4, [.ref a.cb_bytes, .int z.cb_count])), (a.te, .inr (11, [.ref a.na, .ref a.wr])), (a.re, .inr (10, [.ref a.na, .ref a.rd])), (a.la, .inr (8, [.ref a.di, .ref a.la_ways, .ref a.la_symbolOf, .ref a.la_xs, .ref a.la_ys, .ref a.la_differs, .ref a.la_sequence, .int z.la_count])), (a.sp, .inr (8, [.ref a.di, .ref a.sp_ways, .ref a.sp_symbolOf, .ref a.sp_xs, .ref a.sp_ys, .ref a.sp_differs, .ref a.sp_sequence, .int z.sp_count])), (a.di_widths, .inl (a.c_di_widths, 16, .inl z.di_widths)), (a.di_heights, .inl (a.c_di_heights, 16, .inl z.di_heights)), (a.di_samples, .inl (a.c_di_samples, 16, .inr (.inl z.di_samples))), (a.pg_dark, .inl (a.c_pg_dark, (z.pg_width * z.pg_height).toNatClampNeg, .inl z.pg_dark)), (a.tb_bytes, .inl (a.c_tb_bytes, 2000, .inl z.tb_bytes)), (a.cb_bytes, .inl (a.c_cb_bytes, 2000, .inl z.cb_bytes)), (a.na, .inr (7, [.ref a.di, .ref a.na_row])), (a.wr, .inr (3, [.ref a.tb, .int z.wr_keeping, .int z.wr_count])), (a.rd, .inr (2, [.ref a.cb, .int z.rd_place, .int z.rd_refusal])), (a.la_ways, .inl (a.c_la_ways, 4, .inl z.la_ways)), (a.la_symbolOf, .inl (a.c_la_symbolOf, 40, .inl z.la_symbolOf)), (a.la_xs, .inl (a.c_la_xs, 40, .inl z.la_xs)), (a.la_ys, .inl (a.c_la_ys, 40, .inl z.la_ys)), (a.la_differs, .inl (a.c_la_differs, 40, .inr (.inl z.la_differs))), (a.la_sequence, .inl (a.c_la_sequence, 40, .inl z.la_sequence)), (a.sp_ways, .inl (a.c_sp_ways, 4, .inl z.sp_ways)), (a.sp_symbolOf, .inl (a.c_sp_symbolOf, 40, .inl z.sp_symbolOf)), (a.sp_xs, .inl (a.c_sp_xs, 40, .inl z.sp_xs)), (a.sp_ys, .inl (a.c_sp_ys, 40, .inl z.sp_ys)), (a.sp_differs, .inl (a.c_sp_differs, 40, .inr (.inl z.sp_differs))), (a.sp_sequence, .inl (a.c_sp_sequence, 40, .inl z.sp_sequence)), (a.na_row, .inl (a.c_na_row, 16, .inl z.na_row)), (a.out, .inl (a.c_out, 1, .inr (.inl z.out)))]
def KF (a : TA) : List (ClassId × FieldType) := [(a.c_di_widths, .int), (a.c_di_heights, .int), (a.c_di_samples, .long), (a.c_pg_dark, .boolean), (a.c_tb_bytes, .int), (a.c_cb_bytes, .int), (a.c_la_ways, .int), (a.c_la_symbolOf, .int), (a.c_la_xs, .int), (a.c_la_ys, .int), (a.c_la_differs, .long), (a.c_la_sequence, .int), (a.c_sp_ways, .int), (a.c_sp_symbolOf, .int), (a.c_sp_xs, .int), (a.c_sp_ys, .int), (a.c_sp_differs, .long), (a.c_sp_sequence, .int), (a.c_na_row, .int), (a.c_out, .long)]
def WM (d : MA) (y : MS) : va_W := [(d.mo, .inr (1, [.int y.mo_thrown, .int y.mo_width, .int y.mo_height, .int y.mo_kind, .int y.mo_symbols, .ref d.mo_wide, .ref d.mo_high, .ref d.mo_dark, .int y.mo_instances, .ref d.mo_symbolOf, .ref d.mo_xs, .ref d.mo_ys, .ref d.mo_differs, .ref d.mo_ways, .ref d.mo_ordered, .ref d.mo_page, .int y.mo_told, .int y.mo_keeps, .int y.mo_toldBytes, .ref d.mo_out, .ref d.mo_counts, .ref d.mo_lengths, .ref d.mo_codes, .ref d.mo_weight, .ref d.mo_over, .ref d.mo_used, .ref d.mo_row, .int y.mo_came, .ref d.mo_in, .int y.mo_at, .int y.mo_refused, .int y.mo_place, .int y.mo_readMany, .ref d.mo_readSymbol, .ref d.mo_readX, .ref d.mo_readY, .ref d.mo_readDiffers, .ref d.mo_readWays])), (d.mo_wide, .inl (d.c_mo_wide, 16, .inl y.mo_wide)), (d.mo_high, .inl (d.c_mo_high, 16, .inl y.mo_high)), (d.mo_dark, .inl (d.c_mo_dark, 16, .inr (.inl y.mo_dark))), (d.mo_symbolOf, .inl (d.c_mo_symbolOf, 40, .inl y.mo_symbolOf)), (d.mo_xs, .inl (d.c_mo_xs, 40, .inl y.mo_xs)), (d.mo_ys, .inl (d.c_mo_ys, 40, .inl y.mo_ys)), (d.mo_differs, .inl (d.c_mo_differs, 40, .inr (.inl y.mo_differs))), (d.mo_ways, .inl (d.c_mo_ways, 4, .inl y.mo_ways)), (d.mo_ordered, .inl (d.c_mo_ordered, 40, .inl y.mo_ordered)), (d.mo_page, .inl (d.c_mo_page, 576, .inl y.mo_page)), (d.mo_out, .inl (d.c_mo_out, 2000, .inl y.mo_out)), (d.mo_counts, .inl (d.c_mo_counts, 16, .inl y.mo_counts)), (d.mo_lengths, .inl (d.c_mo_lengths, 16, .inl y.mo_lengths)), (d.mo_codes, .inl (d.c_mo_codes, 16, .inl y.mo_codes)), (d.mo_weight, .inl (d.c_mo_weight, 32, .inl y.mo_weight)), (d.mo_over, .inl (d.c_mo_over, 32, .inl y.mo_over)), (d.mo_used, .inl (d.c_mo_used, 32, .inl y.mo_used)), (d.mo_row, .inl (d.c_mo_row, 16, .inl y.mo_row)), (d.mo_in, .inl (d.c_mo_in, 2000, .inl y.mo_in)), (d.mo_readSymbol, .inl (d.c_mo_readSymbol, 40, .inl y.mo_readSymbol)), (d.mo_readX, .inl (d.c_mo_readX, 40, .inl y.mo_readX)), (d.mo_readY, .inl (d.c_mo_readY, 40, .inl y.mo_readY)), (d.mo_readDiffers, .inl (d.c_mo_readDiffers, 40, .inr (.inl y.mo_readDiffers))), (d.mo_readWays, .inl (d.c_mo_readWays, 4, .inl y.mo_readWays))]
def KM (d : MA) : List (ClassId × FieldType) := [(d.c_mo_wide, .int), (d.c_mo_high, .int), (d.c_mo_dark, .long), (d.c_mo_symbolOf, .int), (d.c_mo_xs, .int), (d.c_mo_ys, .int), (d.c_mo_differs, .long), (d.c_mo_ways, .int), (d.c_mo_ordered, .int), (d.c_mo_page, .boolean), (d.c_mo_out, .int), (d.c_mo_counts, .int), (d.c_mo_lengths, .int), (d.c_mo_codes, .int), (d.c_mo_weight, .int), (d.c_mo_over, .int), (d.c_mo_used, .boolean), (d.c_mo_row, .int), (d.c_mo_in, .int), (d.c_mo_readSymbol, .int), (d.c_mo_readX, .int), (d.c_mo_readY, .int), (d.c_mo_readDiffers, .long), (d.c_mo_readWays, .int)]
def TA.swap (a : TA) : TA := (a.tr, a.di, a.pg, a.tb, a.cb, a.te, a.re, a.sp, a.la, a.di_widths, a.di_heights, a.di_samples, a.pg_dark, a.tb_bytes, a.cb_bytes, a.na, a.wr, a.rd, a.sp_ways, a.sp_symbolOf, a.sp_xs, a.sp_ys, a.sp_differs, a.sp_sequence, a.la_ways, a.la_symbolOf, a.la_xs, a.la_ys, a.la_differs, a.la_sequence, a.na_lengths, a.na_codes, a.na_weights, a.na_joinedTo, a.out, a.c_di_widths, a.c_di_heights, a.c_di_samples, a.c_pg_dark, a.c_tb_bytes, a.c_cb_bytes, a.c_sp_ways, a.c_sp_symbolOf, a.c_sp_xs, a.c_sp_ys, a.c_sp_differs, a.c_sp_sequence, a.c_la_ways, a.c_la_symbolOf, a.c_la_xs, a.c_la_ys, a.c_la_differs, a.c_la_sequence, a.c_na_lengths, a.c_na_codes, a.c_na_weights, a.c_na_joinedTo, a.c_out, a.na_row, a.c_na_row)
def TS.swap (z : TS) : TS := (z.tr_kind, z.tr_refusedAt, z.di_count, z.pg_width, z.pg_height, z.tb_count, z.cb_count, z.sp_count, z.la_count, z.di_widths, z.di_heights, z.di_samples, z.pg_dark, z.tb_bytes, z.cb_bytes, z.wr_keeping, z.wr_count, z.rd_place, z.rd_refusal, z.sp_ways, z.sp_symbolOf, z.sp_xs, z.sp_ys, z.sp_differs, z.sp_sequence, z.la_ways, z.la_symbolOf, z.la_xs, z.la_ys, z.la_differs, z.la_sequence, z.na_lengths, z.na_codes, z.na_weights, z.na_joinedTo, z.out, z.na_row)
theorem d_Law_law_0 : decode code 0 = .ok (.new 8, 3) := by decide +kernel
theorem d_Law_law_3 : decode code 3 = .ok (.dup, 1) := by decide +kernel
theorem d_Law_law_4 : decode code 4 = .ok (.aload_n 0, 1) := by decide +kernel
theorem d_Law_law_5 : decode code 5 = .ok (.iconst 0, 1) := by decide +kernel
theorem d_Law_law_6 : decode code 6 = .ok (.invokestatic 54, 3) := by decide +kernel
theorem d_Law_law_9 : decode code 9 = .ok (.aload_n 0, 1) := by decide +kernel
theorem d_Law_law_10 : decode code 10 = .ok (.iconst 1, 1) := by decide +kernel
theorem d_Law_law_11 : decode code 11 = .ok (.invokestatic 54, 3) := by decide +kernel
theorem d_Law_law_14 : decode code 14 = .ok (.aload_n 0, 1) := by decide +kernel
theorem d_Law_law_15 : decode code 15 = .ok (.iconst 2, 1) := by decide +kernel
theorem d_Law_law_16 : decode code 16 = .ok (.invokestatic 54, 3) := by decide +kernel
theorem d_Law_law_19 : decode code 19 = .ok (.invokespecial 60, 3) := by decide +kernel
theorem d_Law_law_22 : decode code 22 = .ok (.astore_n 1, 1) := by decide +kernel
theorem d_Law_law_23 : decode code 23 = .ok (.new 63, 3) := by decide +kernel
theorem d_Law_law_26 : decode code 26 = .ok (.dup, 1) := by decide +kernel
theorem d_Law_law_27 : decode code 27 = .ok (.aload_n 0, 1) := by decide +kernel
theorem d_Law_law_28 : decode code 28 = .ok (.iconst 0, 1) := by decide +kernel
theorem d_Law_law_29 : decode code 29 = .ok (.invokestatic 54, 3) := by decide +kernel
theorem d_Law_law_32 : decode code 32 = .ok (.aload_n 0, 1) := by decide +kernel
theorem d_Law_law_33 : decode code 33 = .ok (.iconst 1, 1) := by decide +kernel
theorem d_Law_law_34 : decode code 34 = .ok (.invokestatic 54, 3) := by decide +kernel
theorem d_Law_law_37 : decode code 37 = .ok (.aload_n 0, 1) := by decide +kernel
theorem d_Law_law_38 : decode code 38 = .ok (.iconst 2, 1) := by decide +kernel
theorem d_Law_law_39 : decode code 39 = .ok (.invokestatic 54, 3) := by decide +kernel
theorem d_Law_law_42 : decode code 42 = .ok (.invokespecial 65, 3) := by decide +kernel
theorem d_Law_law_45 : decode code 45 = .ok (.astore_n 2, 1) := by decide +kernel
theorem d_Law_law_46 : decode code 46 = .ok (.iconst 1, 1) := by decide +kernel
theorem d_Law_law_47 : decode code 47 = .ok (.newarray .long, 2) := by decide +kernel
theorem d_Law_law_49 : decode code 49 = .ok (.astore_n 3, 1) := by decide +kernel
theorem d_Law_law_50 : decode code 50 = .ok (.iconst 3, 1) := by decide +kernel
theorem d_Law_law_51 : decode code 51 = .ok (.istore 4, 2) := by decide +kernel
theorem d_Law_law_53 : decode code 53 = .ok (.iload 4, 2) := by decide +kernel
theorem d_Law_law_55 : decode code 55 = .ok (.aload_n 0, 1) := by decide +kernel
theorem d_Law_law_56 : decode code 56 = .ok (.arraylength, 1) := by decide +kernel
theorem d_Law_law_57 : decode code 57 = .ok (.iconst 5, 1) := by decide +kernel
theorem d_Law_law_58 : decode code 58 = .ok (.isub, 1) := by decide +kernel
theorem d_Law_law_59 : decode code 59 = .ok (.if_icmp .gt 670, 3) := by decide +kernel
theorem d_Law_law_62 : decode code 62 = .ok (.aload_n 0, 1) := by decide +kernel
theorem d_Law_law_63 : decode code 63 = .ok (.iload 4, 2) := by decide +kernel
theorem d_Law_law_65 : decode code 65 = .ok (.iaload, 1) := by decide +kernel
theorem d_Law_law_66 : decode code 66 = .ok (.bipush 15, 2) := by decide +kernel
theorem d_Law_law_68 : decode code 68 = .ok (.iand, 1) := by decide +kernel
theorem d_Law_law_69 : decode code 69 = .ok (.tableswitch 654 0 15 #[79, 119, 199, 251, 331, 371, 399, 412, 452, 465, 493, 521, 537, 550, 618, 643], 79) := by decide +kernel
theorem d_Law_law_148 : decode code 148 = .ok (.aload_n 1, 1) := by decide +kernel
theorem d_Law_law_149 : decode code 149 = .ok (.aload_n 0, 1) := by decide +kernel
theorem d_Law_law_150 : decode code 150 = .ok (.iload 4, 2) := by decide +kernel
theorem d_Law_law_152 : decode code 152 = .ok (.iconst 1, 1) := by decide +kernel
theorem d_Law_law_153 : decode code 153 = .ok (.iadd, 1) := by decide +kernel
theorem d_Law_law_154 : decode code 154 = .ok (.iaload, 1) := by decide +kernel
theorem d_Law_law_155 : decode code 155 = .ok (.aload_n 0, 1) := by decide +kernel
theorem d_Law_law_156 : decode code 156 = .ok (.iload 4, 2) := by decide +kernel
theorem d_Law_law_158 : decode code 158 = .ok (.iconst 2, 1) := by decide +kernel
theorem d_Law_law_159 : decode code 159 = .ok (.iadd, 1) := by decide +kernel
theorem d_Law_law_160 : decode code 160 = .ok (.iaload, 1) := by decide +kernel
theorem d_Law_law_161 : decode code 161 = .ok (.aload_n 3, 1) := by decide +kernel
theorem d_Law_law_162 : decode code 162 = .ok (.invokestatic 66, 3) := by decide +kernel
theorem d_Law_law_165 : decode code 165 = .ok (.istore 5, 2) := by decide +kernel
theorem d_Law_law_167 : decode code 167 = .ok (.aload_n 2, 1) := by decide +kernel
theorem d_Law_law_168 : decode code 168 = .ok (.aload_n 0, 1) := by decide +kernel
theorem d_Law_law_169 : decode code 169 = .ok (.iload 4, 2) := by decide +kernel
theorem d_Law_law_171 : decode code 171 = .ok (.iconst 1, 1) := by decide +kernel
theorem d_Law_law_172 : decode code 172 = .ok (.iadd, 1) := by decide +kernel
theorem d_Law_law_173 : decode code 173 = .ok (.iaload, 1) := by decide +kernel
theorem d_Law_law_174 : decode code 174 = .ok (.aload_n 0, 1) := by decide +kernel
theorem d_Law_law_175 : decode code 175 = .ok (.iload 4, 2) := by decide +kernel
theorem d_Law_law_177 : decode code 177 = .ok (.iconst 2, 1) := by decide +kernel
theorem d_Law_law_178 : decode code 178 = .ok (.iadd, 1) := by decide +kernel
theorem d_Law_law_179 : decode code 179 = .ok (.iaload, 1) := by decide +kernel
theorem d_Law_law_180 : decode code 180 = .ok (.invokevirtual 69, 3) := by decide +kernel
theorem d_Law_law_183 : decode code 183 = .ok (.istore 6, 2) := by decide +kernel
theorem d_Law_law_185 : decode code 185 = .ok (.goto 538, 3) := by decide +kernel
theorem d_Law_law_188 : decode code 188 = .ok (.aload_n 1, 1) := by decide +kernel
theorem d_Law_law_189 : decode code 189 = .ok (.aload_n 0, 1) := by decide +kernel
theorem d_Law_law_190 : decode code 190 = .ok (.iload 4, 2) := by decide +kernel
theorem d_Law_law_192 : decode code 192 = .ok (.iconst 1, 1) := by decide +kernel
theorem d_Law_law_193 : decode code 193 = .ok (.iadd, 1) := by decide +kernel
theorem d_Law_law_194 : decode code 194 = .ok (.iaload, 1) := by decide +kernel
theorem d_Law_law_195 : decode code 195 = .ok (.aload_n 0, 1) := by decide +kernel
theorem d_Law_law_196 : decode code 196 = .ok (.iload 4, 2) := by decide +kernel
theorem d_Law_law_198 : decode code 198 = .ok (.iconst 2, 1) := by decide +kernel
theorem d_Law_law_199 : decode code 199 = .ok (.iadd, 1) := by decide +kernel
theorem d_Law_law_200 : decode code 200 = .ok (.iaload, 1) := by decide +kernel
theorem d_Law_law_201 : decode code 201 = .ok (.aload_n 0, 1) := by decide +kernel
theorem d_Law_law_202 : decode code 202 = .ok (.iload 4, 2) := by decide +kernel
theorem d_Law_law_204 : decode code 204 = .ok (.iconst 3, 1) := by decide +kernel
theorem d_Law_law_205 : decode code 205 = .ok (.iadd, 1) := by decide +kernel
theorem d_Law_law_206 : decode code 206 = .ok (.iaload, 1) := by decide +kernel
theorem d_Law_law_207 : decode code 207 = .ok (.aload_n 0, 1) := by decide +kernel
theorem d_Law_law_208 : decode code 208 = .ok (.iload 4, 2) := by decide +kernel
theorem d_Law_law_210 : decode code 210 = .ok (.iconst 4, 1) := by decide +kernel
theorem d_Law_law_211 : decode code 211 = .ok (.iadd, 1) := by decide +kernel
theorem d_Law_law_212 : decode code 212 = .ok (.iaload, 1) := by decide +kernel
theorem d_Law_law_213 : decode code 213 = .ok (.ifCond .eq 7, 3) := by decide +kernel
theorem d_Law_law_216 : decode code 216 = .ok (.iconst 1, 1) := by decide +kernel
theorem d_Law_law_217 : decode code 217 = .ok (.goto 4, 3) := by decide +kernel
theorem d_Law_law_220 : decode code 220 = .ok (.iconst 0, 1) := by decide +kernel
theorem d_Law_law_221 : decode code 221 = .ok (.aload_n 3, 1) := by decide +kernel
theorem d_Law_law_222 : decode code 222 = .ok (.invokestatic 70, 3) := by decide +kernel
theorem d_Law_law_225 : decode code 225 = .ok (.istore 5, 2) := by decide +kernel
theorem d_Law_law_227 : decode code 227 = .ok (.aload_n 2, 1) := by decide +kernel
theorem d_Law_law_228 : decode code 228 = .ok (.aload_n 0, 1) := by decide +kernel
theorem d_Law_law_229 : decode code 229 = .ok (.iload 4, 2) := by decide +kernel
theorem d_Law_law_231 : decode code 231 = .ok (.iconst 1, 1) := by decide +kernel
theorem d_Law_law_232 : decode code 232 = .ok (.iadd, 1) := by decide +kernel
theorem d_Law_law_233 : decode code 233 = .ok (.iaload, 1) := by decide +kernel
theorem d_Law_law_234 : decode code 234 = .ok (.aload_n 0, 1) := by decide +kernel
theorem d_Law_law_235 : decode code 235 = .ok (.iload 4, 2) := by decide +kernel
theorem d_Law_law_237 : decode code 237 = .ok (.iconst 2, 1) := by decide +kernel
theorem d_Law_law_238 : decode code 238 = .ok (.iadd, 1) := by decide +kernel
theorem d_Law_law_239 : decode code 239 = .ok (.iaload, 1) := by decide +kernel
theorem d_Law_law_240 : decode code 240 = .ok (.aload_n 0, 1) := by decide +kernel
theorem d_Law_law_241 : decode code 241 = .ok (.iload 4, 2) := by decide +kernel
theorem d_Law_law_243 : decode code 243 = .ok (.iconst 3, 1) := by decide +kernel
theorem d_Law_law_244 : decode code 244 = .ok (.iadd, 1) := by decide +kernel
theorem d_Law_law_245 : decode code 245 = .ok (.iaload, 1) := by decide +kernel
theorem d_Law_law_246 : decode code 246 = .ok (.aload_n 0, 1) := by decide +kernel
theorem d_Law_law_247 : decode code 247 = .ok (.iload 4, 2) := by decide +kernel
theorem d_Law_law_249 : decode code 249 = .ok (.iconst 4, 1) := by decide +kernel
theorem d_Law_law_250 : decode code 250 = .ok (.iadd, 1) := by decide +kernel
theorem d_Law_law_251 : decode code 251 = .ok (.iaload, 1) := by decide +kernel
theorem d_Law_law_252 : decode code 252 = .ok (.ifCond .eq 7, 3) := by decide +kernel
theorem d_Law_law_255 : decode code 255 = .ok (.iconst 1, 1) := by decide +kernel
theorem d_Law_law_256 : decode code 256 = .ok (.goto 4, 3) := by decide +kernel
theorem d_Law_law_259 : decode code 259 = .ok (.iconst 0, 1) := by decide +kernel
theorem d_Law_law_260 : decode code 260 = .ok (.invokevirtual 73, 3) := by decide +kernel
theorem d_Law_law_263 : decode code 263 = .ok (.istore 6, 2) := by decide +kernel
theorem d_Law_law_265 : decode code 265 = .ok (.goto 458, 3) := by decide +kernel
theorem d_Law_law_268 : decode code 268 = .ok (.aload_n 1, 1) := by decide +kernel
theorem d_Law_law_269 : decode code 269 = .ok (.aload_n 0, 1) := by decide +kernel
theorem d_Law_law_270 : decode code 270 = .ok (.iload 4, 2) := by decide +kernel
theorem d_Law_law_272 : decode code 272 = .ok (.iconst 1, 1) := by decide +kernel
theorem d_Law_law_273 : decode code 273 = .ok (.iadd, 1) := by decide +kernel
theorem d_Law_law_274 : decode code 274 = .ok (.iaload, 1) := by decide +kernel
theorem d_Law_law_275 : decode code 275 = .ok (.aload_n 0, 1) := by decide +kernel
theorem d_Law_law_276 : decode code 276 = .ok (.iload 4, 2) := by decide +kernel
theorem d_Law_law_278 : decode code 278 = .ok (.iconst 2, 1) := by decide +kernel
theorem d_Law_law_279 : decode code 279 = .ok (.iadd, 1) := by decide +kernel
theorem d_Law_law_280 : decode code 280 = .ok (.iaload, 1) := by decide +kernel
theorem d_Law_law_281 : decode code 281 = .ok (.aload_n 0, 1) := by decide +kernel
theorem d_Law_law_282 : decode code 282 = .ok (.iload 4, 2) := by decide +kernel
theorem d_Law_law_284 : decode code 284 = .ok (.iconst 3, 1) := by decide +kernel
theorem d_Law_law_285 : decode code 285 = .ok (.iadd, 1) := by decide +kernel
theorem d_Law_law_286 : decode code 286 = .ok (.iaload, 1) := by decide +kernel
theorem d_Law_law_287 : decode code 287 = .ok (.aload_n 3, 1) := by decide +kernel
theorem d_Law_law_288 : decode code 288 = .ok (.invokestatic 74, 3) := by decide +kernel
theorem d_Law_law_291 : decode code 291 = .ok (.istore 5, 2) := by decide +kernel
theorem d_Law_law_293 : decode code 293 = .ok (.aload_n 2, 1) := by decide +kernel
theorem d_Law_law_294 : decode code 294 = .ok (.aload_n 0, 1) := by decide +kernel
theorem d_Law_law_295 : decode code 295 = .ok (.iload 4, 2) := by decide +kernel
theorem d_Law_law_297 : decode code 297 = .ok (.iconst 1, 1) := by decide +kernel
theorem d_Law_law_298 : decode code 298 = .ok (.iadd, 1) := by decide +kernel
theorem d_Law_law_299 : decode code 299 = .ok (.iaload, 1) := by decide +kernel
theorem d_Law_law_300 : decode code 300 = .ok (.aload_n 0, 1) := by decide +kernel
theorem d_Law_law_301 : decode code 301 = .ok (.iload 4, 2) := by decide +kernel
theorem d_Law_law_303 : decode code 303 = .ok (.iconst 2, 1) := by decide +kernel
theorem d_Law_law_304 : decode code 304 = .ok (.iadd, 1) := by decide +kernel
theorem d_Law_law_305 : decode code 305 = .ok (.iaload, 1) := by decide +kernel
theorem d_Law_law_306 : decode code 306 = .ok (.aload_n 0, 1) := by decide +kernel
theorem d_Law_law_307 : decode code 307 = .ok (.iload 4, 2) := by decide +kernel
theorem d_Law_law_309 : decode code 309 = .ok (.iconst 3, 1) := by decide +kernel
theorem d_Law_law_310 : decode code 310 = .ok (.iadd, 1) := by decide +kernel
theorem d_Law_law_311 : decode code 311 = .ok (.iaload, 1) := by decide +kernel
theorem d_Law_law_312 : decode code 312 = .ok (.invokevirtual 77, 3) := by decide +kernel
theorem d_Law_law_315 : decode code 315 = .ok (.istore 6, 2) := by decide +kernel
theorem d_Law_law_317 : decode code 317 = .ok (.goto 406, 3) := by decide +kernel
theorem d_Law_law_320 : decode code 320 = .ok (.aload_n 1, 1) := by decide +kernel
theorem d_Law_law_321 : decode code 321 = .ok (.aload_n 0, 1) := by decide +kernel
theorem d_Law_law_322 : decode code 322 = .ok (.iload 4, 2) := by decide +kernel
theorem d_Law_law_324 : decode code 324 = .ok (.iconst 1, 1) := by decide +kernel
theorem d_Law_law_325 : decode code 325 = .ok (.iadd, 1) := by decide +kernel
theorem d_Law_law_326 : decode code 326 = .ok (.iaload, 1) := by decide +kernel
theorem d_Law_law_327 : decode code 327 = .ok (.aload_n 0, 1) := by decide +kernel
theorem d_Law_law_328 : decode code 328 = .ok (.iload 4, 2) := by decide +kernel
theorem d_Law_law_330 : decode code 330 = .ok (.iconst 2, 1) := by decide +kernel
theorem d_Law_law_331 : decode code 331 = .ok (.iadd, 1) := by decide +kernel
theorem d_Law_law_332 : decode code 332 = .ok (.iaload, 1) := by decide +kernel
theorem d_Law_law_333 : decode code 333 = .ok (.aload_n 0, 1) := by decide +kernel
theorem d_Law_law_334 : decode code 334 = .ok (.iload 4, 2) := by decide +kernel
theorem d_Law_law_336 : decode code 336 = .ok (.iconst 3, 1) := by decide +kernel
theorem d_Law_law_337 : decode code 337 = .ok (.iadd, 1) := by decide +kernel
theorem d_Law_law_338 : decode code 338 = .ok (.iaload, 1) := by decide +kernel
theorem d_Law_law_339 : decode code 339 = .ok (.aload_n 0, 1) := by decide +kernel
theorem d_Law_law_340 : decode code 340 = .ok (.iload 4, 2) := by decide +kernel
theorem d_Law_law_342 : decode code 342 = .ok (.iconst 4, 1) := by decide +kernel
theorem d_Law_law_343 : decode code 343 = .ok (.iadd, 1) := by decide +kernel
theorem d_Law_law_344 : decode code 344 = .ok (.iaload, 1) := by decide +kernel
theorem d_Law_law_345 : decode code 345 = .ok (.ifCond .eq 7, 3) := by decide +kernel
theorem d_Law_law_348 : decode code 348 = .ok (.iconst 1, 1) := by decide +kernel
theorem d_Law_law_349 : decode code 349 = .ok (.goto 4, 3) := by decide +kernel
theorem d_Law_law_352 : decode code 352 = .ok (.iconst 0, 1) := by decide +kernel
theorem d_Law_law_353 : decode code 353 = .ok (.aload_n 3, 1) := by decide +kernel
theorem d_Law_law_354 : decode code 354 = .ok (.invokestatic 78, 3) := by decide +kernel
theorem d_Law_law_357 : decode code 357 = .ok (.istore 5, 2) := by decide +kernel
theorem d_Law_law_359 : decode code 359 = .ok (.aload_n 2, 1) := by decide +kernel
theorem d_Law_law_360 : decode code 360 = .ok (.aload_n 0, 1) := by decide +kernel
theorem d_Law_law_361 : decode code 361 = .ok (.iload 4, 2) := by decide +kernel
theorem d_Law_law_363 : decode code 363 = .ok (.iconst 1, 1) := by decide +kernel
theorem d_Law_law_364 : decode code 364 = .ok (.iadd, 1) := by decide +kernel
theorem d_Law_law_365 : decode code 365 = .ok (.iaload, 1) := by decide +kernel
theorem d_Law_law_366 : decode code 366 = .ok (.aload_n 0, 1) := by decide +kernel
theorem d_Law_law_367 : decode code 367 = .ok (.iload 4, 2) := by decide +kernel
theorem d_Law_law_369 : decode code 369 = .ok (.iconst 2, 1) := by decide +kernel
theorem d_Law_law_370 : decode code 370 = .ok (.iadd, 1) := by decide +kernel
theorem d_Law_law_371 : decode code 371 = .ok (.iaload, 1) := by decide +kernel
theorem d_Law_law_372 : decode code 372 = .ok (.aload_n 0, 1) := by decide +kernel
theorem d_Law_law_373 : decode code 373 = .ok (.iload 4, 2) := by decide +kernel
theorem d_Law_law_375 : decode code 375 = .ok (.iconst 3, 1) := by decide +kernel
theorem d_Law_law_376 : decode code 376 = .ok (.iadd, 1) := by decide +kernel
theorem d_Law_law_377 : decode code 377 = .ok (.iaload, 1) := by decide +kernel
theorem d_Law_law_378 : decode code 378 = .ok (.aload_n 0, 1) := by decide +kernel
theorem d_Law_law_379 : decode code 379 = .ok (.iload 4, 2) := by decide +kernel
theorem d_Law_law_381 : decode code 381 = .ok (.iconst 4, 1) := by decide +kernel
theorem d_Law_law_382 : decode code 382 = .ok (.iadd, 1) := by decide +kernel
theorem d_Law_law_383 : decode code 383 = .ok (.iaload, 1) := by decide +kernel
theorem d_Law_law_384 : decode code 384 = .ok (.ifCond .eq 7, 3) := by decide +kernel
theorem d_Law_law_387 : decode code 387 = .ok (.iconst 1, 1) := by decide +kernel
theorem d_Law_law_388 : decode code 388 = .ok (.goto 4, 3) := by decide +kernel
theorem d_Law_law_391 : decode code 391 = .ok (.iconst 0, 1) := by decide +kernel
theorem d_Law_law_392 : decode code 392 = .ok (.invokevirtual 80, 3) := by decide +kernel
theorem d_Law_law_395 : decode code 395 = .ok (.istore 6, 2) := by decide +kernel
theorem d_Law_law_397 : decode code 397 = .ok (.goto 326, 3) := by decide +kernel
theorem d_Law_law_400 : decode code 400 = .ok (.aload_n 1, 1) := by decide +kernel
theorem d_Law_law_401 : decode code 401 = .ok (.aload_n 0, 1) := by decide +kernel
theorem d_Law_law_402 : decode code 402 = .ok (.iload 4, 2) := by decide +kernel
theorem d_Law_law_404 : decode code 404 = .ok (.iconst 1, 1) := by decide +kernel
theorem d_Law_law_405 : decode code 405 = .ok (.iadd, 1) := by decide +kernel
theorem d_Law_law_406 : decode code 406 = .ok (.iaload, 1) := by decide +kernel
theorem d_Law_law_407 : decode code 407 = .ok (.aload_n 0, 1) := by decide +kernel
theorem d_Law_law_408 : decode code 408 = .ok (.iload 4, 2) := by decide +kernel
theorem d_Law_law_410 : decode code 410 = .ok (.iconst 2, 1) := by decide +kernel
theorem d_Law_law_411 : decode code 411 = .ok (.iadd, 1) := by decide +kernel
theorem d_Law_law_412 : decode code 412 = .ok (.iaload, 1) := by decide +kernel
theorem d_Law_law_413 : decode code 413 = .ok (.aload_n 3, 1) := by decide +kernel
theorem d_Law_law_414 : decode code 414 = .ok (.invokestatic 81, 3) := by decide +kernel
theorem d_Law_law_417 : decode code 417 = .ok (.istore 5, 2) := by decide +kernel
theorem d_Law_law_419 : decode code 419 = .ok (.aload_n 2, 1) := by decide +kernel
theorem d_Law_law_420 : decode code 420 = .ok (.aload_n 0, 1) := by decide +kernel
theorem d_Law_law_421 : decode code 421 = .ok (.iload 4, 2) := by decide +kernel
theorem d_Law_law_423 : decode code 423 = .ok (.iconst 1, 1) := by decide +kernel
theorem d_Law_law_424 : decode code 424 = .ok (.iadd, 1) := by decide +kernel
theorem d_Law_law_425 : decode code 425 = .ok (.iaload, 1) := by decide +kernel
theorem d_Law_law_426 : decode code 426 = .ok (.aload_n 0, 1) := by decide +kernel
theorem d_Law_law_427 : decode code 427 = .ok (.iload 4, 2) := by decide +kernel
theorem d_Law_law_429 : decode code 429 = .ok (.iconst 2, 1) := by decide +kernel
theorem d_Law_law_430 : decode code 430 = .ok (.iadd, 1) := by decide +kernel
theorem d_Law_law_431 : decode code 431 = .ok (.iaload, 1) := by decide +kernel
theorem d_Law_law_432 : decode code 432 = .ok (.invokevirtual 83, 3) := by decide +kernel
theorem d_Law_law_435 : decode code 435 = .ok (.istore 6, 2) := by decide +kernel
theorem d_Law_law_437 : decode code 437 = .ok (.goto 286, 3) := by decide +kernel
theorem d_Law_law_440 : decode code 440 = .ok (.aload_n 1, 1) := by decide +kernel
theorem d_Law_law_441 : decode code 441 = .ok (.aload_n 0, 1) := by decide +kernel
theorem d_Law_law_442 : decode code 442 = .ok (.iload 4, 2) := by decide +kernel
theorem d_Law_law_444 : decode code 444 = .ok (.iconst 1, 1) := by decide +kernel
theorem d_Law_law_445 : decode code 445 = .ok (.iadd, 1) := by decide +kernel
theorem d_Law_law_446 : decode code 446 = .ok (.iaload, 1) := by decide +kernel
theorem d_Law_law_447 : decode code 447 = .ok (.aload_n 3, 1) := by decide +kernel
theorem d_Law_law_448 : decode code 448 = .ok (.invokestatic 84, 3) := by decide +kernel
theorem d_Law_law_451 : decode code 451 = .ok (.istore 5, 2) := by decide +kernel
theorem d_Law_law_453 : decode code 453 = .ok (.aload_n 2, 1) := by decide +kernel
theorem d_Law_law_454 : decode code 454 = .ok (.aload_n 0, 1) := by decide +kernel
theorem d_Law_law_455 : decode code 455 = .ok (.iload 4, 2) := by decide +kernel
theorem d_Law_law_457 : decode code 457 = .ok (.iconst 1, 1) := by decide +kernel
theorem d_Law_law_458 : decode code 458 = .ok (.iadd, 1) := by decide +kernel
theorem d_Law_law_459 : decode code 459 = .ok (.iaload, 1) := by decide +kernel
theorem d_Law_law_460 : decode code 460 = .ok (.invokevirtual 87, 3) := by decide +kernel
theorem d_Law_law_463 : decode code 463 = .ok (.istore 6, 2) := by decide +kernel
theorem d_Law_law_465 : decode code 465 = .ok (.goto 258, 3) := by decide +kernel
theorem d_Law_law_468 : decode code 468 = .ok (.aload_n 1, 1) := by decide +kernel
theorem d_Law_law_469 : decode code 469 = .ok (.invokevirtual 88, 3) := by decide +kernel
theorem d_Law_law_472 : decode code 472 = .ok (.pop, 1) := by decide +kernel
theorem d_Law_law_473 : decode code 473 = .ok (.aload_n 2, 1) := by decide +kernel
theorem d_Law_law_474 : decode code 474 = .ok (.invokevirtual 91, 3) := by decide +kernel
theorem d_Law_law_477 : decode code 477 = .ok (.pop, 1) := by decide +kernel
theorem d_Law_law_478 : decode code 478 = .ok (.goto 245, 3) := by decide +kernel
theorem d_Law_law_481 : decode code 481 = .ok (.aload_n 1, 1) := by decide +kernel
theorem d_Law_law_482 : decode code 482 = .ok (.aload_n 0, 1) := by decide +kernel
theorem d_Law_law_483 : decode code 483 = .ok (.iload 4, 2) := by decide +kernel
theorem d_Law_law_485 : decode code 485 = .ok (.iconst 1, 1) := by decide +kernel
theorem d_Law_law_486 : decode code 486 = .ok (.iadd, 1) := by decide +kernel
theorem d_Law_law_487 : decode code 487 = .ok (.iaload, 1) := by decide +kernel
theorem d_Law_law_488 : decode code 488 = .ok (.aload_n 0, 1) := by decide +kernel
theorem d_Law_law_489 : decode code 489 = .ok (.iload 4, 2) := by decide +kernel
theorem d_Law_law_491 : decode code 491 = .ok (.iconst 2, 1) := by decide +kernel
theorem d_Law_law_492 : decode code 492 = .ok (.iadd, 1) := by decide +kernel
theorem d_Law_law_493 : decode code 493 = .ok (.iaload, 1) := by decide +kernel
theorem d_Law_law_494 : decode code 494 = .ok (.aload_n 3, 1) := by decide +kernel
theorem d_Law_law_495 : decode code 495 = .ok (.invokestatic 92, 3) := by decide +kernel
theorem d_Law_law_498 : decode code 498 = .ok (.istore 5, 2) := by decide +kernel
theorem d_Law_law_500 : decode code 500 = .ok (.aload_n 2, 1) := by decide +kernel
theorem d_Law_law_501 : decode code 501 = .ok (.aload_n 0, 1) := by decide +kernel
theorem d_Law_law_502 : decode code 502 = .ok (.iload 4, 2) := by decide +kernel
theorem d_Law_law_504 : decode code 504 = .ok (.iconst 1, 1) := by decide +kernel
theorem d_Law_law_505 : decode code 505 = .ok (.iadd, 1) := by decide +kernel
theorem d_Law_law_506 : decode code 506 = .ok (.iaload, 1) := by decide +kernel
theorem d_Law_law_507 : decode code 507 = .ok (.aload_n 0, 1) := by decide +kernel
theorem d_Law_law_508 : decode code 508 = .ok (.iload 4, 2) := by decide +kernel
theorem d_Law_law_510 : decode code 510 = .ok (.iconst 2, 1) := by decide +kernel
theorem d_Law_law_511 : decode code 511 = .ok (.iadd, 1) := by decide +kernel
theorem d_Law_law_512 : decode code 512 = .ok (.iaload, 1) := by decide +kernel
theorem d_Law_law_513 : decode code 513 = .ok (.invokevirtual 94, 3) := by decide +kernel
theorem d_Law_law_516 : decode code 516 = .ok (.istore 6, 2) := by decide +kernel
theorem d_Law_law_518 : decode code 518 = .ok (.goto 205, 3) := by decide +kernel
theorem d_Law_law_521 : decode code 521 = .ok (.aload_n 1, 1) := by decide +kernel
theorem d_Law_law_522 : decode code 522 = .ok (.invokevirtual 95, 3) := by decide +kernel
theorem d_Law_law_525 : decode code 525 = .ok (.pop, 1) := by decide +kernel
theorem d_Law_law_526 : decode code 526 = .ok (.aload_n 2, 1) := by decide +kernel
theorem d_Law_law_527 : decode code 527 = .ok (.invokevirtual 98, 3) := by decide +kernel
theorem d_Law_law_530 : decode code 530 = .ok (.pop, 1) := by decide +kernel
theorem d_Law_law_531 : decode code 531 = .ok (.goto 192, 3) := by decide +kernel
theorem d_Law_law_534 : decode code 534 = .ok (.aload_n 1, 1) := by decide +kernel
theorem d_Law_law_535 : decode code 535 = .ok (.aload_n 0, 1) := by decide +kernel
theorem d_Law_law_536 : decode code 536 = .ok (.iload 4, 2) := by decide +kernel
theorem d_Law_law_538 : decode code 538 = .ok (.iconst 1, 1) := by decide +kernel
theorem d_Law_law_539 : decode code 539 = .ok (.iadd, 1) := by decide +kernel
theorem d_Law_law_540 : decode code 540 = .ok (.iaload, 1) := by decide +kernel
theorem d_Law_law_541 : decode code 541 = .ok (.aload_n 3, 1) := by decide +kernel
theorem d_Law_law_542 : decode code 542 = .ok (.invokestatic 99, 3) := by decide +kernel
theorem d_Law_law_545 : decode code 545 = .ok (.istore 5, 2) := by decide +kernel
theorem d_Law_law_547 : decode code 547 = .ok (.aload_n 2, 1) := by decide +kernel
theorem d_Law_law_548 : decode code 548 = .ok (.aload_n 0, 1) := by decide +kernel
theorem d_Law_law_549 : decode code 549 = .ok (.iload 4, 2) := by decide +kernel
theorem d_Law_law_551 : decode code 551 = .ok (.iconst 1, 1) := by decide +kernel
theorem d_Law_law_552 : decode code 552 = .ok (.iadd, 1) := by decide +kernel
theorem d_Law_law_553 : decode code 553 = .ok (.iaload, 1) := by decide +kernel
theorem d_Law_law_554 : decode code 554 = .ok (.invokevirtual 101, 3) := by decide +kernel
theorem d_Law_law_557 : decode code 557 = .ok (.istore 6, 2) := by decide +kernel
theorem d_Law_law_559 : decode code 559 = .ok (.goto 164, 3) := by decide +kernel
theorem d_Law_law_562 : decode code 562 = .ok (.aload_n 1, 1) := by decide +kernel
theorem d_Law_law_563 : decode code 563 = .ok (.aload_n 0, 1) := by decide +kernel
theorem d_Law_law_564 : decode code 564 = .ok (.iload 4, 2) := by decide +kernel
theorem d_Law_law_566 : decode code 566 = .ok (.iconst 1, 1) := by decide +kernel
theorem d_Law_law_567 : decode code 567 = .ok (.iadd, 1) := by decide +kernel
theorem d_Law_law_568 : decode code 568 = .ok (.iaload, 1) := by decide +kernel
theorem d_Law_law_569 : decode code 569 = .ok (.aload_n 3, 1) := by decide +kernel
theorem d_Law_law_570 : decode code 570 = .ok (.invokestatic 102, 3) := by decide +kernel
theorem d_Law_law_573 : decode code 573 = .ok (.istore 5, 2) := by decide +kernel
theorem d_Law_law_575 : decode code 575 = .ok (.aload_n 2, 1) := by decide +kernel
theorem d_Law_law_576 : decode code 576 = .ok (.aload_n 0, 1) := by decide +kernel
theorem d_Law_law_577 : decode code 577 = .ok (.iload 4, 2) := by decide +kernel
theorem d_Law_law_579 : decode code 579 = .ok (.iconst 1, 1) := by decide +kernel
theorem d_Law_law_580 : decode code 580 = .ok (.iadd, 1) := by decide +kernel
theorem d_Law_law_581 : decode code 581 = .ok (.iaload, 1) := by decide +kernel
theorem d_Law_law_582 : decode code 582 = .ok (.invokevirtual 104, 3) := by decide +kernel
theorem d_Law_law_585 : decode code 585 = .ok (.istore 6, 2) := by decide +kernel
theorem d_Law_law_587 : decode code 587 = .ok (.goto 136, 3) := by decide +kernel
theorem d_Law_law_590 : decode code 590 = .ok (.aload_n 1, 1) := by decide +kernel
theorem d_Law_law_591 : decode code 591 = .ok (.aload_n 3, 1) := by decide +kernel
theorem d_Law_law_592 : decode code 592 = .ok (.invokestatic 105, 3) := by decide +kernel
theorem d_Law_law_595 : decode code 595 = .ok (.istore 5, 2) := by decide +kernel
theorem d_Law_law_597 : decode code 597 = .ok (.aload_n 2, 1) := by decide +kernel
theorem d_Law_law_598 : decode code 598 = .ok (.invokevirtual 108, 3) := by decide +kernel
theorem d_Law_law_601 : decode code 601 = .ok (.istore 6, 2) := by decide +kernel
theorem d_Law_law_603 : decode code 603 = .ok (.goto 120, 3) := by decide +kernel
theorem d_Law_law_606 : decode code 606 = .ok (.aload_n 1, 1) := by decide +kernel
theorem d_Law_law_607 : decode code 607 = .ok (.invokevirtual 109, 3) := by decide +kernel
theorem d_Law_law_610 : decode code 610 = .ok (.pop, 1) := by decide +kernel
theorem d_Law_law_611 : decode code 611 = .ok (.aload_n 2, 1) := by decide +kernel
theorem d_Law_law_612 : decode code 612 = .ok (.invokevirtual 112, 3) := by decide +kernel
theorem d_Law_law_615 : decode code 615 = .ok (.pop, 1) := by decide +kernel
theorem d_Law_law_616 : decode code 616 = .ok (.goto 107, 3) := by decide +kernel
theorem d_Law_law_619 : decode code 619 = .ok (.aload_n 1, 1) := by decide +kernel
theorem d_Law_law_620 : decode code 620 = .ok (.aload_n 0, 1) := by decide +kernel
theorem d_Law_law_621 : decode code 621 = .ok (.iload 4, 2) := by decide +kernel
theorem d_Law_law_623 : decode code 623 = .ok (.iconst 1, 1) := by decide +kernel
theorem d_Law_law_624 : decode code 624 = .ok (.iadd, 1) := by decide +kernel
theorem d_Law_law_625 : decode code 625 = .ok (.iaload, 1) := by decide +kernel
theorem d_Law_law_626 : decode code 626 = .ok (.aload_n 0, 1) := by decide +kernel
theorem d_Law_law_627 : decode code 627 = .ok (.iload 4, 2) := by decide +kernel
theorem d_Law_law_629 : decode code 629 = .ok (.iconst 2, 1) := by decide +kernel
theorem d_Law_law_630 : decode code 630 = .ok (.iadd, 1) := by decide +kernel
theorem d_Law_law_631 : decode code 631 = .ok (.iaload, 1) := by decide +kernel
theorem d_Law_law_632 : decode code 632 = .ok (.aload_n 3, 1) := by decide +kernel
theorem d_Law_law_633 : decode code 633 = .ok (.invokestatic 113, 3) := by decide +kernel
theorem d_Law_law_636 : decode code 636 = .ok (.istore 5, 2) := by decide +kernel
theorem d_Law_law_638 : decode code 638 = .ok (.aload_n 2, 1) := by decide +kernel
theorem d_Law_law_639 : decode code 639 = .ok (.aload_n 0, 1) := by decide +kernel
theorem d_Law_law_640 : decode code 640 = .ok (.iload 4, 2) := by decide +kernel
theorem d_Law_law_642 : decode code 642 = .ok (.iconst 1, 1) := by decide +kernel
theorem d_Law_law_643 : decode code 643 = .ok (.iadd, 1) := by decide +kernel
theorem d_Law_law_644 : decode code 644 = .ok (.iaload, 1) := by decide +kernel
theorem d_Law_law_645 : decode code 645 = .ok (.aload_n 0, 1) := by decide +kernel
theorem d_Law_law_646 : decode code 646 = .ok (.iload 4, 2) := by decide +kernel
theorem d_Law_law_648 : decode code 648 = .ok (.iconst 2, 1) := by decide +kernel
theorem d_Law_law_649 : decode code 649 = .ok (.iadd, 1) := by decide +kernel
theorem d_Law_law_650 : decode code 650 = .ok (.iaload, 1) := by decide +kernel
theorem d_Law_law_651 : decode code 651 = .ok (.invokevirtual 115, 3) := by decide +kernel
theorem d_Law_law_654 : decode code 654 = .ok (.istore 6, 2) := by decide +kernel
theorem d_Law_law_656 : decode code 656 = .ok (.aload_n 2, 1) := by decide +kernel
theorem d_Law_law_657 : decode code 657 = .ok (.invokevirtual 116, 3) := by decide +kernel
theorem d_Law_law_660 : decode code 660 = .ok (.iload 5, 2) := by decide +kernel
theorem d_Law_law_662 : decode code 662 = .ok (.if_icmp .eq 5, 3) := by decide +kernel
theorem d_Law_law_665 : decode code 665 = .ok (.iconst 0, 1) := by decide +kernel
theorem d_Law_law_666 : decode code 666 = .ok (.ireturn, 1) := by decide +kernel
theorem d_Law_law_667 : decode code 667 = .ok (.iload 5, 2) := by decide +kernel
theorem d_Law_law_669 : decode code 669 = .ok (.ifCond .ne 15, 3) := by decide +kernel
theorem d_Law_law_672 : decode code 672 = .ok (.aload_n 3, 1) := by decide +kernel
theorem d_Law_law_673 : decode code 673 = .ok (.iconst 0, 1) := by decide +kernel
theorem d_Law_law_674 : decode code 674 = .ok (.laload, 1) := by decide +kernel
theorem d_Law_law_675 : decode code 675 = .ok (.iload 6, 2) := by decide +kernel
theorem d_Law_law_677 : decode code 677 = .ok (.i2l, 1) := by decide +kernel
theorem d_Law_law_678 : decode code 678 = .ok (.lcmp, 1) := by decide +kernel
theorem d_Law_law_679 : decode code 679 = .ok (.ifCond .eq 5, 3) := by decide +kernel
theorem d_Law_law_682 : decode code 682 = .ok (.iconst 0, 1) := by decide +kernel
theorem d_Law_law_683 : decode code 683 = .ok (.ireturn, 1) := by decide +kernel
theorem d_Law_law_684 : decode code 684 = .ok (.goto 39, 3) := by decide +kernel
theorem d_Law_law_687 : decode code 687 = .ok (.aload_n 1, 1) := by decide +kernel
theorem d_Law_law_688 : decode code 688 = .ok (.aload_n 0, 1) := by decide +kernel
theorem d_Law_law_689 : decode code 689 = .ok (.iload 4, 2) := by decide +kernel
theorem d_Law_law_691 : decode code 691 = .ok (.iconst 1, 1) := by decide +kernel
theorem d_Law_law_692 : decode code 692 = .ok (.iadd, 1) := by decide +kernel
theorem d_Law_law_693 : decode code 693 = .ok (.iaload, 1) := by decide +kernel
theorem d_Law_law_694 : decode code 694 = .ok (.invokevirtual 119, 3) := by decide +kernel
theorem d_Law_law_697 : decode code 697 = .ok (.pop, 1) := by decide +kernel
theorem d_Law_law_698 : decode code 698 = .ok (.aload_n 2, 1) := by decide +kernel
theorem d_Law_law_699 : decode code 699 = .ok (.aload_n 0, 1) := by decide +kernel
theorem d_Law_law_700 : decode code 700 = .ok (.iload 4, 2) := by decide +kernel
theorem d_Law_law_702 : decode code 702 = .ok (.iconst 1, 1) := by decide +kernel
theorem d_Law_law_703 : decode code 703 = .ok (.iadd, 1) := by decide +kernel
theorem d_Law_law_704 : decode code 704 = .ok (.iaload, 1) := by decide +kernel
theorem d_Law_law_705 : decode code 705 = .ok (.invokevirtual 122, 3) := by decide +kernel
theorem d_Law_law_708 : decode code 708 = .ok (.pop, 1) := by decide +kernel
theorem d_Law_law_709 : decode code 709 = .ok (.goto 14, 3) := by decide +kernel
theorem d_Law_law_712 : decode code 712 = .ok (.aload_n 1, 1) := by decide +kernel
theorem d_Law_law_713 : decode code 713 = .ok (.invokevirtual 123, 3) := by decide +kernel
theorem d_Law_law_716 : decode code 716 = .ok (.aload_n 2, 1) := by decide +kernel
theorem d_Law_law_717 : decode code 717 = .ok (.invokevirtual 126, 3) := by decide +kernel
theorem d_Law_law_720 : decode code 720 = .ok (.goto 3, 3) := by decide +kernel
theorem d_Law_law_723 : decode code 723 = .ok (.iinc 4 5, 3) := by decide +kernel
theorem d_Law_law_726 : decode code 726 = .ok (.goto (-673), 3) := by decide +kernel
theorem d_Law_law_729 : decode code 729 = .ok (.iconst 1, 1) := by decide +kernel
theorem d_Law_law_730 : decode code 730 = .ok (.ireturn, 1) := by decide +kernel
def T_symbol (z : TS) (p1 : Int32) (p2 : Int32) : Option (Int32 × TS) := (f_Law_symbol z.out z.di_count z.di_widths z.di_heights z.di_samples p1 p2).map fun o => (o.1, ((z.tr_kind, z.tr_refusedAt, o.2.2.1, z.pg_width, z.pg_height, z.tb_count, z.cb_count, z.la_count, z.sp_count, o.2.2.2.1, o.2.2.2.2.1, o.2.2.2.2.2, z.pg_dark, z.tb_bytes, z.cb_bytes, z.wr_keeping, z.wr_count, z.rd_place, z.rd_refusal, z.la_ways, z.la_symbolOf, z.la_xs, z.la_ys, z.la_differs, z.la_sequence, z.sp_ways, z.sp_symbolOf, z.sp_xs, z.sp_ys, z.sp_differs, z.sp_sequence, z.na_lengths, z.na_codes, z.na_weights, z.na_joinedTo, o.2.1, z.na_row) : TS))
def M_symbol (y : MS) (p0 : Int32) (p1 : Int32) : Option (Int32 × MS) := (f_Mo_symbol y.mo_symbols y.mo_wide y.mo_high y.mo_dark p0 p1).map fun o => (o.1, ((o.2.1, y.mo_width, y.mo_height, y.mo_kind, o.2.2.1, y.mo_instances, y.mo_told, y.mo_keeps, y.mo_toldBytes, y.mo_came, y.mo_at, y.mo_refused, y.mo_place, y.mo_readMany, o.2.2.2.1, o.2.2.2.2.1, o.2.2.2.2.2, y.mo_symbolOf, y.mo_xs, y.mo_ys, y.mo_differs, y.mo_ways, y.mo_ordered, y.mo_page, y.mo_out, y.mo_counts, y.mo_lengths, y.mo_codes, y.mo_weight, y.mo_over, y.mo_used, y.mo_row, y.mo_in, y.mo_readSymbol, y.mo_readX, y.mo_readY, y.mo_readDiffers, y.mo_readWays) : MS))
def T_put (z : TS) (p1 : Int32) (p2 : Int32) (p3 : Int32) (p4 : Int32) : Option (Int32 × TS) := (f_Law_put z.out z.di_count z.di_widths z.di_heights z.di_samples p1 p2 p3 p4).map fun o => (o.1, ((z.tr_kind, z.tr_refusedAt, z.di_count, z.pg_width, z.pg_height, z.tb_count, z.cb_count, z.la_count, z.sp_count, z.di_widths, z.di_heights, o.2.2, z.pg_dark, z.tb_bytes, z.cb_bytes, z.wr_keeping, z.wr_count, z.rd_place, z.rd_refusal, z.la_ways, z.la_symbolOf, z.la_xs, z.la_ys, z.la_differs, z.la_sequence, z.sp_ways, z.sp_symbolOf, z.sp_xs, z.sp_ys, z.sp_differs, z.sp_sequence, z.na_lengths, z.na_codes, z.na_weights, z.na_joinedTo, o.2.1, z.na_row) : TS))
def M_put (y : MS) (p0 : Int32) (p1 : Int32) (p2 : Int32) (p3 : Int32) : Option (Int32 × MS) := (f_Mo_put y.mo_symbols y.mo_dark y.mo_wide y.mo_high p0 p1 p2 p3).map fun o => (o.1, ((o.2.1, y.mo_width, y.mo_height, y.mo_kind, y.mo_symbols, y.mo_instances, y.mo_told, y.mo_keeps, y.mo_toldBytes, y.mo_came, y.mo_at, y.mo_refused, y.mo_place, y.mo_readMany, y.mo_wide, y.mo_high, o.2.2, y.mo_symbolOf, y.mo_xs, y.mo_ys, y.mo_differs, y.mo_ways, y.mo_ordered, y.mo_page, y.mo_out, y.mo_counts, y.mo_lengths, y.mo_codes, y.mo_weight, y.mo_over, y.mo_used, y.mo_row, y.mo_in, y.mo_readSymbol, y.mo_readX, y.mo_readY, y.mo_readDiffers, y.mo_readWays) : MS))
def T_instance (z : TS) (p1 : Int32) (p2 : Int32) (p3 : Int32) : Option (Int32 × TS) := (f_Law_instance z.out z.di_count z.la_count z.la_symbolOf z.la_xs z.la_ys z.la_differs p1 p2 p3).map fun o => (o.1, ((z.tr_kind, z.tr_refusedAt, z.di_count, z.pg_width, z.pg_height, z.tb_count, z.cb_count, o.2.2.1, z.sp_count, z.di_widths, z.di_heights, z.di_samples, z.pg_dark, z.tb_bytes, z.cb_bytes, z.wr_keeping, z.wr_count, z.rd_place, z.rd_refusal, z.la_ways, o.2.2.2.1, o.2.2.2.2.1, o.2.2.2.2.2.1, o.2.2.2.2.2.2, z.la_sequence, z.sp_ways, z.sp_symbolOf, z.sp_xs, z.sp_ys, z.sp_differs, z.sp_sequence, z.na_lengths, z.na_codes, z.na_weights, z.na_joinedTo, o.2.1, z.na_row) : TS))
def M_instance (y : MS) (p0 : Int32) (p1 : Int32) (p2 : Int32) : Option (Int32 × MS) := (f_Mo_instance y.mo_symbols y.mo_instances y.mo_symbolOf y.mo_xs y.mo_ys y.mo_differs p0 p1 p2).map fun o => (o.1, ((o.2.1, y.mo_width, y.mo_height, y.mo_kind, y.mo_symbols, o.2.2.1, y.mo_told, y.mo_keeps, y.mo_toldBytes, y.mo_came, y.mo_at, y.mo_refused, y.mo_place, y.mo_readMany, y.mo_wide, y.mo_high, y.mo_dark, o.2.2.2.1, o.2.2.2.2.1, o.2.2.2.2.2.1, o.2.2.2.2.2.2, y.mo_ways, y.mo_ordered, y.mo_page, y.mo_out, y.mo_counts, y.mo_lengths, y.mo_codes, y.mo_weight, y.mo_over, y.mo_used, y.mo_row, y.mo_in, y.mo_readSymbol, y.mo_readX, y.mo_readY, y.mo_readDiffers, y.mo_readWays) : MS))
def T_refine (z : TS) (p1 : Int32) (p2 : Int32) (p3 : Int32) (p4 : Int32) : Option (Int32 × TS) := (f_Law_refine z.out z.la_count z.la_symbolOf z.di_widths z.di_heights z.la_differs p1 p2 p3 p4).map fun o => (o.1, ((z.tr_kind, z.tr_refusedAt, z.di_count, z.pg_width, z.pg_height, z.tb_count, z.cb_count, z.la_count, z.sp_count, z.di_widths, z.di_heights, z.di_samples, z.pg_dark, z.tb_bytes, z.cb_bytes, z.wr_keeping, z.wr_count, z.rd_place, z.rd_refusal, z.la_ways, z.la_symbolOf, z.la_xs, z.la_ys, o.2.2, z.la_sequence, z.sp_ways, z.sp_symbolOf, z.sp_xs, z.sp_ys, z.sp_differs, z.sp_sequence, z.na_lengths, z.na_codes, z.na_weights, z.na_joinedTo, o.2.1, z.na_row) : TS))
def M_refine (y : MS) (p0 : Int32) (p1 : Int32) (p2 : Int32) (p3 : Int32) : Option (Int32 × MS) := (f_Mo_refine y.mo_instances y.mo_differs y.mo_symbolOf y.mo_wide y.mo_high p0 p1 p2 p3).map fun o => (o.1, ((o.2.1, y.mo_width, y.mo_height, y.mo_kind, y.mo_symbols, y.mo_instances, y.mo_told, y.mo_keeps, y.mo_toldBytes, y.mo_came, y.mo_at, y.mo_refused, y.mo_place, y.mo_readMany, y.mo_wide, y.mo_high, y.mo_dark, y.mo_symbolOf, y.mo_xs, y.mo_ys, o.2.2, y.mo_ways, y.mo_ordered, y.mo_page, y.mo_out, y.mo_counts, y.mo_lengths, y.mo_codes, y.mo_weight, y.mo_over, y.mo_used, y.mo_row, y.mo_in, y.mo_readSymbol, y.mo_readX, y.mo_readY, y.mo_readDiffers, y.mo_readWays) : MS))
def T_way (z : TS) (p1 : Int32) (p2 : Int32) : Option (Int32 × TS) := (f_Law_way z.out z.la_ways p1 p2).map fun o => (o.1, ((z.tr_kind, z.tr_refusedAt, z.di_count, z.pg_width, z.pg_height, z.tb_count, z.cb_count, z.la_count, z.sp_count, z.di_widths, z.di_heights, z.di_samples, z.pg_dark, z.tb_bytes, z.cb_bytes, z.wr_keeping, z.wr_count, z.rd_place, z.rd_refusal, o.2.2, z.la_symbolOf, z.la_xs, z.la_ys, z.la_differs, z.la_sequence, z.sp_ways, z.sp_symbolOf, z.sp_xs, z.sp_ys, z.sp_differs, z.sp_sequence, z.na_lengths, z.na_codes, z.na_weights, z.na_joinedTo, o.2.1, z.na_row) : TS))
def M_way (y : MS) (p0 : Int32) (p1 : Int32) : Option (Int32 × MS) := (f_Mo_way y.mo_ways p0 p1).map fun o => (o.1, ((o.2.1, y.mo_width, y.mo_height, y.mo_kind, y.mo_symbols, y.mo_instances, y.mo_told, y.mo_keeps, y.mo_toldBytes, y.mo_came, y.mo_at, y.mo_refused, y.mo_place, y.mo_readMany, y.mo_wide, y.mo_high, y.mo_dark, y.mo_symbolOf, y.mo_xs, y.mo_ys, y.mo_differs, o.2.2, y.mo_ordered, y.mo_page, y.mo_out, y.mo_counts, y.mo_lengths, y.mo_codes, y.mo_weight, y.mo_over, y.mo_used, y.mo_row, y.mo_in, y.mo_readSymbol, y.mo_readX, y.mo_readY, y.mo_readDiffers, y.mo_readWays) : MS))
def T_order_C (z : TS) (p1 : Int32) : Option (Int32 × TS) := (f_Law_order_C z.out z.la_count z.la_ways z.la_ys z.la_symbolOf z.di_count z.di_heights z.la_xs z.di_widths z.la_sequence z.na_weights z.na_joinedTo z.na_lengths z.na_codes z.wr_keeping z.wr_count z.tb_count z.tb_bytes z.la_differs p1).map fun o => (o.1, ((z.tr_kind, z.tr_refusedAt, z.di_count, z.pg_width, z.pg_height, o.2.2.2.2.2.2.2.2.2.2.2.2.1, z.cb_count, z.la_count, z.sp_count, z.di_widths, z.di_heights, z.di_samples, z.pg_dark, o.2.2.2.2.2.2.2.2.2.2.2.2.2.1, z.cb_bytes, o.2.2.2.2.2.2.2.2.2.2.1, o.2.2.2.2.2.2.2.2.2.2.2.1, z.rd_place, z.rd_refusal, z.la_ways, o.2.2.2.1, o.2.2.2.2.1, o.2.2.1, o.2.2.2.2.2.2.2.2.2.2.2.2.2.2, o.2.2.2.2.2.1, z.sp_ways, z.sp_symbolOf, z.sp_xs, z.sp_ys, z.sp_differs, z.sp_sequence, o.2.2.2.2.2.2.2.2.1, o.2.2.2.2.2.2.2.2.2.1, o.2.2.2.2.2.2.1, o.2.2.2.2.2.2.2.1, o.2.1, z.na_row) : TS))
def T_order_F (z : TS) (p1 : Int32) : Option (Int32 × TS) := (f_Law_order_F z.out z.la_count z.la_ways z.la_ys z.la_symbolOf z.di_count z.di_heights z.la_xs z.di_widths z.la_sequence z.wr_keeping z.wr_count z.tb_count z.tb_bytes z.na_row z.la_differs p1).map fun o => (o.1, ((z.tr_kind, z.tr_refusedAt, z.di_count, z.pg_width, z.pg_height, o.2.2.2.2.2.2.2.2.1, z.cb_count, z.la_count, z.sp_count, z.di_widths, z.di_heights, z.di_samples, z.pg_dark, o.2.2.2.2.2.2.2.2.2.1, z.cb_bytes, o.2.2.2.2.2.2.1, o.2.2.2.2.2.2.2.1, z.rd_place, z.rd_refusal, z.la_ways, o.2.2.2.1, o.2.2.2.2.1, o.2.2.1, o.2.2.2.2.2.2.2.2.2.2.2, o.2.2.2.2.2.1, z.sp_ways, z.sp_symbolOf, z.sp_xs, z.sp_ys, z.sp_differs, z.sp_sequence, z.na_lengths, z.na_codes, z.na_weights, z.na_joinedTo, o.2.1, o.2.2.2.2.2.2.2.2.2.2.1) : TS))
def M_order (y : MS) (p0 : Int32) : Option (Int32 × MS) := (f_Mo_order y.mo_kind y.mo_symbols y.mo_instances y.mo_told y.mo_keeps y.mo_ordered y.mo_ways y.mo_ys y.mo_high y.mo_symbolOf y.mo_xs y.mo_wide y.mo_out y.mo_row y.mo_codes y.mo_lengths y.mo_differs y.mo_weight y.mo_used y.mo_over p0).map fun o => (o.1, ((o.2.1, y.mo_width, y.mo_height, y.mo_kind, y.mo_symbols, y.mo_instances, o.2.2.1, o.2.2.2.1, y.mo_toldBytes, y.mo_came, y.mo_at, y.mo_refused, y.mo_place, y.mo_readMany, y.mo_wide, y.mo_high, y.mo_dark, o.2.2.2.2.2.2.1, o.2.2.2.2.2.2.2.1, o.2.2.2.2.2.1, o.2.2.2.2.2.2.2.2.2.2.2.2.1, y.mo_ways, o.2.2.2.2.1, y.mo_page, o.2.2.2.2.2.2.2.2.1, y.mo_counts, o.2.2.2.2.2.2.2.2.2.2.2.1, o.2.2.2.2.2.2.2.2.2.2.1, o.2.2.2.2.2.2.2.2.2.2.2.2.2.1, o.2.2.2.2.2.2.2.2.2.2.2.2.2.2.2, o.2.2.2.2.2.2.2.2.2.2.2.2.2.2.1, o.2.2.2.2.2.2.2.2.2.1, y.mo_in, y.mo_readSymbol, y.mo_readX, y.mo_readY, y.mo_readDiffers, y.mo_readWays) : MS))
def T_compose (z : TS) : Option (Int32 × TS) := (f_Top_compose z.la_count z.la_ways z.la_ys z.la_symbolOf z.di_heights z.la_xs z.di_widths z.la_sequence z.pg_width z.pg_height (z.pg_width * z.pg_height).toNatClampNeg z.pg_dark z.di_samples z.la_differs).map fun o => (o.1, ((z.tr_kind, z.tr_refusedAt, z.di_count, z.pg_width, z.pg_height, z.tb_count, z.cb_count, z.la_count, z.sp_count, z.di_widths, z.di_heights, z.di_samples, o.2.2, z.tb_bytes, z.cb_bytes, z.wr_keeping, z.wr_count, z.rd_place, z.rd_refusal, z.la_ways, z.la_symbolOf, z.la_xs, z.la_ys, z.la_differs, o.2.1, z.sp_ways, z.sp_symbolOf, z.sp_xs, z.sp_ys, z.sp_differs, z.sp_sequence, z.na_lengths, z.na_codes, z.na_weights, z.na_joinedTo, z.out, z.na_row) : TS))
def M_compose (y : MS) : Option (Int32 × MS) := (f_Mo_compose y.mo_width y.mo_height y.mo_instances y.mo_page y.mo_ordered y.mo_ways y.mo_ys y.mo_high y.mo_symbolOf y.mo_xs y.mo_wide y.mo_dark y.mo_differs).map fun o => (o.1, ((o.2.1, y.mo_width, y.mo_height, y.mo_kind, y.mo_symbols, y.mo_instances, y.mo_told, y.mo_keeps, y.mo_toldBytes, y.mo_came, y.mo_at, y.mo_refused, y.mo_place, y.mo_readMany, y.mo_wide, y.mo_high, y.mo_dark, y.mo_symbolOf, y.mo_xs, y.mo_ys, y.mo_differs, y.mo_ways, o.2.2.2, o.2.2.1, y.mo_out, y.mo_counts, y.mo_lengths, y.mo_codes, y.mo_weight, y.mo_over, y.mo_used, y.mo_row, y.mo_in, y.mo_readSymbol, y.mo_readX, y.mo_readY, y.mo_readDiffers, y.mo_readWays) : MS))
def T_at (z : TS) (p1 : Int32) (p2 : Int32) : Option (Int32 × TS) := (f_Law_at z.out z.pg_width z.pg_height (z.pg_width * z.pg_height).toNatClampNeg z.pg_dark p1 p2).map fun o => (o.1, ((z.tr_kind, z.tr_refusedAt, z.di_count, z.pg_width, z.pg_height, z.tb_count, z.cb_count, z.la_count, z.sp_count, z.di_widths, z.di_heights, z.di_samples, z.pg_dark, z.tb_bytes, z.cb_bytes, z.wr_keeping, z.wr_count, z.rd_place, z.rd_refusal, z.la_ways, z.la_symbolOf, z.la_xs, z.la_ys, z.la_differs, z.la_sequence, z.sp_ways, z.sp_symbolOf, z.sp_xs, z.sp_ys, z.sp_differs, z.sp_sequence, z.na_lengths, z.na_codes, z.na_weights, z.na_joinedTo, o.2, z.na_row) : TS))
def M_at (y : MS) (p0 : Int32) (p1 : Int32) : Option (Int32 × MS) := (f_Mo_at y.mo_width y.mo_height y.mo_page p0 p1).map fun o => (o.1, ((o.2, y.mo_width, y.mo_height, y.mo_kind, y.mo_symbols, y.mo_instances, y.mo_told, y.mo_keeps, y.mo_toldBytes, y.mo_came, y.mo_at, y.mo_refused, y.mo_place, y.mo_readMany, y.mo_wide, y.mo_high, y.mo_dark, y.mo_symbolOf, y.mo_xs, y.mo_ys, y.mo_differs, y.mo_ways, y.mo_ordered, y.mo_page, y.mo_out, y.mo_counts, y.mo_lengths, y.mo_codes, y.mo_weight, y.mo_over, y.mo_used, y.mo_row, y.mo_in, y.mo_readSymbol, y.mo_readX, y.mo_readY, y.mo_readDiffers, y.mo_readWays) : MS))
def T_write_C (z : TS) : Option (Int32 × TS) := (f_Top_write_C z.la_count z.la_ways z.la_ys z.la_symbolOf z.di_count z.di_heights z.la_xs z.di_widths z.la_sequence z.na_weights z.na_joinedTo z.na_lengths z.na_codes z.tb_count z.tb_bytes z.la_differs).map fun o => (o.1, ((z.tr_kind, z.tr_refusedAt, z.di_count, z.pg_width, z.pg_height, o.2.2.2.2.2.2.2.2.1, z.cb_count, z.la_count, z.sp_count, z.di_widths, z.di_heights, z.di_samples, z.pg_dark, o.2.2.2.2.2.2.2.2.2, z.cb_bytes, o.2.2.2.2.2.2.1, o.2.2.2.2.2.2.2.1, z.rd_place, z.rd_refusal, z.la_ways, z.la_symbolOf, z.la_xs, z.la_ys, z.la_differs, o.2.1, z.sp_ways, z.sp_symbolOf, z.sp_xs, z.sp_ys, z.sp_differs, z.sp_sequence, o.2.2.2.2.1, o.2.2.2.2.2.1, o.2.2.1, o.2.2.2.1, z.out, z.na_row) : TS))
def T_write_F (z : TS) : Option (Int32 × TS) := (f_Top_write_F z.la_count z.la_ways z.la_ys z.la_symbolOf z.di_count z.di_heights z.la_xs z.di_widths z.la_sequence z.tb_count z.tb_bytes z.na_row z.la_differs).map fun o => (o.1, ((z.tr_kind, z.tr_refusedAt, z.di_count, z.pg_width, z.pg_height, o.2.2.2.2.1, z.cb_count, z.la_count, z.sp_count, z.di_widths, z.di_heights, z.di_samples, z.pg_dark, o.2.2.2.2.2.1, z.cb_bytes, o.2.2.1, o.2.2.2.1, z.rd_place, z.rd_refusal, z.la_ways, z.la_symbolOf, z.la_xs, z.la_ys, z.la_differs, o.2.1, z.sp_ways, z.sp_symbolOf, z.sp_xs, z.sp_ys, z.sp_differs, z.sp_sequence, z.na_lengths, z.na_codes, z.na_weights, z.na_joinedTo, z.out, o.2.2.2.2.2.2) : TS))
def M_write (y : MS) : Option (Int32 × MS) := (f_Mo_write y.mo_kind y.mo_symbols y.mo_instances y.mo_ordered y.mo_ways y.mo_ys y.mo_high y.mo_symbolOf y.mo_xs y.mo_wide y.mo_out y.mo_row y.mo_codes y.mo_lengths y.mo_differs y.mo_weight y.mo_used y.mo_over).map fun o => (o.1, ((o.2.1, y.mo_width, y.mo_height, y.mo_kind, y.mo_symbols, y.mo_instances, o.2.2.1, o.2.2.2.1, o.2.2.2.2.1, y.mo_came, y.mo_at, y.mo_refused, y.mo_place, y.mo_readMany, y.mo_wide, y.mo_high, y.mo_dark, y.mo_symbolOf, y.mo_xs, y.mo_ys, y.mo_differs, y.mo_ways, o.2.2.2.2.2.1, y.mo_page, o.2.2.2.2.2.2.1, y.mo_counts, o.2.2.2.2.2.2.2.2.2.1, o.2.2.2.2.2.2.2.2.1, o.2.2.2.2.2.2.2.2.2.2.1, o.2.2.2.2.2.2.2.2.2.2.2.2, o.2.2.2.2.2.2.2.2.2.2.2.1, o.2.2.2.2.2.2.2.1, y.mo_in, y.mo_readSymbol, y.mo_readX, y.mo_readY, y.mo_readDiffers, y.mo_readWays) : MS))
def T_byteAt (z : TS) (p1 : Int32) : Option (Int32 × TS) := (f_Law_byteAt z.out z.tb_count z.tb_bytes p1).map fun o => (o.1, ((z.tr_kind, z.tr_refusedAt, z.di_count, z.pg_width, z.pg_height, z.tb_count, z.cb_count, z.la_count, z.sp_count, z.di_widths, z.di_heights, z.di_samples, z.pg_dark, z.tb_bytes, z.cb_bytes, z.wr_keeping, z.wr_count, z.rd_place, z.rd_refusal, z.la_ways, z.la_symbolOf, z.la_xs, z.la_ys, z.la_differs, z.la_sequence, z.sp_ways, z.sp_symbolOf, z.sp_xs, z.sp_ys, z.sp_differs, z.sp_sequence, z.na_lengths, z.na_codes, z.na_weights, z.na_joinedTo, o.2, z.na_row) : TS))
def M_byteAt (y : MS) (p0 : Int32) : Option (Int32 × MS) := (f_Mo_byteAt y.mo_toldBytes y.mo_out p0).map fun o => (o.1, ((o.2, y.mo_width, y.mo_height, y.mo_kind, y.mo_symbols, y.mo_instances, y.mo_told, y.mo_keeps, y.mo_toldBytes, y.mo_came, y.mo_at, y.mo_refused, y.mo_place, y.mo_readMany, y.mo_wide, y.mo_high, y.mo_dark, y.mo_symbolOf, y.mo_xs, y.mo_ys, y.mo_differs, y.mo_ways, y.mo_ordered, y.mo_page, y.mo_out, y.mo_counts, y.mo_lengths, y.mo_codes, y.mo_weight, y.mo_over, y.mo_used, y.mo_row, y.mo_in, y.mo_readSymbol, y.mo_readX, y.mo_readY, y.mo_readDiffers, y.mo_readWays) : MS))
def T_feed (z : TS) (p1 : Int32) : Option (Int32 × TS) := (f_Law_feed z.out z.cb_count z.cb_bytes p1).map fun o => (o.1, ((z.tr_kind, z.tr_refusedAt, z.di_count, z.pg_width, z.pg_height, z.tb_count, o.2.2.1, z.la_count, z.sp_count, z.di_widths, z.di_heights, z.di_samples, z.pg_dark, z.tb_bytes, o.2.2.2, z.wr_keeping, z.wr_count, z.rd_place, z.rd_refusal, z.la_ways, z.la_symbolOf, z.la_xs, z.la_ys, z.la_differs, z.la_sequence, z.sp_ways, z.sp_symbolOf, z.sp_xs, z.sp_ys, z.sp_differs, z.sp_sequence, z.na_lengths, z.na_codes, z.na_weights, z.na_joinedTo, o.2.1, z.na_row) : TS))
def M_feed (y : MS) (p0 : Int32) : Option (Int32 × MS) := (f_Mo_feed y.mo_came y.mo_in p0).map fun o => (o.1, ((o.2.1, y.mo_width, y.mo_height, y.mo_kind, y.mo_symbols, y.mo_instances, y.mo_told, y.mo_keeps, y.mo_toldBytes, o.2.2.1, y.mo_at, y.mo_refused, y.mo_place, y.mo_readMany, y.mo_wide, y.mo_high, y.mo_dark, y.mo_symbolOf, y.mo_xs, y.mo_ys, y.mo_differs, y.mo_ways, y.mo_ordered, y.mo_page, y.mo_out, y.mo_counts, y.mo_lengths, y.mo_codes, y.mo_weight, y.mo_over, y.mo_used, y.mo_row, o.2.2.2, y.mo_readSymbol, y.mo_readX, y.mo_readY, y.mo_readDiffers, y.mo_readWays) : MS))
def T_pass (z : TS) : Option (Int32 × TS) := (f_Law_pass z.out z.tb_count z.cb_count z.tb_bytes z.cb_bytes).map fun o => (o.1, ((z.tr_kind, z.tr_refusedAt, z.di_count, z.pg_width, z.pg_height, z.tb_count, o.2.2.1, z.la_count, z.sp_count, z.di_widths, z.di_heights, z.di_samples, z.pg_dark, z.tb_bytes, o.2.2.2, z.wr_keeping, z.wr_count, z.rd_place, z.rd_refusal, z.la_ways, z.la_symbolOf, z.la_xs, z.la_ys, z.la_differs, z.la_sequence, z.sp_ways, z.sp_symbolOf, z.sp_xs, z.sp_ys, z.sp_differs, z.sp_sequence, z.na_lengths, z.na_codes, z.na_weights, z.na_joinedTo, o.2.1, z.na_row) : TS))
def M_pass (y : MS) : Option (Int32 × MS) := (f_Mo_pass y.mo_toldBytes y.mo_came y.mo_in y.mo_out).map fun o => (o.1, ((o.2.1, y.mo_width, y.mo_height, y.mo_kind, y.mo_symbols, y.mo_instances, y.mo_told, y.mo_keeps, y.mo_toldBytes, o.2.2.1, y.mo_at, y.mo_refused, y.mo_place, y.mo_readMany, y.mo_wide, y.mo_high, y.mo_dark, y.mo_symbolOf, y.mo_xs, y.mo_ys, y.mo_differs, y.mo_ways, y.mo_ordered, y.mo_page, y.mo_out, y.mo_counts, y.mo_lengths, y.mo_codes, y.mo_weight, y.mo_over, y.mo_used, y.mo_row, o.2.2.2, y.mo_readSymbol, y.mo_readX, y.mo_readY, y.mo_readDiffers, y.mo_readWays) : MS))
def T_read_C (z : TS) : Option (Int32 × Nat × TS) := (f_Top_read_C 0 1 z.sp_ways z.cb_count z.cb_bytes z.na_lengths z.di_count z.na_codes z.di_widths z.di_heights z.sp_symbolOf z.sp_xs z.sp_ys z.sp_differs).map fun o => (o.1, o.2.1, ((z.tr_kind, o.2.2.2.1, z.di_count, z.pg_width, z.pg_height, z.tb_count, o.2.2.2.2.2.2.2.2.1, z.la_count, o.2.2.2.2.1, z.di_widths, z.di_heights, z.di_samples, z.pg_dark, z.tb_bytes, z.cb_bytes, z.wr_keeping, z.wr_count, o.2.2.2.2.2.1, o.2.2.2.2.2.2.1, z.la_ways, z.la_symbolOf, z.la_xs, z.la_ys, z.la_differs, z.la_sequence, o.2.2.2.2.2.2.2.1, o.2.2.2.2.2.2.2.2.2.2.2.1, o.2.2.2.2.2.2.2.2.2.2.2.2.1, o.2.2.2.2.2.2.2.2.2.2.2.2.2.1, o.2.2.2.2.2.2.2.2.2.2.2.2.2.2, z.sp_sequence, o.2.2.2.2.2.2.2.2.2.1, o.2.2.2.2.2.2.2.2.2.2.1, z.na_weights, z.na_joinedTo, z.out, z.na_row) : TS))
def T_read_F (z : TS) : Option (Int32 × Nat × TS) := (f_Top_read_F 0 1 z.sp_ways z.cb_count z.cb_bytes z.na_row z.di_count z.di_widths z.di_heights z.sp_symbolOf z.sp_xs z.sp_ys z.sp_differs).map fun o => (o.1, o.2.1, ((z.tr_kind, o.2.2.2.1, z.di_count, z.pg_width, z.pg_height, z.tb_count, o.2.2.2.2.2.2.2.2.1, z.la_count, o.2.2.2.2.1, z.di_widths, z.di_heights, z.di_samples, z.pg_dark, z.tb_bytes, z.cb_bytes, z.wr_keeping, z.wr_count, o.2.2.2.2.2.1, o.2.2.2.2.2.2.1, z.la_ways, z.la_symbolOf, z.la_xs, z.la_ys, z.la_differs, z.la_sequence, o.2.2.2.2.2.2.2.1, o.2.2.2.2.2.2.2.2.2.2.1, o.2.2.2.2.2.2.2.2.2.2.2.1, o.2.2.2.2.2.2.2.2.2.2.2.2.1, o.2.2.2.2.2.2.2.2.2.2.2.2.2, z.sp_sequence, z.na_lengths, z.na_codes, z.na_weights, z.na_joinedTo, z.out, o.2.2.2.2.2.2.2.2.2.1) : TS))
def M_read (y : MS) : Option (Int32 × MS) := (f_Mo_read y.mo_kind y.mo_symbols y.mo_instances y.mo_came y.mo_in y.mo_readWays y.mo_row y.mo_lengths y.mo_codes y.mo_readSymbol y.mo_readX y.mo_readY y.mo_readDiffers y.mo_wide y.mo_high y.mo_symbolOf y.mo_xs y.mo_ys y.mo_differs y.mo_ways).map fun o => (o.1, ((o.2.1, y.mo_width, y.mo_height, y.mo_kind, y.mo_symbols, o.2.2.1, y.mo_told, y.mo_keeps, y.mo_toldBytes, o.2.2.2.1, o.2.2.2.2.1, o.2.2.2.2.2.1, o.2.2.2.2.2.2.1, o.2.2.2.2.2.2.2.1, y.mo_wide, y.mo_high, y.mo_dark, o.2.2.2.2.2.2.2.2.2.2.2.2.2.2.2.2.1, o.2.2.2.2.2.2.2.2.2.2.2.2.2.2.2.2.2.1, o.2.2.2.2.2.2.2.2.2.2.2.2.2.2.2.2.2.2.1, o.2.2.2.2.2.2.2.2.2.2.2.2.2.2.2.2.2.2.2.1, o.2.2.2.2.2.2.2.2.2.2.2.2.2.2.2.2.2.2.2.2, y.mo_ordered, y.mo_page, y.mo_out, y.mo_counts, o.2.2.2.2.2.2.2.2.2.2.1, o.2.2.2.2.2.2.2.2.2.2.2.1, y.mo_weight, y.mo_over, y.mo_used, o.2.2.2.2.2.2.2.2.2.1, y.mo_in, o.2.2.2.2.2.2.2.2.2.2.2.2.1, o.2.2.2.2.2.2.2.2.2.2.2.2.2.1, o.2.2.2.2.2.2.2.2.2.2.2.2.2.2.1, o.2.2.2.2.2.2.2.2.2.2.2.2.2.2.2.1, o.2.2.2.2.2.2.2.2.1) : MS))
def T_place (z : TS) (p1 : Int32) (p2 : Int32) : Option (Int32 × TS) := (f_Law_place z.out z.la_count z.la_symbolOf z.la_xs z.la_ys z.la_ways z.di_widths z.di_heights z.la_differs p1 p2).map fun o => (o.1, ((z.tr_kind, z.tr_refusedAt, z.di_count, z.pg_width, z.pg_height, z.tb_count, z.cb_count, z.la_count, z.sp_count, z.di_widths, z.di_heights, z.di_samples, z.pg_dark, z.tb_bytes, z.cb_bytes, z.wr_keeping, z.wr_count, z.rd_place, z.rd_refusal, z.la_ways, z.la_symbolOf, z.la_xs, z.la_ys, z.la_differs, z.la_sequence, z.sp_ways, z.sp_symbolOf, z.sp_xs, z.sp_ys, z.sp_differs, z.sp_sequence, z.na_lengths, z.na_codes, z.na_weights, z.na_joinedTo, o.2, z.na_row) : TS))
def M_place (y : MS) (p0 : Int32) (p1 : Int32) : Option (Int32 × MS) := (f_Mo_place y.mo_instances y.mo_differs y.mo_ways y.mo_ys y.mo_high y.mo_symbolOf y.mo_xs y.mo_wide p0 p1).map fun o => (o.1, ((o.2, y.mo_width, y.mo_height, y.mo_kind, y.mo_symbols, y.mo_instances, y.mo_told, y.mo_keeps, y.mo_toldBytes, y.mo_came, y.mo_at, y.mo_refused, y.mo_place, y.mo_readMany, y.mo_wide, y.mo_high, y.mo_dark, y.mo_symbolOf, y.mo_xs, y.mo_ys, y.mo_differs, y.mo_ways, y.mo_ordered, y.mo_page, y.mo_out, y.mo_counts, y.mo_lengths, y.mo_codes, y.mo_weight, y.mo_over, y.mo_used, y.mo_row, y.mo_in, y.mo_readSymbol, y.mo_readX, y.mo_readY, y.mo_readDiffers, y.mo_readWays) : MS))
def M_thrown (y : MS) : Option Int32 := f_Mo_thrown y.mo_thrown
def T_told (z : TS) (p0 : Int32) : Option Int32 := f_Top_told z.tr_kind z.tr_refusedAt z.pg_width z.pg_height z.di_count z.la_count z.tb_count z.cb_count p0
def M_told (y : MS) (p0 : Int32) : Option (Int32 × MS) := (f_Mo_told y.mo_width y.mo_height y.mo_kind y.mo_symbols y.mo_instances y.mo_toldBytes y.mo_came y.mo_place p0).map fun o => (o.1, ((o.2, y.mo_width, y.mo_height, y.mo_kind, y.mo_symbols, y.mo_instances, y.mo_told, y.mo_keeps, y.mo_toldBytes, y.mo_came, y.mo_at, y.mo_refused, y.mo_place, y.mo_readMany, y.mo_wide, y.mo_high, y.mo_dark, y.mo_symbolOf, y.mo_xs, y.mo_ys, y.mo_differs, y.mo_ways, y.mo_ordered, y.mo_page, y.mo_out, y.mo_counts, y.mo_lengths, y.mo_codes, y.mo_weight, y.mo_over, y.mo_used, y.mo_row, y.mo_in, y.mo_readSymbol, y.mo_readX, y.mo_readY, y.mo_readDiffers, y.mo_readWays) : MS))
def T_clear (z : TS) : Option TS := (f_Top_clear z.la_ways (z.pg_width * z.pg_height).toNatClampNeg z.pg_dark).map fun o => ((z.tr_kind, z.tr_refusedAt, o.1, z.pg_width, z.pg_height, o.2.2.2.1, o.2.2.2.2.1, o.2.1, z.sp_count, z.di_widths, z.di_heights, z.di_samples, o.2.2.2.2.2, z.tb_bytes, z.cb_bytes, z.wr_keeping, z.wr_count, z.rd_place, z.rd_refusal, o.2.2.1, z.la_symbolOf, z.la_xs, z.la_ys, z.la_differs, z.la_sequence, z.sp_ways, z.sp_symbolOf, z.sp_xs, z.sp_ys, z.sp_differs, z.sp_sequence, z.na_lengths, z.na_codes, z.na_weights, z.na_joinedTo, z.out, z.na_row) : TS)
def M_clear (y : MS) : Option MS := (f_Mo_clear y.mo_ways y.mo_page).map fun o => ((o.1, y.mo_width, y.mo_height, y.mo_kind, o.2.1, o.2.2.1, y.mo_told, y.mo_keeps, o.2.2.2.1, o.2.2.2.2.1, y.mo_at, y.mo_refused, o.2.2.2.2.2.1, y.mo_readMany, y.mo_wide, y.mo_high, y.mo_dark, y.mo_symbolOf, y.mo_xs, y.mo_ys, y.mo_differs, o.2.2.2.2.2.2.1, y.mo_ordered, o.2.2.2.2.2.2.2, y.mo_out, y.mo_counts, y.mo_lengths, y.mo_codes, y.mo_weight, y.mo_over, y.mo_used, y.mo_row, y.mo_in, y.mo_readSymbol, y.mo_readX, y.mo_readY, y.mo_readDiffers, y.mo_readWays) : MS)
/-! helpers -/
theorem va_P_l {D : va_G} {cl : List vw_C} {X pl : va_W} {H : Heap} (h : va_P D cl (X ++ pl) H) : va_P D cl X H := fun k q hq => h k q (by rw [List.getElem?_append_left (List.getElem?_eq_some_iff.mp hq).1]; exact hq)
theorem va_D_l {A : Nat → Prop} {X pl : va_W} (h : va_D A (X ++ pl)) : va_D A X := ⟨fun i j x y hi hj e => h.1 i j x y (by rw [List.getElem?_append_left (List.getElem?_eq_some_iff.mp hi).1]; exact hi) (by rw [List.getElem?_append_left (List.getElem?_eq_some_iff.mp hj).1]; exact hj) e, fun k q hq => h.2 k q (by rw [List.getElem?_append_left (List.getElem?_eq_some_iff.mp hq).1]; exact hq)⟩
theorem va_P_c {D : va_G} {cl : List vw_C} {X Y : va_W} {H : Heap} (h : va_P D cl (X ++ Y) H) : va_P D cl (Y ++ X) H := va_P.swap (a := []) h
theorem va_D_c {A : Nat → Prop} {X Y : va_W} (h : va_D A (X ++ Y)) : va_D A (Y ++ X) := va_D.swap (a := []) h
theorem fb_n {av : List Value} {B : State → Prop} (hB : FrameBlind (va_Pc av B)) : FrameBlind (va_Pc av (fun U => B U ∧ xn U)) := fun a U g mk q => ⟨q.1, (hB a U g mk ⟨q.1, q.2.1⟩).2, xn_go (s := U) (U := U.calling g mk a) (State.WarmedH.refl U) q.2.2⟩
theorem pre_n {s : State} {H : Heap} {B : State → Prop} {av : List Value} (hp : ∀ U : State, U.heap = H → s.WarmedH U.vm → va_Pc av B av.toArray U) (hx : xn s) : ∀ U : State, U.heap = H → s.WarmedH U.vm → va_Pc av (fun U => B U ∧ xn U) av.toArray U := fun U hU hW => ⟨rfl, (hp U hU hW).2, xn_go hW hx⟩
theorem old9 {A : Nat → Prop} {s : State} {H : Heap} {locs : List Loc} (hS : va_S A s.heap H locs) (hAn : ∀ q : Nat, q < s.heap.size → ¬ A q) : ∀ (a : Nat) (c : Cell), s.heap[a]? = some c → H[a]? = some c := fun a c h => by
  have hl := (Array.getElem?_eq_some_iff.mp h).1
  rw [hS.2.1 a hl (hAn a hl)]; exact h
def LX (p : Program) (l : Launch) (s : State) (m : MethodId) (c : Code) (args : Array Value) (A : Nat → Prop) (b N : Nat) (xs : Nat → Int32) : Prop := p.tables.exec = Jvm.exec ∧ c.code = code ∧ c.maxLocals = 7 ∧ s.vm.findClass R_Law = some m.cls ∧ (∀ w ∈ BIG, w.before args s = true) ∧ nw s ∧ xw s ∧ xn s ∧ stt A s s.heap ∧ (∀ q : Nat, s.heap.size ≤ q → A q) ∧ (∀ q : Nat, q < s.heap.size → ¬ A q) ∧ l.stackTraces = false ∧ va_X b N xs s s.heap ∧ b < s.heap.size
set_option maxRecDepth 100000 in
theorem rd_C {sp_ways : (Nat → Int32)} {cb_count : Int32} {cb_bytes : (Nat → Int32)} {na_lengths : (Nat → Int32)} {di_count : Int32} {na_codes : (Nat → Int32)} {di_widths : (Nat → Int32)} {di_heights : (Nat → Int32)} {sp_symbolOf : (Nat → Int32)} {sp_xs : (Nat → Int32)} {sp_ys : (Nat → Int32)} {sp_differs : (Nat → Int64)} {o : Int32 × Nat × Nat × Int32 × Int32 × Int32 × Int32 × (Nat → Int32) × Int32 × (Nat → Int32) × (Nat → Int32) × (Nat → Int32) × (Nat → Int32) × (Nat → Int32) × (Nat → Int64)} (h_la h_sp : Nat) (h : f_Top_read_C 0 1 sp_ways cb_count cb_bytes na_lengths di_count na_codes di_widths di_heights sp_symbolOf sp_xs sp_ys sp_differs = some o) : ∃ o9, f_Top_read_C h_la h_sp sp_ways cb_count cb_bytes na_lengths di_count na_codes di_widths di_heights sp_symbolOf sp_xs sp_ys sp_differs = some o9 ∧ o9.1 = o.1 ∧ o9.2.2.2 = o.2.2.2 ∧ ((o9.2.1 = h_la ∧ o9.2.2.1 = h_sp ∧ o.2.1 = 0) ∨ (o9.2.1 = h_sp ∧ o9.2.2.1 = h_la ∧ o.2.1 = 1)) := by
  unfold f_Top_read_C at h ⊢
  obtain ⟨x, hx, h⟩ := bd_e h
  obtain ⟨x0, x1, x2, x3, x4, x5, x6, x7, x8, x9, x10⟩ := x
  simp only [bd, jn, hx, Option.bind_some, f_Reader_bitsRead] at h ⊢
  by_cases c : x0 = 0
  · rw [if_pos c, if_pos c] at h
    rw [if_pos c, if_pos c]
    obtain rfl := Option.some.inj h
    exact ⟨_, rfl, rfl, rfl, Or.inr ⟨rfl, rfl, rfl⟩⟩
  · rw [if_neg c, if_neg c] at h
    rw [if_neg c, if_neg c]
    obtain rfl := Option.some.inj h
    exact ⟨_, rfl, rfl, rfl, Or.inl ⟨rfl, rfl, rfl⟩⟩
set_option maxRecDepth 100000 in
theorem rd_F {sp_ways : (Nat → Int32)} {cb_count : Int32} {cb_bytes : (Nat → Int32)} {na_row : (Nat → Int32)} {di_count : Int32} {di_widths : (Nat → Int32)} {di_heights : (Nat → Int32)} {sp_symbolOf : (Nat → Int32)} {sp_xs : (Nat → Int32)} {sp_ys : (Nat → Int32)} {sp_differs : (Nat → Int64)} {o : Int32 × Nat × Nat × Int32 × Int32 × Int32 × Int32 × (Nat → Int32) × Int32 × (Nat → Int32) × (Nat → Int32) × (Nat → Int32) × (Nat → Int32) × (Nat → Int64)} (h_la h_sp : Nat) (h : f_Top_read_F 0 1 sp_ways cb_count cb_bytes na_row di_count di_widths di_heights sp_symbolOf sp_xs sp_ys sp_differs = some o) : ∃ o9, f_Top_read_F h_la h_sp sp_ways cb_count cb_bytes na_row di_count di_widths di_heights sp_symbolOf sp_xs sp_ys sp_differs = some o9 ∧ o9.1 = o.1 ∧ o9.2.2.2 = o.2.2.2 ∧ ((o9.2.1 = h_la ∧ o9.2.2.1 = h_sp ∧ o.2.1 = 0) ∨ (o9.2.1 = h_sp ∧ o9.2.2.1 = h_la ∧ o.2.1 = 1)) := by
  unfold f_Top_read_F at h ⊢
  obtain ⟨x, hx, h⟩ := bd_e h
  obtain ⟨x0, x1, x2, x3, x4, x5, x6, x7, x8, x9⟩ := x
  simp only [bd, jn, hx, Option.bind_some, f_Reader_bitsRead] at h ⊢
  by_cases c : x0 = 0
  · rw [if_pos c, if_pos c] at h
    rw [if_pos c, if_pos c]
    obtain rfl := Option.some.inj h
    exact ⟨_, rfl, rfl, rfl, Or.inr ⟨rfl, rfl, rfl⟩⟩
  · rw [if_neg c, if_neg c] at h
    rw [if_neg c, if_neg c]
    obtain rfl := Option.some.inj h
    exact ⟨_, rfl, rfl, rfl, Or.inl ⟨rfl, rfl, rfl⟩⟩
