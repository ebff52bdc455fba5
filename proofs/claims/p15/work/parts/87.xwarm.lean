/-! the words of a throw go on holding: warmer tables, a heap that keeps its cells -/
theorem xw_isRef {C n d : String} {V1 V2 : State} (h1 : V1.vm = V2.vm) (h2 : ∀ (a : Nat) (c : Cell), V2.heap[a]? = some c → V1.heap[a]? = some c) (h : (Cond.isRef (.static C n d)).before #[] V2 = true) : (Cond.isRef (.static C n d)).before #[] V1 = true := by
  have e2 : V1.fieldNamed? C n d true = V2.fieldNamed? C n d true := by simp only [State.fieldNamed?, State.fieldFound?, h1]
  simp only [Cond.before, Cond.holds, Cond.value, Term.eval] at h ⊢
  rw [e2]
  cases hf : V2.fieldNamed? C n d true with
  | none => rw [hf] at h; simp at h
  | some q =>
    rw [hf] at h
    obtain ⟨c, k, i⟩ := q
    cases hs : k.statics with
    | none => simp [hs] at h
    | some a =>
      cases hc : V2.heap[a]? with
      | none => simp [hs, hc] at h
      | some cell =>
        simp only [hs, hc, h2 a cell hc, Option.bind_eq_bind, Option.bind_some] at h ⊢
        exact h
theorem xw_lays {C n d : String} {V1 V2 : State} (h1 : V1.vm = V2.vm) (h2 : ∀ (a : Nat) (c : Cell), V2.heap[a]? = some c → V1.heap[a]? = some c) (h : (Cond.laysStatic C n d).before #[] V2 = true) : (Cond.laysStatic C n d).before #[] V1 = true := by
  have e2 : V1.fieldFound? C n d = V2.fieldFound? C n d := by simp only [State.fieldFound?, h1]
  simp only [Cond.before, Cond.holds, Cond.value, Term.eval] at h ⊢
  rw [e2, h1]
  cases hf : V2.vm.findClass C with
  | none => simp [hf] at h
  | some c0 =>
    cases hg : V2.fieldFound? C n d with
    | none => simp [hf, hg] at h
    | some q =>
      obtain ⟨c, k, i, f⟩ := q
      cases hs : k.statics with
      | none => simp [hf, hg, hs] at h
      | some a =>
        cases hc : V2.heap[a]? with
        | none => simp [hf, hg, hs, hc] at h
        | some cell =>
          simp only [hf, hg, hs, hc, h2 a cell hc, Option.bind_some] at h ⊢
          exact h
theorem xw_str {C tx : String} {k : Nat} {V1 V2 : State} (h1 : V1.vm = V2.vm) (h : (Cond.stringRef C k tx).before #[] V2 = true) : (Cond.stringRef C k tx).before #[] V1 = true := by
  have e1 : V1.names C k (.string tx) = V2.names C k (.string tx) := by
    have e0 : V1.poolOf? C = V2.poolOf? C := by simp only [State.poolOf?, h1]
    unfold State.names
    rw [e0]
  have e2 : V1.resolvedAt? C k = V2.resolvedAt? C k := by simp only [State.resolvedAt?, h1]
  simp only [Cond.before, Cond.holds, Cond.value] at h ⊢
  rw [h1, e1, e2]
  exact h
theorem xw_go {s U : State} (hW : s.WarmedH U.vm) (hh : ∀ (a : Nat) (c : Cell), s.heap[a]? = some c → U.heap[a]? = some c) (h : xw s) : xw U := by
  refine ⟨fun w hw => ?_, fun w hw => ?_, fun w hw => ?_⟩
  · have h9 := h.1 w hw
    have g := (List.mem_filter.mp hw).2
    cases w <;> first | exact va_Nw.warmC hW h9 | exact va_Nw.warmD hW h9 | (simp [isX] at g)
  · have h9 := h.2.1 w hw
    have hst : ∀ w : Cond, w.steady = true → w.before #[] s = true → w.before #[] (s.setVm U.vm) = true := fun w hs h0 => by
      have := Cond.value_setVm (args := #[]) (o := none) hW.alike w [] hs
      simp only [Cond.before, Cond.holds] at h0 ⊢
      rw [this]; exact h0
    simp only [xhl, List.mem_cons, List.not_mem_nil, or_false] at hw
    rcases hw with rfl | rfl | rfl | rfl
    · exact xw_isRef (V2 := s.setVm U.vm) rfl hh (hst _ rfl h9)
    · exact xw_isRef (V2 := s.setVm U.vm) rfl hh (hst _ rfl h9)
    · exact xw_lays (V2 := s.setVm U.vm) rfl hh (hst _ rfl h9)
    · exact xw_lays (V2 := s.setVm U.vm) rfl hh (hst _ rfl h9)
  · have h9 := h.2.2 w hw
    have g := (List.mem_filter.mp hw).2
    cases w <;> first | exact xw_str (V2 := s.setVm U.vm) rfl (Cond.stringRef_warmed hW h9) | (simp [isStr] at g)
theorem xw_call {U : State} {g : JFrame} {mk : MethodId} {a : Array Value} (h : xw U) : xw (U.calling g mk a) := xw_go (s := U) (U := U.calling g mk a) (State.WarmedH.refl U) (fun _ _ h => h) h
theorem fb_x {av : List Value} {B : State → Prop} (hB : FrameBlind (va_Pc av B)) : FrameBlind (va_Pc av (fun U => B U ∧ xw U)) := fun a U g mk q => ⟨q.1, (hB a U g mk ⟨q.1, q.2.1⟩).2, xw_call q.2.2⟩
theorem pre_x {s : State} {H : Heap} {B : State → Prop} {av : List Value} (hp : ∀ U : State, U.heap = H → s.WarmedH U.vm → va_Pc av B av.toArray U) (hx : xw s) (hh : ∀ (a : Nat) (c : Cell), s.heap[a]? = some c → H[a]? = some c) : ∀ U : State, U.heap = H → s.WarmedH U.vm → va_Pc av (fun U => B U ∧ xw U) av.toArray U := fun U hU hW => ⟨rfl, (hp U hU hW).2, xw_go hW (fun a c h => by rw [hU]; exact hh a c h) hx⟩
