/-! Contracts of methods that return or throw (a throw leaves all as it was, but for the exception's own cell) -/
def xq_T (XC : String → Prop) (mc ms : Nat) (st : State) (o : Outcome) (t : State) : Prop :=
  ∃ (cls : String) (q : Addr) (ce : Cell), XC cls ∧ o = .threw q ∧ st.WarmedH t.vm ∧ st.sameButNew ({ t with vm := st.vm } : State) [] mc ms ∧ t.heap[q]? = some ce ∧ ce.vm = .none ∧ st.vm.findClass cls = some ce.cls
def XQ (Qc : Array Value → State → Outcome → State → Prop) (XC : String → Prop) (mc ms : Nat) (free : Addr → Prop) : Array Value → State → Outcome → State → Prop := fun a st o t =>
  (Qc a st o t ∧ ∃ L, FrameEnd st o t L mc ms ∧ ∀ q ∈ L, free q.base) ∨ xq_T XC mc ms st o t
def XMet (l : Launch) (y : MethodName) (ws : List Cond) (rm : Room) (Pc : Array Value → State → Prop) (Qc : Array Value → State → Outcome → State → Prop) (XC : String → Prop) (mc ms : Nat) (free : Addr → Prop) : Prop :=
  MetFree l y (headSpec ws rm) Pc (fun _ _ _ _ _ => True) (XQ Qc XC mc ms free)
def XMQ (below : List Frame) (Qc : Array Value → State → Outcome → State → Prop) (XC : String → Prop) (a : Array Value) (s : State) (mc ms : Nat) (free : Addr → Prop) : State → Prop := fun t =>
  ∃ o, t.status = .running ∧ Ended t below o ∧ XQ Qc XC mc ms free a s o t
section XM
variable {p : Program} {l : Launch} {e : Env} {R : Room} {s : State} {m : MethodId} {args : Array Value} {below : List Frame} {meth : Method} {c : Code} {H : Heap} {locs : List Loc} {cells slots : Nat}
theorem x_ret {Qc : Array Value → State → Outcome → State → Prop} {XC : String → Prop} {mc ms : Nat} {free : Addr → Prop} {g : JFrame} (k : W p l e R s m args below meth c H locs cells slots (MQ below Qc args s mc ms free) g) : W p l e R s m args below meth c H locs cells slots (XMQ below Qc XC args s mc ms free) g := by
  intro T hT X
  obtain ⟨t, a1, o, b1, b2, b3⟩ := k T hT X
  exact ⟨t, a1, o, b1, b2, Or.inl b3⟩
theorem x_out {Qc : Array Value → State → Outcome → State → Prop} {XC : String → Prop} {mc ms : Nat} {free : Addr → Prop} {cls : String} (hc : XC cls) {U : State} (h : th_Z s below cls mc ms U) : XMQ below Qc XC args s mc ms free U := by
  obtain ⟨q, ce, h1, h2, h3, h4, h5, h6, h7⟩ := h
  exact ⟨.threw q, h1, h2, Or.inr ⟨cls, q, ce, hc, rfl, h3, h4, h5, h6, h7⟩⟩
theorem XMet.ofW {y : MethodName} {ws ws' : List Cond} {rm : Room} {Pc : Array Value → State → Prop} {Qc : Array Value → State → Outcome → State → Prop} {XC : String → Prop} {mc ms : Nat} {free : Addr → Prop} {cc : ByteArray} {maxL : Nat} {ret : Option FieldType}
    (hy : plainName y.cls = true) (hw : ws = Cond.code y cc maxL ret :: ws')
    (body : ∀ p e s m args below meth c s₁, BodyLoose p l y (headSpec ws rm) cc maxL ret e s m args below meth c s₁ → c.maxLocals = maxL → (∀ x ∈ c.exceptionTable.toList, False) → Pc args s →
      W p l e (headSpec ws rm).room s m args below meth c s.heap [] 0 0 (XMQ below Qc XC args s mc ms free) (entryFrame m args maxL)) : XMet l y ws rm Pc Qc XC mc ms free := by
  refine MetFree.of_bodyS (code := cc) (maxLocals := maxL) (ret := ret) hy ?_ ?_
  · intro args s m h hn
    obtain ⟨meth, c, h1, h2, h3, h4, h5, h6, -, -⟩ := Cond.code_spec hn (atoms_spec (ws := ws) h _ (by rw [hw]; exact List.mem_cons_self))
    exact ⟨meth, c, h1, h2, h3, h4, h5, h6⟩
  · intro p e s m args below meth c s₁ B hml hP _
    have hh0 : s₁.heap = s.heap := by rw [B.state]; rfl
    have ht : ∀ x ∈ c.exceptionTable.toList, False := by
      have h7 := B.noHandlers (atoms_spec (ws := ws) B.pre _ (by rw [hw]; exact List.mem_cons_self))
      intro x hx
      rw [Array.isEmpty_iff.mp h7] at hx
      cases hx
    obtain ⟨t, a1, o, b1, b2, b3⟩ := body p e s m args below meth c s₁ B hml ht hP s₁ hh0 (Stand.of_body B)
    exact ⟨t, o, a1, b1, b2, b3⟩
end XM
/-! the words of a throw that are no good words -/
def isX : Cond → Bool
  | .castable .. => true
  | .declares .. => true
  | _ => false
def xbl : List Cond := tables_1.filter isX
def xhl : List Cond := [.isRef (.static Bundle.tN "UNASSIGNED_STACK" Bundle.steD), .isRef (.static Bundle.tN "SUPPRESSED_SENTINEL" Bundle.listD), .laysStatic Bundle.tN "UNASSIGNED_STACK" Bundle.steD, .laysStatic Bundle.tN "SUPPRESSED_SENTINEL" Bundle.listD]
def isStr : Cond → Bool
  | .stringRef .. => true
  | _ => false
def xsl : List Cond := tables_1.filter isStr
def xw (U : State) : Prop := (∀ w ∈ xbl, va_Nw w U) ∧ (∀ w ∈ xhl, w.before #[] U = true) ∧ ∀ w ∈ xsl, w.before #[] U = true
theorem x_tab {w : Cond} (h : isX w = true) : w.onTables = true := by
  cases w <;> first | rfl | (simp [isX] at h)
theorem x_own {args : Array Value} {s : State} {L : List Cond} (hB : ∀ w ∈ BIG, w.before args s = true) (hx : xw s) (h : ∀ w ∈ L, w ∈ BIG ∨ w ∈ xbl ∨ w ∈ xhl) : ∀ w ∈ L, w.before args s = true := by
  intro w hw
  rcases h w hw with h1 | h1 | h1
  · exact hB w h1
  · exact va_Nw.use (x_tab (List.mem_filter.mp h1).2) (hx.1 w h1)
  · have h2 := hx.2.1 w h1
    simp only [xhl, List.mem_cons, List.not_mem_nil, or_false] at h1
    rcases h1 with rfl | rfl | rfl | rfl <;> exact h2
theorem x_str {args : Array Value} {s : State} {a tx : String} {k : Nat} (hx : xw s) (h : Cond.stringRef a k tx ∈ xsl) : (Cond.stringRef a k tx).before args s = true := hx.2.2 _ h
theorem xs_in {w : Cond} (k : Nat) (h : tables_1[k]? = some w) (g : isStr w = true) : w ∈ xsl := List.mem_filter.mpr ⟨List.mem_of_getElem? h, g⟩
