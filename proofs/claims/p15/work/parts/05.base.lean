/-! The functional terms: names, joins, guards, calls, loops. -/
def FU : Nat := 100000
def nl {α β : Type} (e : α) (k : α → β) : β := k e
theorem nl_u {α β : Type} {e x : α} {k : α → β} {o : β} (ex : x = e) (h : nl e k = o) : k x = o := by subst ex; exact h
def jn {α β : Type} (k : α) (f : α → β) : β := f k
theorem jn_e {α β : Type} {k : α} {f : α → β} {o : β} (h : jn k f = o) : ∃ j, j = k ∧ f j = o := ⟨k, rfl, h⟩
def gq {α : Type} (i : Int32) (n : Nat) (k : Option α) : Option α := if (i < 0 ∨ n ≤ i.toNatClampNeg) then none else k
theorem gq_e {α : Type} {i : Int32} {n : Nat} {k : Option α} {o : α} (h : gq i n k = some o) : vp_in i n ∧ k = some o := by
  unfold gq at h
  by_cases c : (i < 0 ∨ n ≤ i.toNatClampNeg)
  · rw [if_pos c] at h; cases h
  · rw [if_neg c] at h; exact ⟨c, h⟩
def nz {α : Type} (v : Int32) (k : Option α) : Option α := if v = 0 then none else k
theorem nz_e {α : Type} {v : Int32} {k : Option α} {o : α} (h : nz v k = some o) : ¬ v = 0 ∧ k = some o := by
  unfold nz at h
  by_cases c : v = 0
  · rw [if_pos c] at h; cases h
  · rw [if_neg c] at h; exact ⟨c, h⟩
def bz {α : Type} (v : Int32) (k : Option α) : Option α := if v = 0 ∨ v = 1 then k else none
theorem bz_e {α : Type} {v : Int32} {k : Option α} {o : α} (h : bz v k = some o) : (v = 0 ∨ v = 1) ∧ k = some o := by
  unfold bz at h
  by_cases c : v = 0 ∨ v = 1
  · rw [if_pos c] at h; exact ⟨c, h⟩
  · rw [if_neg c] at h; cases h
theorem bz_n {v : Int32} (h : v = 0 ∨ v = 1) : narrow .boolean (.int v) = .int v := by
  rcases h with rfl | rfl <;> rfl
theorem bz_f {v : Int32} (h : v = 0 ∨ v = 1) : fits .boolean (.int v) = true := by
  rcases h with rfl | rfl <;> rfl
def bd {α β : Type} (x : Option α) (k : α → Option β) : Option β := x.bind k
theorem bd_e {α β : Type} {x : Option α} {k : α → Option β} {o : β} (h : bd x k = some o) : ∃ a, x = some a ∧ k a = some o := by
  cases x with
  | none => cases h
  | some a => exact ⟨a, rfl, h⟩
def lp {σ ρ : Type} (F : (σ → Option ρ) → σ → Option ρ) : Nat → σ → Option ρ
  | 0, _ => none
  | n + 1, s => F (lp F n) s
theorem lp_e {σ ρ : Type} {F : (σ → Option ρ) → σ → Option ρ} {n : Nat} {s : σ} {o : Option ρ} (h : lp F (n + 1) s = o) : F (lp F n) s = o := h
theorem lp_0 {σ ρ : Type} {F : (σ → Option ρ) → σ → Option ρ} {s : σ} {o : ρ} (h : lp F 0 s = some o) : False := by cases h
theorem if_t {α : Type} {c : Prop} [Decidable c] {a b o : α} (h : (if c then a else b) = o) (hc : c) : a = o := by rw [if_pos hc] at h; exact h
theorem if_f {α : Type} {c : Prop} [Decidable c] {a b o : α} (h : (if c then a else b) = o) (hc : ¬ c) : b = o := by rw [if_neg hc] at h; exact h
theorem abs_k {α : Type} {P : α → Prop} {K : α} (h : P K) : ∃ k, k = K ∧ P k := ⟨K, rfl, h⟩
theorem W_Q {p : Program} {l : Launch} {e : Env} {R : Room} {s : State} {m : MethodId} {args : Array Value} {below : List Frame} {meth : Method} {c : Code} {H : Heap} {locs : List Loc} {cells slots : Nat} {Q : State → Prop} {g : JFrame} (k : ∀ Q9 : State → Prop, Q9 = Q → W p l e R s m args below meth c H locs cells slots Q9 g) : W p l e R s m args below meth c H locs cells slots Q g := k Q rfl
def fwl : List (String × MethodName × MethodName) := [(R_CodeNames, ⟨"TextRegions$Names", "suit", "(LTextRegions$Layout;)V"⟩, y_CodeNames_suit), (R_CodeNames, ⟨"TextRegions$Names", "tellTable", "(LTextRegions$BitWriter;)V"⟩, y_CodeNames_tellTable), (R_CodeNames, ⟨"TextRegions$Names", "tellName", "(ILTextRegions$BitWriter;)V"⟩, y_CodeNames_tellName), (R_CodeNames, ⟨"TextRegions$Names", "readTable", "(LTextRegions$BitReader;I)V"⟩, y_CodeNames_readTable), (R_CodeNames, ⟨"TextRegions$Names", "readName", "(LTextRegions$BitReader;)I"⟩, y_CodeNames_readName), (R_FrontNames, ⟨"TextRegions$Names", "suit", "(LTextRegions$Layout;)V"⟩, y_FrontNames_suit), (R_FrontNames, ⟨"TextRegions$Names", "tellTable", "(LTextRegions$BitWriter;)V"⟩, y_FrontNames_tellTable), (R_FrontNames, ⟨"TextRegions$Names", "tellName", "(ILTextRegions$BitWriter;)V"⟩, y_FrontNames_tellName), (R_FrontNames, ⟨"TextRegions$Names", "readTable", "(LTextRegions$BitReader;I)V"⟩, y_FrontNames_readTable), (R_FrontNames, ⟨"TextRegions$Names", "readName", "(LTextRegions$BitReader;)I"⟩, y_FrontNames_readName)]
def nw (U : State) : Prop := (∀ w ∈ nwl, va_Nw w U) ∧ ∀ q ∈ fwl, va_Fw q.1 q.2.1 q.2.2 U
theorem nest_tab {w : Cond} (h : isNest w = true) : w.onTables = true := by
  cases w <;> first | rfl | exact absurd h (by decide) | (simp [isNest] at h)
theorem fwl_ok : ∀ q ∈ fwl, q.2.1.cls ≠ "java/lang/invoke/MethodHandle" ∧ q.2.1.cls ≠ "java/lang/invoke/VarHandle" := by decide +kernel
theorem nw_call {U : State} {g : JFrame} {mk : MethodId} {a : Array Value} (h : nw U) : nw (U.calling g mk a) := ⟨fun w hw => va_Nw.same (u := U) (U := U.calling g mk a) (nest_tab (List.mem_filter.mp hw).2) rfl (h.1 w hw), fun q hq => va_Fw.moved (fwl_ok q hq) (u := U) (U := U.calling g mk a) (Vm.Alike.refl U.vm) (h.2 q hq)⟩
theorem nw_warm {s U : State} (hW : s.WarmedH U.vm) (h : nw s) : nw U := ⟨fun w hw => by
  have g := (List.mem_filter.mp hw).2
  have h1 := h.1 w hw
  cases w <;> first | exact va_Nw.warmF hW h1 | exact va_Nw.warmM hW h1 | (simp [isNest] at g), fun q hq => va_Fw.moved (fwl_ok q hq) hW.alike (h.2 q hq)⟩
abbrev PcP (D : va_G) (ws : va_W) (tys : List (ClassId × FieldType)) (U : State) : Prop := va_P D CL ws U.heap ∧ va_K D CL tys U ∧ nw U
abbrev PcM (D : va_G) (ws : va_W) (tys : List (ClassId × FieldType)) (sz : Nat) (U : State) : Prop := U.heap.size = sz ∧ va_P D CL ws U.heap ∧ va_K D CL tys U ∧ va_D (fun _ => True) ws ∧ nw U
theorem fb_p {av : List Value} {D : va_G} {ws : va_W} {tys : List (ClassId × FieldType)} : FrameBlind (va_Pc av (PcP D ws tys)) := fun a U g mk q => ⟨q.1, q.2.1, va_K.moved (u := U) (U := U.calling g mk a) (Vm.Alike.refl U.vm) q.2.2.1, nw_call q.2.2.2⟩
theorem fb_m {av : List Value} {D : va_G} {ws : va_W} {tys : List (ClassId × FieldType)} {sz : Nat} : FrameBlind (va_Pc av (PcM D ws tys sz)) := fun a U g mk q => ⟨q.1, q.2.1, q.2.2.1, va_K.moved (u := U) (U := U.calling g mk a) (Vm.Alike.refl U.vm) q.2.2.2.1, q.2.2.2.2.1, nw_call q.2.2.2.2.2⟩
theorem pre_p {s : State} {H : Heap} {D : va_G} {ws : va_W} {tys : List (ClassId × FieldType)} (hP : va_P D CL ws H) (hK : va_K D CL tys s) (hnw : nw s) (av : List Value) : ∀ U : State, U.heap = H → s.WarmedH U.vm → va_Pc av (PcP D ws tys) av.toArray U := fun U hU hW => ⟨rfl, by rw [hU]; exact hP, va_K.moved hW.alike hK, nw_warm hW hnw⟩
theorem pre_m {s : State} {H : Heap} {D : va_G} {A : Nat → Prop} {ws : va_W} {tys : List (ClassId × FieldType)} (hP : va_P D CL ws H) (hK : va_K D CL tys s) (hD : va_D A ws) (hnw : nw s) (av : List Value) : ∀ U : State, U.heap = H → s.WarmedH U.vm → va_Pc av (PcM D ws tys H.size) av.toArray U := fun U hU hW => ⟨rfl, by rw [hU], by rw [hU]; exact hP, va_K.moved hW.alike hK, hD.weaken (fun _ _ _ _ => trivial), nw_warm hW hnw⟩
theorem nt {a k : Int32} {z : Int} (h : ¬ a = k) (hz : k.toInt = z) : a.toInt ≠ z := fun e => h (Int32.toInt_inj.mp (e.trans hz.symm))
/-! the three static tables -/
def tb_MOST_OF_WAY : Nat → Int32 := fun k => match k with | 0 => 3 | 1 => 1 | 2 => 3 | _ => 4
def tb_BITS_OF_WAY : Nat → Int32 := fun k => match k with | 0 => 2 | 1 => 1 | 2 => 2 | _ => 3
def tb_WAYS_AS_TOLD : Nat → Int32 := fun k => match k with | 0 => 2 | 1 => 1 | 2 => 0 | _ => 3
def stt1 (nm : String) (f : Nat → Int32) (A : Nat → Prop) (U : State) (H : Heap) : Prop := ∃ t : Nat, va_Z "TextRegions" nm "[I" (.ref t) A U H ∧ va_T .int t 4 (fun k => .int (f k)) A U H
def stt (A : Nat → Prop) (U : State) (H : Heap) : Prop := stt1 "MOST_OF_WAY" tb_MOST_OF_WAY A U H ∧ stt1 "BITS_OF_WAY" tb_BITS_OF_WAY A U H ∧ stt1 "WAYS_AS_TOLD" tb_WAYS_AS_TOLD A U H
theorem stt1_go {nm : String} {f : Nat → Int32} {A A9 : Nat → Prop} {s U : State} {H0 H : Heap} (h : stt1 nm f A s H0) (hq : ∀ a : Nat, a < H0.size → ¬ A a → H[a]? = H0[a]?) (hA : ∀ q, A9 q → A q) (hv : s.vm.Alike U.vm) : stt1 nm f A9 U H := by
  obtain ⟨t, h1, h2⟩ := h
  exact ⟨t, ((h1.kept hq).narrow hA).moved hv, ((h2.kept hq).narrow hA).moved hv⟩
theorem stt_go {A A9 : Nat → Prop} {s U : State} {H0 H : Heap} (h : stt A s H0) (hq : ∀ a : Nat, a < H0.size → ¬ A a → H[a]? = H0[a]?) (hA : ∀ q, A9 q → A q) (hv : s.vm.Alike U.vm) : stt A9 U H := ⟨stt1_go h.1 hq hA hv, stt1_go h.2.1 hq hA hv, stt1_go h.2.2 hq hA hv⟩
abbrev PcS (D : va_G) (ws : va_W) (tys : List (ClassId × FieldType)) (sz : Nat) (U : State) : Prop := PcM D ws tys sz U ∧ stt (va_A ws sz) U U.heap
theorem fb_s {av : List Value} {D : va_G} {ws : va_W} {tys : List (ClassId × FieldType)} {sz : Nat} : FrameBlind (va_Pc av (PcS D ws tys sz)) := fun a U g mk q => ⟨q.1, (fb_m (av := av) a U g mk ⟨q.1, q.2.1⟩).2, stt_go q.2.2 (fun _ _ _ => rfl) (fun _ h => h) (Vm.Alike.refl U.vm)⟩
theorem pre_s {s : State} {H : Heap} {D : va_G} {A : Nat → Prop} {ws : va_W} {tys : List (ClassId × FieldType)} {locs : List Loc} (hP : va_P D CL ws H) (hK : va_K D CL tys s) (hD : va_D A ws) (hnw : nw s) (hst : stt A s s.heap) (hS : va_S A s.heap H locs) (hF : ∀ q, va_A ws H.size q → A q) (av : List Value) : ∀ U : State, U.heap = H → s.WarmedH U.vm → va_Pc av (PcS D ws tys H.size) av.toArray U := fun U hU hW => ⟨rfl, (pre_m hP hK hD hnw av U hU hW).2, stt_go hst (fun a h1 h2 => by rw [hU]; exact hS.2.1 a h1 h2) hF hW.alike⟩
