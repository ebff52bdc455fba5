set_option maxHeartbeats 4000000 in
set_option maxRecDepth 100000 in
theorem kc_symbol_C {p : Program} {l : Launch} {e : Env} {s : State} {m : MethodId} {args : Array Value} {below : List Frame} {meth : Method} {c : Code} {H : Heap} {locs : List Loc} {cells slots : Nat} {Q : State → Prop} {A : Nat → Prop} {b N : Nat} {xs : Nat → Int32} {dC : Nat → ClassId} {dI : Nat → Nat → Nat} {a : TA} {z z1 : TS} {d : MA} {y y1 : MS} {i : Int32} {ls : Array Slot} {k : Int32} {q : Int32} (C0 : LX p l s m c args A b N xs) (hK : va_K (dC, dI) CL (KC a) s) (hKM : va_K (dC, dI) CL (KM d) s) (hP : va_P (dC, dI) CL (WC a z ++ WM d y) H) (hD : va_D A (WC a z ++ WM d y)) (hS : va_S A s.heap H locs) (hl : lv_has ls 7 [(0, .ref b), (1, .ref a.tr), (2, .ref d.mo), (3, .ref a.out), (4, .int i)]) (h1 : vp_in (i + (1 : Int32)) N) (h2 : vp_in (i + (2 : Int32)) N) (h3 : vp_in (i + (3 : Int32)) N) (h4 : vp_in (i + (4 : Int32)) N) (hf : cells + 2 ≤ room_1.cells ∧ slots + 12 ≤ room_1.slots) (hT : T_symbol z (xs (i + (1 : Int32)).toNatClampNeg) (xs (i + (2 : Int32)).toNatClampNeg) = some (k, z1)) (hM : M_symbol y (xs (i + (1 : Int32)).toNatClampNeg) (xs (i + (2 : Int32)).toNatClampNeg) = some (q, y1)) (K : ∀ (H1 : Heap) (locs1 : List Loc) (ls1 : Array Slot), va_P (dC, dI) CL (WC a z1 ++ WM d y1) H1 → va_D A (WC a z1 ++ WM d y1) → va_S A s.heap H1 locs1 → lv_has ls1 7 [(0, .ref b), (1, .ref a.tr), (2, .ref d.mo), (3, .ref a.out), (4, .int i)] → W p l e room_1 s m args below meth c H1 locs1 (cells + 1) (slots + 6) Q (F0 m 723 ls1 [])) : W p l e room_1 s m args below meth c H locs cells slots Q (F0 m 148 ls []) := by
  obtain ⟨hx, hb, hml, hown, hB, hnw, hxw, hxn, hst, hA, hAn, hlt, hX, hbl⟩ := id C0
  obtain ⟨hf1, hf2⟩ := hf
  refine lv_aload_n hx hb d_Law_law_148 rfl (lv_at hl 1 rfl) ?_
  refine lv_aload_n hx hb d_Law_law_149 rfl (lv_at hl 0 rfl) ?_
  refine lv_iload hx hb d_Law_law_150 (lv_at hl 4 rfl) ?_
  refine lv_iconst (v := 1) hx hb d_Law_law_152 (by decide) ?_
  refine lv_iadd hx hb d_Law_law_153 ?_
  refine va_sld hx hb hX hbl (hAn _ hbl) hS h1 d_Law_law_154 ?_
  refine lv_aload_n hx hb d_Law_law_155 rfl (lv_at hl 0 rfl) ?_
  refine lv_iload hx hb d_Law_law_156 (lv_at hl 4 rfl) ?_
  refine lv_iconst (v := 2) hx hb d_Law_law_158 (by decide) ?_
  refine lv_iadd hx hb d_Law_law_159 ?_
  refine va_sld hx hb hX hbl (hAn _ hbl) hS h2 d_Law_law_160 ?_
  refine lv_aload_n hx hb d_Law_law_161 rfl (lv_at hl 3 rfl) ?_
  refine kT_symbol_C C0 hK hP hD hS hl.1 hT d_Law_law_162 ⟨by omega, by omega⟩ (fun H locs hP hD hS => ?_)
  refine lv_istore (lv' := [(5, .int k), (0, .ref b), (1, .ref a.tr), (2, .ref d.mo), (3, .ref a.out), (4, .int i)]) hx hb d_Law_law_165 hl (by decide) rfl (fun ls hl => ?_)
  refine lv_aload_n hx hb d_Law_law_167 rfl (lv_at hl 3 rfl) ?_
  refine lv_aload_n hx hb d_Law_law_168 rfl (lv_at hl 1 rfl) ?_
  refine lv_iload hx hb d_Law_law_169 (lv_at hl 5 rfl) ?_
  refine lv_iconst (v := 1) hx hb d_Law_law_171 (by decide) ?_
  refine lv_iadd hx hb d_Law_law_172 ?_
  refine va_sld hx hb hX hbl (hAn _ hbl) hS h1 d_Law_law_173 ?_
  refine lv_aload_n hx hb d_Law_law_174 rfl (lv_at hl 1 rfl) ?_
  refine lv_iload hx hb d_Law_law_175 (lv_at hl 5 rfl) ?_
  refine lv_iconst (v := 2) hx hb d_Law_law_177 (by decide) ?_
  refine lv_iadd hx hb d_Law_law_178 ?_
  refine va_sld hx hb hX hbl (hAn _ hbl) hS h2 d_Law_law_179 ?_
  refine kM_symbol C0 hKM (va_P_c hP) (va_D_c hD) hS hl.1 hM d_Law_law_180 ⟨by omega, by omega⟩ (fun H locs hP hD hS => ?_)
  have hP := va_P_c hP
  have hD := va_D_c hD
  refine lv_istore (lv' := [(6, .int q), (5, .int k), (0, .ref b), (1, .ref a.tr), (2, .ref d.mo), (3, .ref a.out), (4, .int i)]) hx hb d_Law_law_183 hl (by decide) rfl (fun ls hl => ?_)
  refine lv_goto (tgt := 723) hx hb d_Law_law_185 (by decide) ?_
  exact K _ _ _ hP hD hS (lv_sub hl [2, 3, 4, 5, 6] rfl)
set_option maxHeartbeats 4000000 in
set_option maxRecDepth 100000 in
theorem kc_put_C {p : Program} {l : Launch} {e : Env} {s : State} {m : MethodId} {args : Array Value} {below : List Frame} {meth : Method} {c : Code} {H : Heap} {locs : List Loc} {cells slots : Nat} {Q : State → Prop} {A : Nat → Prop} {b N : Nat} {xs : Nat → Int32} {dC : Nat → ClassId} {dI : Nat → Nat → Nat} {a : TA} {z z1 : TS} {d : MA} {y y1 : MS} {i : Int32} {ls : Array Slot} {k : Int32} {q : Int32} (C0 : LX p l s m c args A b N xs) (hK : va_K (dC, dI) CL (KC a) s) (hKM : va_K (dC, dI) CL (KM d) s) (hP : va_P (dC, dI) CL (WC a z ++ WM d y) H) (hD : va_D A (WC a z ++ WM d y)) (hS : va_S A s.heap H locs) (hl : lv_has ls 7 [(0, .ref b), (1, .ref a.tr), (2, .ref d.mo), (3, .ref a.out), (4, .int i)]) (h1 : vp_in (i + (1 : Int32)) N) (h2 : vp_in (i + (2 : Int32)) N) (h3 : vp_in (i + (3 : Int32)) N) (h4 : vp_in (i + (4 : Int32)) N) (hf : cells + 2 ≤ room_1.cells ∧ slots + 12 ≤ room_1.slots) (hT : T_put z (xs (i + (1 : Int32)).toNatClampNeg) (xs (i + (2 : Int32)).toNatClampNeg) (xs (i + (3 : Int32)).toNatClampNeg) (if (xs (i + (4 : Int32)).toNatClampNeg) = 0 then (0 : Int32) else 1) = some (k, z1)) (hM : M_put y (xs (i + (1 : Int32)).toNatClampNeg) (xs (i + (2 : Int32)).toNatClampNeg) (xs (i + (3 : Int32)).toNatClampNeg) (if (xs (i + (4 : Int32)).toNatClampNeg) = 0 then (0 : Int32) else 1) = some (q, y1)) (K : ∀ (H1 : Heap) (locs1 : List Loc) (ls1 : Array Slot), va_P (dC, dI) CL (WC a z1 ++ WM d y1) H1 → va_D A (WC a z1 ++ WM d y1) → va_S A s.heap H1 locs1 → lv_has ls1 7 [(0, .ref b), (1, .ref a.tr), (2, .ref d.mo), (3, .ref a.out), (4, .int i)] → W p l e room_1 s m args below meth c H1 locs1 (cells + 1) (slots + 6) Q (F0 m 723 ls1 [])) : W p l e room_1 s m args below meth c H locs cells slots Q (F0 m 188 ls []) := by
  obtain ⟨hx, hb, hml, hown, hB, hnw, hxw, hxn, hst, hA, hAn, hlt, hX, hbl⟩ := id C0
  obtain ⟨hf1, hf2⟩ := hf
  refine lv_aload_n hx hb d_Law_law_188 rfl (lv_at hl 1 rfl) ?_
  refine lv_aload_n hx hb d_Law_law_189 rfl (lv_at hl 0 rfl) ?_
  refine lv_iload hx hb d_Law_law_190 (lv_at hl 4 rfl) ?_
  refine lv_iconst (v := 1) hx hb d_Law_law_192 (by decide) ?_
  refine lv_iadd hx hb d_Law_law_193 ?_
  refine va_sld hx hb hX hbl (hAn _ hbl) hS h1 d_Law_law_194 ?_
  refine lv_aload_n hx hb d_Law_law_195 rfl (lv_at hl 0 rfl) ?_
  refine lv_iload hx hb d_Law_law_196 (lv_at hl 4 rfl) ?_
  refine lv_iconst (v := 2) hx hb d_Law_law_198 (by decide) ?_
  refine lv_iadd hx hb d_Law_law_199 ?_
  refine va_sld hx hb hX hbl (hAn _ hbl) hS h2 d_Law_law_200 ?_
  refine lv_aload_n hx hb d_Law_law_201 rfl (lv_at hl 0 rfl) ?_
  refine lv_iload hx hb d_Law_law_202 (lv_at hl 4 rfl) ?_
  refine lv_iconst (v := 3) hx hb d_Law_law_204 (by decide) ?_
  refine lv_iadd hx hb d_Law_law_205 ?_
  refine va_sld hx hb hX hbl (hAn _ hbl) hS h3 d_Law_law_206 ?_
  refine lv_aload_n hx hb d_Law_law_207 rfl (lv_at hl 0 rfl) ?_
  refine lv_iload hx hb d_Law_law_208 (lv_at hl 4 rfl) ?_
  refine lv_iconst (v := 4) hx hb d_Law_law_210 (by decide) ?_
  refine lv_iadd hx hb d_Law_law_211 ?_
  refine va_sld hx hb hX hbl (hAn _ hbl) hS h4 d_Law_law_212 ?_
  refine lv_if_eq (tgt := 220) hx hb d_Law_law_213 (by decide) (fun c_1 => ?_) (fun c_1 => ?_)
  · rw [if_pos c_1] at hT hM
    refine lv_iconst (v := 0) hx hb d_Law_law_220 (by decide) ?_
    refine lv_aload_n hx hb d_Law_law_221 rfl (lv_at hl 3 rfl) ?_
    refine kT_put_C C0 hK hP hD hS hl.1 hT d_Law_law_222 ⟨by omega, by omega⟩ (fun H locs hP hD hS => ?_)
    refine lv_istore (lv' := [(5, .int k), (0, .ref b), (1, .ref a.tr), (2, .ref d.mo), (3, .ref a.out), (4, .int i)]) hx hb d_Law_law_225 hl (by decide) rfl (fun ls hl => ?_)
    refine lv_aload_n hx hb d_Law_law_227 rfl (lv_at hl 3 rfl) ?_
    refine lv_aload_n hx hb d_Law_law_228 rfl (lv_at hl 1 rfl) ?_
    refine lv_iload hx hb d_Law_law_229 (lv_at hl 5 rfl) ?_
    refine lv_iconst (v := 1) hx hb d_Law_law_231 (by decide) ?_
    refine lv_iadd hx hb d_Law_law_232 ?_
    refine va_sld hx hb hX hbl (hAn _ hbl) hS h1 d_Law_law_233 ?_
    refine lv_aload_n hx hb d_Law_law_234 rfl (lv_at hl 1 rfl) ?_
    refine lv_iload hx hb d_Law_law_235 (lv_at hl 5 rfl) ?_
    refine lv_iconst (v := 2) hx hb d_Law_law_237 (by decide) ?_
    refine lv_iadd hx hb d_Law_law_238 ?_
    refine va_sld hx hb hX hbl (hAn _ hbl) hS h2 d_Law_law_239 ?_
    refine lv_aload_n hx hb d_Law_law_240 rfl (lv_at hl 1 rfl) ?_
    refine lv_iload hx hb d_Law_law_241 (lv_at hl 5 rfl) ?_
    refine lv_iconst (v := 3) hx hb d_Law_law_243 (by decide) ?_
    refine lv_iadd hx hb d_Law_law_244 ?_
    refine va_sld hx hb hX hbl (hAn _ hbl) hS h3 d_Law_law_245 ?_
    refine lv_aload_n hx hb d_Law_law_246 rfl (lv_at hl 1 rfl) ?_
    refine lv_iload hx hb d_Law_law_247 (lv_at hl 5 rfl) ?_
    refine lv_iconst (v := 4) hx hb d_Law_law_249 (by decide) ?_
    refine lv_iadd hx hb d_Law_law_250 ?_
    refine va_sld hx hb hX hbl (hAn _ hbl) hS h4 d_Law_law_251 ?_
    refine lv_if_eq (tgt := 259) hx hb d_Law_law_252 (by decide) (fun c_2 => ?_) (fun c_2 => ?_)
    · skip
      refine lv_iconst (v := 0) hx hb d_Law_law_259 (by decide) ?_
      refine kM_put C0 hKM (va_P_c hP) (va_D_c hD) hS hl.1 hM d_Law_law_260 ⟨by omega, by omega⟩ (fun H locs hP hD hS => ?_)
      have hP := va_P_c hP
      have hD := va_D_c hD
      refine lv_istore (lv' := [(6, .int q), (5, .int k), (0, .ref b), (1, .ref a.tr), (2, .ref d.mo), (3, .ref a.out), (4, .int i)]) hx hb d_Law_law_263 hl (by decide) rfl (fun ls hl => ?_)
      refine lv_goto (tgt := 723) hx hb d_Law_law_265 (by decide) ?_
      exact K _ _ _ hP hD hS (lv_sub hl [2, 3, 4, 5, 6] rfl)
    · exact absurd c_1 c_2
  · rw [if_neg c_1] at hT hM
    refine lv_iconst (v := 1) hx hb d_Law_law_216 (by decide) ?_
    refine lv_goto (tgt := 221) hx hb d_Law_law_217 (by decide) ?_
    refine lv_aload_n hx hb d_Law_law_221 rfl (lv_at hl 3 rfl) ?_
    refine kT_put_C C0 hK hP hD hS hl.1 hT d_Law_law_222 ⟨by omega, by omega⟩ (fun H locs hP hD hS => ?_)
    refine lv_istore (lv' := [(5, .int k), (0, .ref b), (1, .ref a.tr), (2, .ref d.mo), (3, .ref a.out), (4, .int i)]) hx hb d_Law_law_225 hl (by decide) rfl (fun ls hl => ?_)
    refine lv_aload_n hx hb d_Law_law_227 rfl (lv_at hl 3 rfl) ?_
    refine lv_aload_n hx hb d_Law_law_228 rfl (lv_at hl 1 rfl) ?_
    refine lv_iload hx hb d_Law_law_229 (lv_at hl 5 rfl) ?_
    refine lv_iconst (v := 1) hx hb d_Law_law_231 (by decide) ?_
    refine lv_iadd hx hb d_Law_law_232 ?_
    refine va_sld hx hb hX hbl (hAn _ hbl) hS h1 d_Law_law_233 ?_
    refine lv_aload_n hx hb d_Law_law_234 rfl (lv_at hl 1 rfl) ?_
    refine lv_iload hx hb d_Law_law_235 (lv_at hl 5 rfl) ?_
    refine lv_iconst (v := 2) hx hb d_Law_law_237 (by decide) ?_
    refine lv_iadd hx hb d_Law_law_238 ?_
    refine va_sld hx hb hX hbl (hAn _ hbl) hS h2 d_Law_law_239 ?_
    refine lv_aload_n hx hb d_Law_law_240 rfl (lv_at hl 1 rfl) ?_
    refine lv_iload hx hb d_Law_law_241 (lv_at hl 5 rfl) ?_
    refine lv_iconst (v := 3) hx hb d_Law_law_243 (by decide) ?_
    refine lv_iadd hx hb d_Law_law_244 ?_
    refine va_sld hx hb hX hbl (hAn _ hbl) hS h3 d_Law_law_245 ?_
    refine lv_aload_n hx hb d_Law_law_246 rfl (lv_at hl 1 rfl) ?_
    refine lv_iload hx hb d_Law_law_247 (lv_at hl 5 rfl) ?_
    refine lv_iconst (v := 4) hx hb d_Law_law_249 (by decide) ?_
    refine lv_iadd hx hb d_Law_law_250 ?_
    refine va_sld hx hb hX hbl (hAn _ hbl) hS h4 d_Law_law_251 ?_
    refine lv_if_eq (tgt := 259) hx hb d_Law_law_252 (by decide) (fun c_3 => ?_) (fun c_3 => ?_)
    · exact absurd c_3 c_1
    · skip
      refine lv_iconst (v := 1) hx hb d_Law_law_255 (by decide) ?_
      refine lv_goto (tgt := 260) hx hb d_Law_law_256 (by decide) ?_
      refine kM_put C0 hKM (va_P_c hP) (va_D_c hD) hS hl.1 hM d_Law_law_260 ⟨by omega, by omega⟩ (fun H locs hP hD hS => ?_)
      have hP := va_P_c hP
      have hD := va_D_c hD
      refine lv_istore (lv' := [(6, .int q), (5, .int k), (0, .ref b), (1, .ref a.tr), (2, .ref d.mo), (3, .ref a.out), (4, .int i)]) hx hb d_Law_law_263 hl (by decide) rfl (fun ls hl => ?_)
      refine lv_goto (tgt := 723) hx hb d_Law_law_265 (by decide) ?_
      exact K _ _ _ hP hD hS (lv_sub hl [2, 3, 4, 5, 6] rfl)
set_option maxHeartbeats 4000000 in
set_option maxRecDepth 100000 in
theorem kc_instance_C {p : Program} {l : Launch} {e : Env} {s : State} {m : MethodId} {args : Array Value} {below : List Frame} {meth : Method} {c : Code} {H : Heap} {locs : List Loc} {cells slots : Nat} {Q : State → Prop} {A : Nat → Prop} {b N : Nat} {xs : Nat → Int32} {dC : Nat → ClassId} {dI : Nat → Nat → Nat} {a : TA} {z z1 : TS} {d : MA} {y y1 : MS} {i : Int32} {ls : Array Slot} {k : Int32} {q : Int32} (C0 : LX p l s m c args A b N xs) (hK : va_K (dC, dI) CL (KC a) s) (hKM : va_K (dC, dI) CL (KM d) s) (hP : va_P (dC, dI) CL (WC a z ++ WM d y) H) (hD : va_D A (WC a z ++ WM d y)) (hS : va_S A s.heap H locs) (hl : lv_has ls 7 [(0, .ref b), (1, .ref a.tr), (2, .ref d.mo), (3, .ref a.out), (4, .int i)]) (h1 : vp_in (i + (1 : Int32)) N) (h2 : vp_in (i + (2 : Int32)) N) (h3 : vp_in (i + (3 : Int32)) N) (h4 : vp_in (i + (4 : Int32)) N) (hf : cells + 2 ≤ room_1.cells ∧ slots + 12 ≤ room_1.slots) (hT : T_instance z (xs (i + (1 : Int32)).toNatClampNeg) (xs (i + (2 : Int32)).toNatClampNeg) (xs (i + (3 : Int32)).toNatClampNeg) = some (k, z1)) (hM : M_instance y (xs (i + (1 : Int32)).toNatClampNeg) (xs (i + (2 : Int32)).toNatClampNeg) (xs (i + (3 : Int32)).toNatClampNeg) = some (q, y1)) (K : ∀ (H1 : Heap) (locs1 : List Loc) (ls1 : Array Slot), va_P (dC, dI) CL (WC a z1 ++ WM d y1) H1 → va_D A (WC a z1 ++ WM d y1) → va_S A s.heap H1 locs1 → lv_has ls1 7 [(0, .ref b), (1, .ref a.tr), (2, .ref d.mo), (3, .ref a.out), (4, .int i)] → W p l e room_1 s m args below meth c H1 locs1 (cells + 1) (slots + 6) Q (F0 m 723 ls1 [])) : W p l e room_1 s m args below meth c H locs cells slots Q (F0 m 268 ls []) := by
  obtain ⟨hx, hb, hml, hown, hB, hnw, hxw, hxn, hst, hA, hAn, hlt, hX, hbl⟩ := id C0
  obtain ⟨hf1, hf2⟩ := hf
  refine lv_aload_n hx hb d_Law_law_268 rfl (lv_at hl 1 rfl) ?_
  refine lv_aload_n hx hb d_Law_law_269 rfl (lv_at hl 0 rfl) ?_
  refine lv_iload hx hb d_Law_law_270 (lv_at hl 4 rfl) ?_
  refine lv_iconst (v := 1) hx hb d_Law_law_272 (by decide) ?_
  refine lv_iadd hx hb d_Law_law_273 ?_
  refine va_sld hx hb hX hbl (hAn _ hbl) hS h1 d_Law_law_274 ?_
  refine lv_aload_n hx hb d_Law_law_275 rfl (lv_at hl 0 rfl) ?_
  refine lv_iload hx hb d_Law_law_276 (lv_at hl 4 rfl) ?_
  refine lv_iconst (v := 2) hx hb d_Law_law_278 (by decide) ?_
  refine lv_iadd hx hb d_Law_law_279 ?_
  refine va_sld hx hb hX hbl (hAn _ hbl) hS h2 d_Law_law_280 ?_
  refine lv_aload_n hx hb d_Law_law_281 rfl (lv_at hl 0 rfl) ?_
  refine lv_iload hx hb d_Law_law_282 (lv_at hl 4 rfl) ?_
  refine lv_iconst (v := 3) hx hb d_Law_law_284 (by decide) ?_
  refine lv_iadd hx hb d_Law_law_285 ?_
  refine va_sld hx hb hX hbl (hAn _ hbl) hS h3 d_Law_law_286 ?_
  refine lv_aload_n hx hb d_Law_law_287 rfl (lv_at hl 3 rfl) ?_
  refine kT_instance_C C0 hK hP hD hS hl.1 hT d_Law_law_288 ⟨by omega, by omega⟩ (fun H locs hP hD hS => ?_)
  refine lv_istore (lv' := [(5, .int k), (0, .ref b), (1, .ref a.tr), (2, .ref d.mo), (3, .ref a.out), (4, .int i)]) hx hb d_Law_law_291 hl (by decide) rfl (fun ls hl => ?_)
  refine lv_aload_n hx hb d_Law_law_293 rfl (lv_at hl 3 rfl) ?_
  refine lv_aload_n hx hb d_Law_law_294 rfl (lv_at hl 1 rfl) ?_
  refine lv_iload hx hb d_Law_law_295 (lv_at hl 5 rfl) ?_
  refine lv_iconst (v := 1) hx hb d_Law_law_297 (by decide) ?_
  refine lv_iadd hx hb d_Law_law_298 ?_
  refine va_sld hx hb hX hbl (hAn _ hbl) hS h1 d_Law_law_299 ?_
  refine lv_aload_n hx hb d_Law_law_300 rfl (lv_at hl 1 rfl) ?_
  refine lv_iload hx hb d_Law_law_301 (lv_at hl 5 rfl) ?_
  refine lv_iconst (v := 2) hx hb d_Law_law_303 (by decide) ?_
  refine lv_iadd hx hb d_Law_law_304 ?_
  refine va_sld hx hb hX hbl (hAn _ hbl) hS h2 d_Law_law_305 ?_
  refine lv_aload_n hx hb d_Law_law_306 rfl (lv_at hl 1 rfl) ?_
  refine lv_iload hx hb d_Law_law_307 (lv_at hl 5 rfl) ?_
  refine lv_iconst (v := 3) hx hb d_Law_law_309 (by decide) ?_
  refine lv_iadd hx hb d_Law_law_310 ?_
  refine va_sld hx hb hX hbl (hAn _ hbl) hS h3 d_Law_law_311 ?_
  refine kM_instance C0 hKM (va_P_c hP) (va_D_c hD) hS hl.1 hM d_Law_law_312 ⟨by omega, by omega⟩ (fun H locs hP hD hS => ?_)
  have hP := va_P_c hP
  have hD := va_D_c hD
  refine lv_istore (lv' := [(6, .int q), (5, .int k), (0, .ref b), (1, .ref a.tr), (2, .ref d.mo), (3, .ref a.out), (4, .int i)]) hx hb d_Law_law_315 hl (by decide) rfl (fun ls hl => ?_)
  refine lv_goto (tgt := 723) hx hb d_Law_law_317 (by decide) ?_
  exact K _ _ _ hP hD hS (lv_sub hl [2, 3, 4, 5, 6] rfl)
set_option maxHeartbeats 4000000 in
set_option maxRecDepth 100000 in
theorem kc_refine_C {p : Program} {l : Launch} {e : Env} {s : State} {m : MethodId} {args : Array Value} {below : List Frame} {meth : Method} {c : Code} {H : Heap} {locs : List Loc} {cells slots : Nat} {Q : State → Prop} {A : Nat → Prop} {b N : Nat} {xs : Nat → Int32} {dC : Nat → ClassId} {dI : Nat → Nat → Nat} {a : TA} {z z1 : TS} {d : MA} {y y1 : MS} {i : Int32} {ls : Array Slot} {k : Int32} {q : Int32} (C0 : LX p l s m c args A b N xs) (hK : va_K (dC, dI) CL (KC a) s) (hKM : va_K (dC, dI) CL (KM d) s) (hP : va_P (dC, dI) CL (WC a z ++ WM d y) H) (hD : va_D A (WC a z ++ WM d y)) (hS : va_S A s.heap H locs) (hl : lv_has ls 7 [(0, .ref b), (1, .ref a.tr), (2, .ref d.mo), (3, .ref a.out), (4, .int i)]) (h1 : vp_in (i + (1 : Int32)) N) (h2 : vp_in (i + (2 : Int32)) N) (h3 : vp_in (i + (3 : Int32)) N) (h4 : vp_in (i + (4 : Int32)) N) (hf : cells + 2 ≤ room_1.cells ∧ slots + 12 ≤ room_1.slots) (hT : T_refine z (xs (i + (1 : Int32)).toNatClampNeg) (xs (i + (2 : Int32)).toNatClampNeg) (xs (i + (3 : Int32)).toNatClampNeg) (if (xs (i + (4 : Int32)).toNatClampNeg) = 0 then (0 : Int32) else 1) = some (k, z1)) (hM : M_refine y (xs (i + (1 : Int32)).toNatClampNeg) (xs (i + (2 : Int32)).toNatClampNeg) (xs (i + (3 : Int32)).toNatClampNeg) (if (xs (i + (4 : Int32)).toNatClampNeg) = 0 then (0 : Int32) else 1) = some (q, y1)) (K : ∀ (H1 : Heap) (locs1 : List Loc) (ls1 : Array Slot), va_P (dC, dI) CL (WC a z1 ++ WM d y1) H1 → va_D A (WC a z1 ++ WM d y1) → va_S A s.heap H1 locs1 → lv_has ls1 7 [(0, .ref b), (1, .ref a.tr), (2, .ref d.mo), (3, .ref a.out), (4, .int i)] → W p l e room_1 s m args below meth c H1 locs1 (cells + 1) (slots + 6) Q (F0 m 723 ls1 [])) : W p l e room_1 s m args below meth c H locs cells slots Q (F0 m 320 ls []) := by
  obtain ⟨hx, hb, hml, hown, hB, hnw, hxw, hxn, hst, hA, hAn, hlt, hX, hbl⟩ := id C0
  obtain ⟨hf1, hf2⟩ := hf
  refine lv_aload_n hx hb d_Law_law_320 rfl (lv_at hl 1 rfl) ?_
  refine lv_aload_n hx hb d_Law_law_321 rfl (lv_at hl 0 rfl) ?_
  refine lv_iload hx hb d_Law_law_322 (lv_at hl 4 rfl) ?_
  refine lv_iconst (v := 1) hx hb d_Law_law_324 (by decide) ?_
  refine lv_iadd hx hb d_Law_law_325 ?_
  refine va_sld hx hb hX hbl (hAn _ hbl) hS h1 d_Law_law_326 ?_
  refine lv_aload_n hx hb d_Law_law_327 rfl (lv_at hl 0 rfl) ?_
  refine lv_iload hx hb d_Law_law_328 (lv_at hl 4 rfl) ?_
  refine lv_iconst (v := 2) hx hb d_Law_law_330 (by decide) ?_
  refine lv_iadd hx hb d_Law_law_331 ?_
  refine va_sld hx hb hX hbl (hAn _ hbl) hS h2 d_Law_law_332 ?_
  refine lv_aload_n hx hb d_Law_law_333 rfl (lv_at hl 0 rfl) ?_
  refine lv_iload hx hb d_Law_law_334 (lv_at hl 4 rfl) ?_
  refine lv_iconst (v := 3) hx hb d_Law_law_336 (by decide) ?_
  refine lv_iadd hx hb d_Law_law_337 ?_
  refine va_sld hx hb hX hbl (hAn _ hbl) hS h3 d_Law_law_338 ?_
  refine lv_aload_n hx hb d_Law_law_339 rfl (lv_at hl 0 rfl) ?_
  refine lv_iload hx hb d_Law_law_340 (lv_at hl 4 rfl) ?_
  refine lv_iconst (v := 4) hx hb d_Law_law_342 (by decide) ?_
  refine lv_iadd hx hb d_Law_law_343 ?_
  refine va_sld hx hb hX hbl (hAn _ hbl) hS h4 d_Law_law_344 ?_
  refine lv_if_eq (tgt := 352) hx hb d_Law_law_345 (by decide) (fun c_1 => ?_) (fun c_1 => ?_)
  · rw [if_pos c_1] at hT hM
    refine lv_iconst (v := 0) hx hb d_Law_law_352 (by decide) ?_
    refine lv_aload_n hx hb d_Law_law_353 rfl (lv_at hl 3 rfl) ?_
    refine kT_refine_C C0 hK hP hD hS hl.1 hT d_Law_law_354 ⟨by omega, by omega⟩ (fun H locs hP hD hS => ?_)
    refine lv_istore (lv' := [(5, .int k), (0, .ref b), (1, .ref a.tr), (2, .ref d.mo), (3, .ref a.out), (4, .int i)]) hx hb d_Law_law_357 hl (by decide) rfl (fun ls hl => ?_)
    refine lv_aload_n hx hb d_Law_law_359 rfl (lv_at hl 3 rfl) ?_
    refine lv_aload_n hx hb d_Law_law_360 rfl (lv_at hl 1 rfl) ?_
    refine lv_iload hx hb d_Law_law_361 (lv_at hl 5 rfl) ?_
    refine lv_iconst (v := 1) hx hb d_Law_law_363 (by decide) ?_
    refine lv_iadd hx hb d_Law_law_364 ?_
    refine va_sld hx hb hX hbl (hAn _ hbl) hS h1 d_Law_law_365 ?_
    refine lv_aload_n hx hb d_Law_law_366 rfl (lv_at hl 1 rfl) ?_
    refine lv_iload hx hb d_Law_law_367 (lv_at hl 5 rfl) ?_
    refine lv_iconst (v := 2) hx hb d_Law_law_369 (by decide) ?_
    refine lv_iadd hx hb d_Law_law_370 ?_
    refine va_sld hx hb hX hbl (hAn _ hbl) hS h2 d_Law_law_371 ?_
    refine lv_aload_n hx hb d_Law_law_372 rfl (lv_at hl 1 rfl) ?_
    refine lv_iload hx hb d_Law_law_373 (lv_at hl 5 rfl) ?_
    refine lv_iconst (v := 3) hx hb d_Law_law_375 (by decide) ?_
    refine lv_iadd hx hb d_Law_law_376 ?_
    refine va_sld hx hb hX hbl (hAn _ hbl) hS h3 d_Law_law_377 ?_
    refine lv_aload_n hx hb d_Law_law_378 rfl (lv_at hl 1 rfl) ?_
    refine lv_iload hx hb d_Law_law_379 (lv_at hl 5 rfl) ?_
    refine lv_iconst (v := 4) hx hb d_Law_law_381 (by decide) ?_
    refine lv_iadd hx hb d_Law_law_382 ?_
    refine va_sld hx hb hX hbl (hAn _ hbl) hS h4 d_Law_law_383 ?_
    refine lv_if_eq (tgt := 391) hx hb d_Law_law_384 (by decide) (fun c_2 => ?_) (fun c_2 => ?_)
    · skip
      refine lv_iconst (v := 0) hx hb d_Law_law_391 (by decide) ?_
      refine kM_refine C0 hKM (va_P_c hP) (va_D_c hD) hS hl.1 hM d_Law_law_392 ⟨by omega, by omega⟩ (fun H locs hP hD hS => ?_)
      have hP := va_P_c hP
      have hD := va_D_c hD
      refine lv_istore (lv' := [(6, .int q), (5, .int k), (0, .ref b), (1, .ref a.tr), (2, .ref d.mo), (3, .ref a.out), (4, .int i)]) hx hb d_Law_law_395 hl (by decide) rfl (fun ls hl => ?_)
      refine lv_goto (tgt := 723) hx hb d_Law_law_397 (by decide) ?_
      exact K _ _ _ hP hD hS (lv_sub hl [2, 3, 4, 5, 6] rfl)
    · exact absurd c_1 c_2
  · rw [if_neg c_1] at hT hM
    refine lv_iconst (v := 1) hx hb d_Law_law_348 (by decide) ?_
    refine lv_goto (tgt := 353) hx hb d_Law_law_349 (by decide) ?_
    refine lv_aload_n hx hb d_Law_law_353 rfl (lv_at hl 3 rfl) ?_
    refine kT_refine_C C0 hK hP hD hS hl.1 hT d_Law_law_354 ⟨by omega, by omega⟩ (fun H locs hP hD hS => ?_)
    refine lv_istore (lv' := [(5, .int k), (0, .ref b), (1, .ref a.tr), (2, .ref d.mo), (3, .ref a.out), (4, .int i)]) hx hb d_Law_law_357 hl (by decide) rfl (fun ls hl => ?_)
    refine lv_aload_n hx hb d_Law_law_359 rfl (lv_at hl 3 rfl) ?_
    refine lv_aload_n hx hb d_Law_law_360 rfl (lv_at hl 1 rfl) ?_
    refine lv_iload hx hb d_Law_law_361 (lv_at hl 5 rfl) ?_
    refine lv_iconst (v := 1) hx hb d_Law_law_363 (by decide) ?_
    refine lv_iadd hx hb d_Law_law_364 ?_
    refine va_sld hx hb hX hbl (hAn _ hbl) hS h1 d_Law_law_365 ?_
    refine lv_aload_n hx hb d_Law_law_366 rfl (lv_at hl 1 rfl) ?_
    refine lv_iload hx hb d_Law_law_367 (lv_at hl 5 rfl) ?_
    refine lv_iconst (v := 2) hx hb d_Law_law_369 (by decide) ?_
    refine lv_iadd hx hb d_Law_law_370 ?_
    refine va_sld hx hb hX hbl (hAn _ hbl) hS h2 d_Law_law_371 ?_
    refine lv_aload_n hx hb d_Law_law_372 rfl (lv_at hl 1 rfl) ?_
    refine lv_iload hx hb d_Law_law_373 (lv_at hl 5 rfl) ?_
    refine lv_iconst (v := 3) hx hb d_Law_law_375 (by decide) ?_
    refine lv_iadd hx hb d_Law_law_376 ?_
    refine va_sld hx hb hX hbl (hAn _ hbl) hS h3 d_Law_law_377 ?_
    refine lv_aload_n hx hb d_Law_law_378 rfl (lv_at hl 1 rfl) ?_
    refine lv_iload hx hb d_Law_law_379 (lv_at hl 5 rfl) ?_
    refine lv_iconst (v := 4) hx hb d_Law_law_381 (by decide) ?_
    refine lv_iadd hx hb d_Law_law_382 ?_
    refine va_sld hx hb hX hbl (hAn _ hbl) hS h4 d_Law_law_383 ?_
    refine lv_if_eq (tgt := 391) hx hb d_Law_law_384 (by decide) (fun c_3 => ?_) (fun c_3 => ?_)
    · exact absurd c_3 c_1
    · skip
      refine lv_iconst (v := 1) hx hb d_Law_law_387 (by decide) ?_
      refine lv_goto (tgt := 392) hx hb d_Law_law_388 (by decide) ?_
      refine kM_refine C0 hKM (va_P_c hP) (va_D_c hD) hS hl.1 hM d_Law_law_392 ⟨by omega, by omega⟩ (fun H locs hP hD hS => ?_)
      have hP := va_P_c hP
      have hD := va_D_c hD
      refine lv_istore (lv' := [(6, .int q), (5, .int k), (0, .ref b), (1, .ref a.tr), (2, .ref d.mo), (3, .ref a.out), (4, .int i)]) hx hb d_Law_law_395 hl (by decide) rfl (fun ls hl => ?_)
      refine lv_goto (tgt := 723) hx hb d_Law_law_397 (by decide) ?_
      exact K _ _ _ hP hD hS (lv_sub hl [2, 3, 4, 5, 6] rfl)
set_option maxHeartbeats 4000000 in
set_option maxRecDepth 100000 in
theorem kc_way_C {p : Program} {l : Launch} {e : Env} {s : State} {m : MethodId} {args : Array Value} {below : List Frame} {meth : Method} {c : Code} {H : Heap} {locs : List Loc} {cells slots : Nat} {Q : State → Prop} {A : Nat → Prop} {b N : Nat} {xs : Nat → Int32} {dC : Nat → ClassId} {dI : Nat → Nat → Nat} {a : TA} {z z1 : TS} {d : MA} {y y1 : MS} {i : Int32} {ls : Array Slot} {k : Int32} {q : Int32} (C0 : LX p l s m c args A b N xs) (hK : va_K (dC, dI) CL (KC a) s) (hKM : va_K (dC, dI) CL (KM d) s) (hP : va_P (dC, dI) CL (WC a z ++ WM d y) H) (hD : va_D A (WC a z ++ WM d y)) (hS : va_S A s.heap H locs) (hl : lv_has ls 7 [(0, .ref b), (1, .ref a.tr), (2, .ref d.mo), (3, .ref a.out), (4, .int i)]) (h1 : vp_in (i + (1 : Int32)) N) (h2 : vp_in (i + (2 : Int32)) N) (h3 : vp_in (i + (3 : Int32)) N) (h4 : vp_in (i + (4 : Int32)) N) (hf : cells + 2 ≤ room_1.cells ∧ slots + 12 ≤ room_1.slots) (hT : T_way z (xs (i + (1 : Int32)).toNatClampNeg) (xs (i + (2 : Int32)).toNatClampNeg) = some (k, z1)) (hM : M_way y (xs (i + (1 : Int32)).toNatClampNeg) (xs (i + (2 : Int32)).toNatClampNeg) = some (q, y1)) (K : ∀ (H1 : Heap) (locs1 : List Loc) (ls1 : Array Slot), va_P (dC, dI) CL (WC a z1 ++ WM d y1) H1 → va_D A (WC a z1 ++ WM d y1) → va_S A s.heap H1 locs1 → lv_has ls1 7 [(0, .ref b), (1, .ref a.tr), (2, .ref d.mo), (3, .ref a.out), (4, .int i)] → W p l e room_1 s m args below meth c H1 locs1 (cells + 1) (slots + 6) Q (F0 m 723 ls1 [])) : W p l e room_1 s m args below meth c H locs cells slots Q (F0 m 400 ls []) := by
  obtain ⟨hx, hb, hml, hown, hB, hnw, hxw, hxn, hst, hA, hAn, hlt, hX, hbl⟩ := id C0
  obtain ⟨hf1, hf2⟩ := hf
  refine lv_aload_n hx hb d_Law_law_400 rfl (lv_at hl 1 rfl) ?_
  refine lv_aload_n hx hb d_Law_law_401 rfl (lv_at hl 0 rfl) ?_
  refine lv_iload hx hb d_Law_law_402 (lv_at hl 4 rfl) ?_
  refine lv_iconst (v := 1) hx hb d_Law_law_404 (by decide) ?_
  refine lv_iadd hx hb d_Law_law_405 ?_
  refine va_sld hx hb hX hbl (hAn _ hbl) hS h1 d_Law_law_406 ?_
  refine lv_aload_n hx hb d_Law_law_407 rfl (lv_at hl 0 rfl) ?_
  refine lv_iload hx hb d_Law_law_408 (lv_at hl 4 rfl) ?_
  refine lv_iconst (v := 2) hx hb d_Law_law_410 (by decide) ?_
  refine lv_iadd hx hb d_Law_law_411 ?_
  refine va_sld hx hb hX hbl (hAn _ hbl) hS h2 d_Law_law_412 ?_
  refine lv_aload_n hx hb d_Law_law_413 rfl (lv_at hl 3 rfl) ?_
  refine kT_way_C C0 hK hP hD hS hl.1 hT d_Law_law_414 ⟨by omega, by omega⟩ (fun H locs hP hD hS => ?_)
  refine lv_istore (lv' := [(5, .int k), (0, .ref b), (1, .ref a.tr), (2, .ref d.mo), (3, .ref a.out), (4, .int i)]) hx hb d_Law_law_417 hl (by decide) rfl (fun ls hl => ?_)
  refine lv_aload_n hx hb d_Law_law_419 rfl (lv_at hl 3 rfl) ?_
  refine lv_aload_n hx hb d_Law_law_420 rfl (lv_at hl 1 rfl) ?_
  refine lv_iload hx hb d_Law_law_421 (lv_at hl 5 rfl) ?_
  refine lv_iconst (v := 1) hx hb d_Law_law_423 (by decide) ?_
  refine lv_iadd hx hb d_Law_law_424 ?_
  refine va_sld hx hb hX hbl (hAn _ hbl) hS h1 d_Law_law_425 ?_
  refine lv_aload_n hx hb d_Law_law_426 rfl (lv_at hl 1 rfl) ?_
  refine lv_iload hx hb d_Law_law_427 (lv_at hl 5 rfl) ?_
  refine lv_iconst (v := 2) hx hb d_Law_law_429 (by decide) ?_
  refine lv_iadd hx hb d_Law_law_430 ?_
  refine va_sld hx hb hX hbl (hAn _ hbl) hS h2 d_Law_law_431 ?_
  refine kM_way C0 hKM (va_P_c hP) (va_D_c hD) hS hl.1 hM d_Law_law_432 ⟨by omega, by omega⟩ (fun H locs hP hD hS => ?_)
  have hP := va_P_c hP
  have hD := va_D_c hD
  refine lv_istore (lv' := [(6, .int q), (5, .int k), (0, .ref b), (1, .ref a.tr), (2, .ref d.mo), (3, .ref a.out), (4, .int i)]) hx hb d_Law_law_435 hl (by decide) rfl (fun ls hl => ?_)
  refine lv_goto (tgt := 723) hx hb d_Law_law_437 (by decide) ?_
  exact K _ _ _ hP hD hS (lv_sub hl [2, 3, 4, 5, 6] rfl)
set_option maxHeartbeats 4000000 in
set_option maxRecDepth 100000 in
theorem kc_order_C {p : Program} {l : Launch} {e : Env} {s : State} {m : MethodId} {args : Array Value} {below : List Frame} {meth : Method} {c : Code} {H : Heap} {locs : List Loc} {cells slots : Nat} {Q : State → Prop} {A : Nat → Prop} {b N : Nat} {xs : Nat → Int32} {dC : Nat → ClassId} {dI : Nat → Nat → Nat} {a : TA} {z z1 : TS} {d : MA} {y y1 : MS} {i : Int32} {ls : Array Slot} {k : Int32} {q : Int32} (C0 : LX p l s m c args A b N xs) (hK : va_K (dC, dI) CL (KC a) s) (hKM : va_K (dC, dI) CL (KM d) s) (hP : va_P (dC, dI) CL (WC a z ++ WM d y) H) (hD : va_D A (WC a z ++ WM d y)) (hS : va_S A s.heap H locs) (hl : lv_has ls 7 [(0, .ref b), (1, .ref a.tr), (2, .ref d.mo), (3, .ref a.out), (4, .int i)]) (h1 : vp_in (i + (1 : Int32)) N) (h2 : vp_in (i + (2 : Int32)) N) (h3 : vp_in (i + (3 : Int32)) N) (h4 : vp_in (i + (4 : Int32)) N) (hf : cells + 2 ≤ room_1.cells ∧ slots + 12 ≤ room_1.slots) (hT : T_order_C z (xs (i + (1 : Int32)).toNatClampNeg) = some (k, z1)) (hM : M_order y (xs (i + (1 : Int32)).toNatClampNeg) = some (q, y1)) (K : ∀ (H1 : Heap) (locs1 : List Loc) (ls1 : Array Slot), va_P (dC, dI) CL (WC a z1 ++ WM d y1) H1 → va_D A (WC a z1 ++ WM d y1) → va_S A s.heap H1 locs1 → lv_has ls1 7 [(0, .ref b), (1, .ref a.tr), (2, .ref d.mo), (3, .ref a.out), (4, .int i)] → W p l e room_1 s m args below meth c H1 locs1 (cells + 1) (slots + 6) Q (F0 m 723 ls1 [])) : W p l e room_1 s m args below meth c H locs cells slots Q (F0 m 440 ls []) := by
  obtain ⟨hx, hb, hml, hown, hB, hnw, hxw, hxn, hst, hA, hAn, hlt, hX, hbl⟩ := id C0
  obtain ⟨hf1, hf2⟩ := hf
  refine lv_aload_n hx hb d_Law_law_440 rfl (lv_at hl 1 rfl) ?_
  refine lv_aload_n hx hb d_Law_law_441 rfl (lv_at hl 0 rfl) ?_
  refine lv_iload hx hb d_Law_law_442 (lv_at hl 4 rfl) ?_
  refine lv_iconst (v := 1) hx hb d_Law_law_444 (by decide) ?_
  refine lv_iadd hx hb d_Law_law_445 ?_
  refine va_sld hx hb hX hbl (hAn _ hbl) hS h1 d_Law_law_446 ?_
  refine lv_aload_n hx hb d_Law_law_447 rfl (lv_at hl 3 rfl) ?_
  refine kT_order_C C0 hK hP hD hS hl.1 hT d_Law_law_448 ⟨by omega, by omega⟩ (fun H locs hP hD hS => ?_)
  refine lv_istore (lv' := [(5, .int k), (0, .ref b), (1, .ref a.tr), (2, .ref d.mo), (3, .ref a.out), (4, .int i)]) hx hb d_Law_law_451 hl (by decide) rfl (fun ls hl => ?_)
  refine lv_aload_n hx hb d_Law_law_453 rfl (lv_at hl 3 rfl) ?_
  refine lv_aload_n hx hb d_Law_law_454 rfl (lv_at hl 1 rfl) ?_
  refine lv_iload hx hb d_Law_law_455 (lv_at hl 5 rfl) ?_
  refine lv_iconst (v := 1) hx hb d_Law_law_457 (by decide) ?_
  refine lv_iadd hx hb d_Law_law_458 ?_
  refine va_sld hx hb hX hbl (hAn _ hbl) hS h1 d_Law_law_459 ?_
  refine kM_order C0 hKM (va_P_c hP) (va_D_c hD) hS hl.1 hM d_Law_law_460 ⟨by omega, by omega⟩ (fun H locs hP hD hS => ?_)
  have hP := va_P_c hP
  have hD := va_D_c hD
  refine lv_istore (lv' := [(6, .int q), (5, .int k), (0, .ref b), (1, .ref a.tr), (2, .ref d.mo), (3, .ref a.out), (4, .int i)]) hx hb d_Law_law_463 hl (by decide) rfl (fun ls hl => ?_)
  refine lv_goto (tgt := 723) hx hb d_Law_law_465 (by decide) ?_
  exact K _ _ _ hP hD hS (lv_sub hl [2, 3, 4, 5, 6] rfl)
set_option maxHeartbeats 4000000 in
set_option maxRecDepth 100000 in
theorem kc_compose_C {p : Program} {l : Launch} {e : Env} {s : State} {m : MethodId} {args : Array Value} {below : List Frame} {meth : Method} {c : Code} {H : Heap} {locs : List Loc} {cells slots : Nat} {Q : State → Prop} {A : Nat → Prop} {b N : Nat} {xs : Nat → Int32} {dC : Nat → ClassId} {dI : Nat → Nat → Nat} {a : TA} {z z1 : TS} {d : MA} {y y1 : MS} {i : Int32} {ls : Array Slot} {k : Int32} {q : Int32} (C0 : LX p l s m c args A b N xs) (hK : va_K (dC, dI) CL (KC a) s) (hKM : va_K (dC, dI) CL (KM d) s) (hP : va_P (dC, dI) CL (WC a z ++ WM d y) H) (hD : va_D A (WC a z ++ WM d y)) (hS : va_S A s.heap H locs) (hl : lv_has ls 7 [(0, .ref b), (1, .ref a.tr), (2, .ref d.mo), (3, .ref a.out), (4, .int i)]) (h1 : vp_in (i + (1 : Int32)) N) (h2 : vp_in (i + (2 : Int32)) N) (h3 : vp_in (i + (3 : Int32)) N) (h4 : vp_in (i + (4 : Int32)) N) (hf : cells + 2 ≤ room_1.cells ∧ slots + 12 ≤ room_1.slots) (hT : T_compose z  = some (k, z1)) (hM : M_compose y  = some (q, y1)) (K : ∀ (H1 : Heap) (locs1 : List Loc) (ls1 : Array Slot), va_P (dC, dI) CL (WC a z1 ++ WM d y1) H1 → va_D A (WC a z1 ++ WM d y1) → va_S A s.heap H1 locs1 → lv_has ls1 7 [(0, .ref b), (1, .ref a.tr), (2, .ref d.mo), (3, .ref a.out), (4, .int i)] → W p l e room_1 s m args below meth c H1 locs1 (cells + 1) (slots + 6) Q (F0 m 723 ls1 [])) : W p l e room_1 s m args below meth c H locs cells slots Q (F0 m 468 ls []) := by
  obtain ⟨hx, hb, hml, hown, hB, hnw, hxw, hxn, hst, hA, hAn, hlt, hX, hbl⟩ := id C0
  obtain ⟨hf1, hf2⟩ := hf
  refine lv_aload_n hx hb d_Law_law_468 rfl (lv_at hl 1 rfl) ?_
  refine kT_compose_C C0 hK hP hD hS hl.1 hT d_Law_law_469 ⟨by omega, by omega⟩ (fun H locs hP hD hS => ?_)
  refine lv_pop hx hb d_Law_law_472 rfl ?_
  refine lv_aload_n hx hb d_Law_law_473 rfl (lv_at hl 2 rfl) ?_
  refine kM_compose C0 hKM (va_P_c hP) (va_D_c hD) hS hl.1 hM d_Law_law_474 ⟨by omega, by omega⟩ (fun H locs hP hD hS => ?_)
  have hP := va_P_c hP
  have hD := va_D_c hD
  refine lv_pop hx hb d_Law_law_477 rfl ?_
  refine lv_goto (tgt := 723) hx hb d_Law_law_478 (by decide) ?_
  refine W.widen (k := cells + 1) (n := slots + 6) (by omega) (by omega) ?_
  exact K _ _ _ hP hD hS (lv_sub hl [0, 1, 2, 3, 4] rfl)
set_option maxHeartbeats 4000000 in
set_option maxRecDepth 100000 in
theorem kc_at_C {p : Program} {l : Launch} {e : Env} {s : State} {m : MethodId} {args : Array Value} {below : List Frame} {meth : Method} {c : Code} {H : Heap} {locs : List Loc} {cells slots : Nat} {Q : State → Prop} {A : Nat → Prop} {b N : Nat} {xs : Nat → Int32} {dC : Nat → ClassId} {dI : Nat → Nat → Nat} {a : TA} {z z1 : TS} {d : MA} {y y1 : MS} {i : Int32} {ls : Array Slot} {k : Int32} {q : Int32} (C0 : LX p l s m c args A b N xs) (hK : va_K (dC, dI) CL (KC a) s) (hKM : va_K (dC, dI) CL (KM d) s) (hP : va_P (dC, dI) CL (WC a z ++ WM d y) H) (hD : va_D A (WC a z ++ WM d y)) (hS : va_S A s.heap H locs) (hl : lv_has ls 7 [(0, .ref b), (1, .ref a.tr), (2, .ref d.mo), (3, .ref a.out), (4, .int i)]) (h1 : vp_in (i + (1 : Int32)) N) (h2 : vp_in (i + (2 : Int32)) N) (h3 : vp_in (i + (3 : Int32)) N) (h4 : vp_in (i + (4 : Int32)) N) (hf : cells + 2 ≤ room_1.cells ∧ slots + 12 ≤ room_1.slots) (hT : T_at z (xs (i + (1 : Int32)).toNatClampNeg) (xs (i + (2 : Int32)).toNatClampNeg) = some (k, z1)) (hM : M_at y (xs (i + (1 : Int32)).toNatClampNeg) (xs (i + (2 : Int32)).toNatClampNeg) = some (q, y1)) (K : ∀ (H1 : Heap) (locs1 : List Loc) (ls1 : Array Slot), va_P (dC, dI) CL (WC a z1 ++ WM d y1) H1 → va_D A (WC a z1 ++ WM d y1) → va_S A s.heap H1 locs1 → lv_has ls1 7 [(0, .ref b), (1, .ref a.tr), (2, .ref d.mo), (3, .ref a.out), (4, .int i)] → W p l e room_1 s m args below meth c H1 locs1 (cells + 1) (slots + 6) Q (F0 m 723 ls1 [])) : W p l e room_1 s m args below meth c H locs cells slots Q (F0 m 481 ls []) := by
  obtain ⟨hx, hb, hml, hown, hB, hnw, hxw, hxn, hst, hA, hAn, hlt, hX, hbl⟩ := id C0
  obtain ⟨hf1, hf2⟩ := hf
  refine lv_aload_n hx hb d_Law_law_481 rfl (lv_at hl 1 rfl) ?_
  refine lv_aload_n hx hb d_Law_law_482 rfl (lv_at hl 0 rfl) ?_
  refine lv_iload hx hb d_Law_law_483 (lv_at hl 4 rfl) ?_
  refine lv_iconst (v := 1) hx hb d_Law_law_485 (by decide) ?_
  refine lv_iadd hx hb d_Law_law_486 ?_
  refine va_sld hx hb hX hbl (hAn _ hbl) hS h1 d_Law_law_487 ?_
  refine lv_aload_n hx hb d_Law_law_488 rfl (lv_at hl 0 rfl) ?_
  refine lv_iload hx hb d_Law_law_489 (lv_at hl 4 rfl) ?_
  refine lv_iconst (v := 2) hx hb d_Law_law_491 (by decide) ?_
  refine lv_iadd hx hb d_Law_law_492 ?_
  refine va_sld hx hb hX hbl (hAn _ hbl) hS h2 d_Law_law_493 ?_
  refine lv_aload_n hx hb d_Law_law_494 rfl (lv_at hl 3 rfl) ?_
  refine kT_at_C C0 hK hP hD hS hl.1 hT d_Law_law_495 ⟨by omega, by omega⟩ (fun H locs hP hD hS => ?_)
  refine lv_istore (lv' := [(5, .int k), (0, .ref b), (1, .ref a.tr), (2, .ref d.mo), (3, .ref a.out), (4, .int i)]) hx hb d_Law_law_498 hl (by decide) rfl (fun ls hl => ?_)
  refine lv_aload_n hx hb d_Law_law_500 rfl (lv_at hl 3 rfl) ?_
  refine lv_aload_n hx hb d_Law_law_501 rfl (lv_at hl 1 rfl) ?_
  refine lv_iload hx hb d_Law_law_502 (lv_at hl 5 rfl) ?_
  refine lv_iconst (v := 1) hx hb d_Law_law_504 (by decide) ?_
  refine lv_iadd hx hb d_Law_law_505 ?_
  refine va_sld hx hb hX hbl (hAn _ hbl) hS h1 d_Law_law_506 ?_
  refine lv_aload_n hx hb d_Law_law_507 rfl (lv_at hl 1 rfl) ?_
  refine lv_iload hx hb d_Law_law_508 (lv_at hl 5 rfl) ?_
  refine lv_iconst (v := 2) hx hb d_Law_law_510 (by decide) ?_
  refine lv_iadd hx hb d_Law_law_511 ?_
  refine va_sld hx hb hX hbl (hAn _ hbl) hS h2 d_Law_law_512 ?_
  refine kM_at C0 hKM (va_P_c hP) (va_D_c hD) hS hl.1 hM d_Law_law_513 ⟨by omega, by omega⟩ (fun H locs hP hD hS => ?_)
  have hP := va_P_c hP
  have hD := va_D_c hD
  refine lv_istore (lv' := [(6, .int q), (5, .int k), (0, .ref b), (1, .ref a.tr), (2, .ref d.mo), (3, .ref a.out), (4, .int i)]) hx hb d_Law_law_516 hl (by decide) rfl (fun ls hl => ?_)
  refine lv_goto (tgt := 723) hx hb d_Law_law_518 (by decide) ?_
  exact K _ _ _ hP hD hS (lv_sub hl [2, 3, 4, 5, 6] rfl)
set_option maxHeartbeats 4000000 in
set_option maxRecDepth 100000 in
theorem kc_write_C {p : Program} {l : Launch} {e : Env} {s : State} {m : MethodId} {args : Array Value} {below : List Frame} {meth : Method} {c : Code} {H : Heap} {locs : List Loc} {cells slots : Nat} {Q : State → Prop} {A : Nat → Prop} {b N : Nat} {xs : Nat → Int32} {dC : Nat → ClassId} {dI : Nat → Nat → Nat} {a : TA} {z z1 : TS} {d : MA} {y y1 : MS} {i : Int32} {ls : Array Slot} {k : Int32} {q : Int32} (C0 : LX p l s m c args A b N xs) (hK : va_K (dC, dI) CL (KC a) s) (hKM : va_K (dC, dI) CL (KM d) s) (hP : va_P (dC, dI) CL (WC a z ++ WM d y) H) (hD : va_D A (WC a z ++ WM d y)) (hS : va_S A s.heap H locs) (hl : lv_has ls 7 [(0, .ref b), (1, .ref a.tr), (2, .ref d.mo), (3, .ref a.out), (4, .int i)]) (h1 : vp_in (i + (1 : Int32)) N) (h2 : vp_in (i + (2 : Int32)) N) (h3 : vp_in (i + (3 : Int32)) N) (h4 : vp_in (i + (4 : Int32)) N) (hf : cells + 2 ≤ room_1.cells ∧ slots + 12 ≤ room_1.slots) (hT : T_write_C z  = some (k, z1)) (hM : M_write y  = some (q, y1)) (K : ∀ (H1 : Heap) (locs1 : List Loc) (ls1 : Array Slot), va_P (dC, dI) CL (WC a z1 ++ WM d y1) H1 → va_D A (WC a z1 ++ WM d y1) → va_S A s.heap H1 locs1 → lv_has ls1 7 [(0, .ref b), (1, .ref a.tr), (2, .ref d.mo), (3, .ref a.out), (4, .int i)] → W p l e room_1 s m args below meth c H1 locs1 (cells + 1) (slots + 6) Q (F0 m 723 ls1 [])) : W p l e room_1 s m args below meth c H locs cells slots Q (F0 m 521 ls []) := by
  obtain ⟨hx, hb, hml, hown, hB, hnw, hxw, hxn, hst, hA, hAn, hlt, hX, hbl⟩ := id C0
  obtain ⟨hf1, hf2⟩ := hf
  refine lv_aload_n hx hb d_Law_law_521 rfl (lv_at hl 1 rfl) ?_
  refine kT_write_C C0 hK hP hD hS hl.1 hT d_Law_law_522 ⟨by omega, by omega⟩ (fun H locs hP hD hS => ?_)
  refine lv_pop hx hb d_Law_law_525 rfl ?_
  refine lv_aload_n hx hb d_Law_law_526 rfl (lv_at hl 2 rfl) ?_
  refine kM_write C0 hKM (va_P_c hP) (va_D_c hD) hS hl.1 hM d_Law_law_527 ⟨by omega, by omega⟩ (fun H locs hP hD hS => ?_)
  have hP := va_P_c hP
  have hD := va_D_c hD
  refine lv_pop hx hb d_Law_law_530 rfl ?_
  refine lv_goto (tgt := 723) hx hb d_Law_law_531 (by decide) ?_
  refine W.widen (k := cells + 1) (n := slots + 6) (by omega) (by omega) ?_
  exact K _ _ _ hP hD hS (lv_sub hl [0, 1, 2, 3, 4] rfl)
set_option maxHeartbeats 4000000 in
set_option maxRecDepth 100000 in
theorem kc_byteAt_C {p : Program} {l : Launch} {e : Env} {s : State} {m : MethodId} {args : Array Value} {below : List Frame} {meth : Method} {c : Code} {H : Heap} {locs : List Loc} {cells slots : Nat} {Q : State → Prop} {A : Nat → Prop} {b N : Nat} {xs : Nat → Int32} {dC : Nat → ClassId} {dI : Nat → Nat → Nat} {a : TA} {z z1 : TS} {d : MA} {y y1 : MS} {i : Int32} {ls : Array Slot} {k : Int32} {q : Int32} (C0 : LX p l s m c args A b N xs) (hK : va_K (dC, dI) CL (KC a) s) (hKM : va_K (dC, dI) CL (KM d) s) (hP : va_P (dC, dI) CL (WC a z ++ WM d y) H) (hD : va_D A (WC a z ++ WM d y)) (hS : va_S A s.heap H locs) (hl : lv_has ls 7 [(0, .ref b), (1, .ref a.tr), (2, .ref d.mo), (3, .ref a.out), (4, .int i)]) (h1 : vp_in (i + (1 : Int32)) N) (h2 : vp_in (i + (2 : Int32)) N) (h3 : vp_in (i + (3 : Int32)) N) (h4 : vp_in (i + (4 : Int32)) N) (hf : cells + 2 ≤ room_1.cells ∧ slots + 12 ≤ room_1.slots) (hT : T_byteAt z (xs (i + (1 : Int32)).toNatClampNeg) = some (k, z1)) (hM : M_byteAt y (xs (i + (1 : Int32)).toNatClampNeg) = some (q, y1)) (K : ∀ (H1 : Heap) (locs1 : List Loc) (ls1 : Array Slot), va_P (dC, dI) CL (WC a z1 ++ WM d y1) H1 → va_D A (WC a z1 ++ WM d y1) → va_S A s.heap H1 locs1 → lv_has ls1 7 [(0, .ref b), (1, .ref a.tr), (2, .ref d.mo), (3, .ref a.out), (4, .int i)] → W p l e room_1 s m args below meth c H1 locs1 (cells + 1) (slots + 6) Q (F0 m 723 ls1 [])) : W p l e room_1 s m args below meth c H locs cells slots Q (F0 m 534 ls []) := by
  obtain ⟨hx, hb, hml, hown, hB, hnw, hxw, hxn, hst, hA, hAn, hlt, hX, hbl⟩ := id C0
  obtain ⟨hf1, hf2⟩ := hf
  refine lv_aload_n hx hb d_Law_law_534 rfl (lv_at hl 1 rfl) ?_
  refine lv_aload_n hx hb d_Law_law_535 rfl (lv_at hl 0 rfl) ?_
  refine lv_iload hx hb d_Law_law_536 (lv_at hl 4 rfl) ?_
  refine lv_iconst (v := 1) hx hb d_Law_law_538 (by decide) ?_
  refine lv_iadd hx hb d_Law_law_539 ?_
  refine va_sld hx hb hX hbl (hAn _ hbl) hS h1 d_Law_law_540 ?_
  refine lv_aload_n hx hb d_Law_law_541 rfl (lv_at hl 3 rfl) ?_
  refine kT_byteAt_C C0 hK hP hD hS hl.1 hT d_Law_law_542 ⟨by omega, by omega⟩ (fun H locs hP hD hS => ?_)
  refine lv_istore (lv' := [(5, .int k), (0, .ref b), (1, .ref a.tr), (2, .ref d.mo), (3, .ref a.out), (4, .int i)]) hx hb d_Law_law_545 hl (by decide) rfl (fun ls hl => ?_)
  refine lv_aload_n hx hb d_Law_law_547 rfl (lv_at hl 3 rfl) ?_
  refine lv_aload_n hx hb d_Law_law_548 rfl (lv_at hl 1 rfl) ?_
  refine lv_iload hx hb d_Law_law_549 (lv_at hl 5 rfl) ?_
  refine lv_iconst (v := 1) hx hb d_Law_law_551 (by decide) ?_
  refine lv_iadd hx hb d_Law_law_552 ?_
  refine va_sld hx hb hX hbl (hAn _ hbl) hS h1 d_Law_law_553 ?_
  refine kM_byteAt C0 hKM (va_P_c hP) (va_D_c hD) hS hl.1 hM d_Law_law_554 ⟨by omega, by omega⟩ (fun H locs hP hD hS => ?_)
  have hP := va_P_c hP
  have hD := va_D_c hD
  refine lv_istore (lv' := [(6, .int q), (5, .int k), (0, .ref b), (1, .ref a.tr), (2, .ref d.mo), (3, .ref a.out), (4, .int i)]) hx hb d_Law_law_557 hl (by decide) rfl (fun ls hl => ?_)
  refine lv_goto (tgt := 723) hx hb d_Law_law_559 (by decide) ?_
  exact K _ _ _ hP hD hS (lv_sub hl [2, 3, 4, 5, 6] rfl)
set_option maxHeartbeats 4000000 in
set_option maxRecDepth 100000 in
theorem kc_feed_C {p : Program} {l : Launch} {e : Env} {s : State} {m : MethodId} {args : Array Value} {below : List Frame} {meth : Method} {c : Code} {H : Heap} {locs : List Loc} {cells slots : Nat} {Q : State → Prop} {A : Nat → Prop} {b N : Nat} {xs : Nat → Int32} {dC : Nat → ClassId} {dI : Nat → Nat → Nat} {a : TA} {z z1 : TS} {d : MA} {y y1 : MS} {i : Int32} {ls : Array Slot} {k : Int32} {q : Int32} (C0 : LX p l s m c args A b N xs) (hK : va_K (dC, dI) CL (KC a) s) (hKM : va_K (dC, dI) CL (KM d) s) (hP : va_P (dC, dI) CL (WC a z ++ WM d y) H) (hD : va_D A (WC a z ++ WM d y)) (hS : va_S A s.heap H locs) (hl : lv_has ls 7 [(0, .ref b), (1, .ref a.tr), (2, .ref d.mo), (3, .ref a.out), (4, .int i)]) (h1 : vp_in (i + (1 : Int32)) N) (h2 : vp_in (i + (2 : Int32)) N) (h3 : vp_in (i + (3 : Int32)) N) (h4 : vp_in (i + (4 : Int32)) N) (hf : cells + 2 ≤ room_1.cells ∧ slots + 12 ≤ room_1.slots) (hT : T_feed z (xs (i + (1 : Int32)).toNatClampNeg) = some (k, z1)) (hM : M_feed y (xs (i + (1 : Int32)).toNatClampNeg) = some (q, y1)) (K : ∀ (H1 : Heap) (locs1 : List Loc) (ls1 : Array Slot), va_P (dC, dI) CL (WC a z1 ++ WM d y1) H1 → va_D A (WC a z1 ++ WM d y1) → va_S A s.heap H1 locs1 → lv_has ls1 7 [(0, .ref b), (1, .ref a.tr), (2, .ref d.mo), (3, .ref a.out), (4, .int i)] → W p l e room_1 s m args below meth c H1 locs1 (cells + 1) (slots + 6) Q (F0 m 723 ls1 [])) : W p l e room_1 s m args below meth c H locs cells slots Q (F0 m 562 ls []) := by
  obtain ⟨hx, hb, hml, hown, hB, hnw, hxw, hxn, hst, hA, hAn, hlt, hX, hbl⟩ := id C0
  obtain ⟨hf1, hf2⟩ := hf
  refine lv_aload_n hx hb d_Law_law_562 rfl (lv_at hl 1 rfl) ?_
  refine lv_aload_n hx hb d_Law_law_563 rfl (lv_at hl 0 rfl) ?_
  refine lv_iload hx hb d_Law_law_564 (lv_at hl 4 rfl) ?_
  refine lv_iconst (v := 1) hx hb d_Law_law_566 (by decide) ?_
  refine lv_iadd hx hb d_Law_law_567 ?_
  refine va_sld hx hb hX hbl (hAn _ hbl) hS h1 d_Law_law_568 ?_
  refine lv_aload_n hx hb d_Law_law_569 rfl (lv_at hl 3 rfl) ?_
  refine kT_feed_C C0 hK hP hD hS hl.1 hT d_Law_law_570 ⟨by omega, by omega⟩ (fun H locs hP hD hS => ?_)
  refine lv_istore (lv' := [(5, .int k), (0, .ref b), (1, .ref a.tr), (2, .ref d.mo), (3, .ref a.out), (4, .int i)]) hx hb d_Law_law_573 hl (by decide) rfl (fun ls hl => ?_)
  refine lv_aload_n hx hb d_Law_law_575 rfl (lv_at hl 3 rfl) ?_
  refine lv_aload_n hx hb d_Law_law_576 rfl (lv_at hl 1 rfl) ?_
  refine lv_iload hx hb d_Law_law_577 (lv_at hl 5 rfl) ?_
  refine lv_iconst (v := 1) hx hb d_Law_law_579 (by decide) ?_
  refine lv_iadd hx hb d_Law_law_580 ?_
  refine va_sld hx hb hX hbl (hAn _ hbl) hS h1 d_Law_law_581 ?_
  refine kM_feed C0 hKM (va_P_c hP) (va_D_c hD) hS hl.1 hM d_Law_law_582 ⟨by omega, by omega⟩ (fun H locs hP hD hS => ?_)
  have hP := va_P_c hP
  have hD := va_D_c hD
  refine lv_istore (lv' := [(6, .int q), (5, .int k), (0, .ref b), (1, .ref a.tr), (2, .ref d.mo), (3, .ref a.out), (4, .int i)]) hx hb d_Law_law_585 hl (by decide) rfl (fun ls hl => ?_)
  refine lv_goto (tgt := 723) hx hb d_Law_law_587 (by decide) ?_
  exact K _ _ _ hP hD hS (lv_sub hl [2, 3, 4, 5, 6] rfl)
set_option maxHeartbeats 4000000 in
set_option maxRecDepth 100000 in
theorem kc_pass_C {p : Program} {l : Launch} {e : Env} {s : State} {m : MethodId} {args : Array Value} {below : List Frame} {meth : Method} {c : Code} {H : Heap} {locs : List Loc} {cells slots : Nat} {Q : State → Prop} {A : Nat → Prop} {b N : Nat} {xs : Nat → Int32} {dC : Nat → ClassId} {dI : Nat → Nat → Nat} {a : TA} {z z1 : TS} {d : MA} {y y1 : MS} {i : Int32} {ls : Array Slot} {k : Int32} {q : Int32} (C0 : LX p l s m c args A b N xs) (hK : va_K (dC, dI) CL (KC a) s) (hKM : va_K (dC, dI) CL (KM d) s) (hP : va_P (dC, dI) CL (WC a z ++ WM d y) H) (hD : va_D A (WC a z ++ WM d y)) (hS : va_S A s.heap H locs) (hl : lv_has ls 7 [(0, .ref b), (1, .ref a.tr), (2, .ref d.mo), (3, .ref a.out), (4, .int i)]) (h1 : vp_in (i + (1 : Int32)) N) (h2 : vp_in (i + (2 : Int32)) N) (h3 : vp_in (i + (3 : Int32)) N) (h4 : vp_in (i + (4 : Int32)) N) (hf : cells + 2 ≤ room_1.cells ∧ slots + 12 ≤ room_1.slots) (hT : T_pass z  = some (k, z1)) (hM : M_pass y  = some (q, y1)) (K : ∀ (H1 : Heap) (locs1 : List Loc) (ls1 : Array Slot), va_P (dC, dI) CL (WC a z1 ++ WM d y1) H1 → va_D A (WC a z1 ++ WM d y1) → va_S A s.heap H1 locs1 → lv_has ls1 7 [(0, .ref b), (1, .ref a.tr), (2, .ref d.mo), (3, .ref a.out), (4, .int i)] → W p l e room_1 s m args below meth c H1 locs1 (cells + 1) (slots + 6) Q (F0 m 723 ls1 [])) : W p l e room_1 s m args below meth c H locs cells slots Q (F0 m 590 ls []) := by
  obtain ⟨hx, hb, hml, hown, hB, hnw, hxw, hxn, hst, hA, hAn, hlt, hX, hbl⟩ := id C0
  obtain ⟨hf1, hf2⟩ := hf
  refine lv_aload_n hx hb d_Law_law_590 rfl (lv_at hl 1 rfl) ?_
  refine lv_aload_n hx hb d_Law_law_591 rfl (lv_at hl 3 rfl) ?_
  refine kT_pass_C C0 hK hP hD hS hl.1 hT d_Law_law_592 ⟨by omega, by omega⟩ (fun H locs hP hD hS => ?_)
  refine lv_istore (lv' := [(5, .int k), (0, .ref b), (1, .ref a.tr), (2, .ref d.mo), (3, .ref a.out), (4, .int i)]) hx hb d_Law_law_595 hl (by decide) rfl (fun ls hl => ?_)
  refine lv_aload_n hx hb d_Law_law_597 rfl (lv_at hl 3 rfl) ?_
  refine kM_pass C0 hKM (va_P_c hP) (va_D_c hD) hS hl.1 hM d_Law_law_598 ⟨by omega, by omega⟩ (fun H locs hP hD hS => ?_)
  have hP := va_P_c hP
  have hD := va_D_c hD
  refine lv_istore (lv' := [(6, .int q), (5, .int k), (0, .ref b), (1, .ref a.tr), (2, .ref d.mo), (3, .ref a.out), (4, .int i)]) hx hb d_Law_law_601 hl (by decide) rfl (fun ls hl => ?_)
  refine lv_goto (tgt := 723) hx hb d_Law_law_603 (by decide) ?_
  exact K _ _ _ hP hD hS (lv_sub hl [2, 3, 4, 5, 6] rfl)
set_option maxHeartbeats 4000000 in
set_option maxRecDepth 100000 in
theorem kc_read_C {p : Program} {l : Launch} {e : Env} {s : State} {m : MethodId} {args : Array Value} {below : List Frame} {meth : Method} {c : Code} {H : Heap} {locs : List Loc} {cells slots : Nat} {Q : State → Prop} {A : Nat → Prop} {b N : Nat} {xs : Nat → Int32} {dC : Nat → ClassId} {dI : Nat → Nat → Nat} {a : TA} {z z1 : TS} {d : MA} {y y1 : MS} {i : Int32} {ls : Array Slot} {k : Int32} {sw : Nat} {q : Int32} (C0 : LX p l s m c args A b N xs) (hK : va_K (dC, dI) CL (KC a) s) (hKM : va_K (dC, dI) CL (KM d) s) (hP : va_P (dC, dI) CL (WC a z ++ WM d y) H) (hD : va_D A (WC a z ++ WM d y)) (hS : va_S A s.heap H locs) (hl : lv_has ls 7 [(0, .ref b), (1, .ref a.tr), (2, .ref d.mo), (3, .ref a.out), (4, .int i)]) (h1 : vp_in (i + (1 : Int32)) N) (h2 : vp_in (i + (2 : Int32)) N) (h3 : vp_in (i + (3 : Int32)) N) (h4 : vp_in (i + (4 : Int32)) N) (hf : cells + 2 ≤ room_1.cells ∧ slots + 12 ≤ room_1.slots) (hT : T_read_C z = some (k, sw, z1)) (hM : M_read y  = some (q, y1)) (K : ∀ (a1 : TA) (z2 : TS) (H1 : Heap) (locs1 : List Loc) (ls1 : Array Slot), ((a1 = a ∧ z2 = z1 ∧ sw = 0) ∨ (a1 = a.swap ∧ z2 = z1.swap ∧ sw = 1)) → va_K (dC, dI) CL (KC a1) s → va_P (dC, dI) CL (WC a1 z2 ++ WM d y1) H1 → va_D A (WC a1 z2 ++ WM d y1) → va_S A s.heap H1 locs1 → lv_has ls1 7 [(0, .ref b), (1, .ref a1.tr), (2, .ref d.mo), (3, .ref a1.out), (4, .int i)] → W p l e room_1 s m args below meth c H1 locs1 (cells + 1) (slots + 6) Q (F0 m 723 ls1 [])) : W p l e room_1 s m args below meth c H locs cells slots Q (F0 m 606 ls []) := by
  obtain ⟨hx, hb, hml, hown, hB, hnw, hxw, hxn, hst, hA, hAn, hlt, hX, hbl⟩ := id C0
  obtain ⟨hf1, hf2⟩ := hf
  refine lv_aload_n hx hb d_Law_law_606 rfl (lv_at hl 1 rfl) ?_
  refine kT_read_C C0 hK hP hD hS hl.1 hT d_Law_law_607 ⟨by omega, by omega⟩ (fun a1 z2 H locs hrel hK hP hD hS => ?_)
  refine lv_pop hx hb d_Law_law_610 rfl ?_
  refine lv_aload_n hx hb d_Law_law_611 rfl (lv_at hl 2 rfl) ?_
  refine kM_read C0 hKM (va_P_c hP) (va_D_c hD) hS hl.1 hM d_Law_law_612 ⟨by omega, by omega⟩ (fun H locs hP hD hS => ?_)
  have hP := va_P_c hP
  have hD := va_D_c hD
  refine lv_pop hx hb d_Law_law_615 rfl ?_
  refine lv_goto (tgt := 723) hx hb d_Law_law_616 (by decide) ?_
  refine W.widen (k := cells + 1) (n := slots + 6) (by omega) (by omega) ?_
  exact K _ _ _ _ _ hrel hK hP hD hS (by rcases hrel with ⟨rfl, -⟩ | ⟨rfl, -⟩ <;> exact lv_sub hl [0, 1, 2, 3, 4] rfl)
set_option maxHeartbeats 4000000 in
set_option maxRecDepth 100000 in
theorem kc_place_C {p : Program} {l : Launch} {e : Env} {s : State} {m : MethodId} {args : Array Value} {below : List Frame} {meth : Method} {c : Code} {H : Heap} {locs : List Loc} {cells slots : Nat} {Q : State → Prop} {A : Nat → Prop} {b N : Nat} {xs : Nat → Int32} {dC : Nat → ClassId} {dI : Nat → Nat → Nat} {a : TA} {z z1 : TS} {d : MA} {y y1 : MS} {i : Int32} {ls : Array Slot} {k : Int32} {q : Int32} {t : Int32} (C0 : LX p l s m c args A b N xs) (hK : va_K (dC, dI) CL (KC a) s) (hKM : va_K (dC, dI) CL (KM d) s) (hP : va_P (dC, dI) CL (WC a z ++ WM d y) H) (hD : va_D A (WC a z ++ WM d y)) (hS : va_S A s.heap H locs) (hl : lv_has ls 7 [(0, .ref b), (1, .ref a.tr), (2, .ref d.mo), (3, .ref a.out), (4, .int i)]) (h1 : vp_in (i + (1 : Int32)) N) (h2 : vp_in (i + (2 : Int32)) N) (h3 : vp_in (i + (3 : Int32)) N) (h4 : vp_in (i + (4 : Int32)) N) (hf : cells + 2 ≤ room_1.cells ∧ slots + 12 ≤ room_1.slots) (hT : T_place z (xs (i + (1 : Int32)).toNatClampNeg) (xs (i + (2 : Int32)).toNatClampNeg) = some (k, z1)) (hM : M_place y (xs (i + (1 : Int32)).toNatClampNeg) (xs (i + (2 : Int32)).toNatClampNeg) = some (q, y1)) (hth : M_thrown y1  = some t) (hc1 : t = k → k = 0 → ¬ (lg_cmp (z1.out (0 : Int32).toNatClampNeg) q.toInt64) = 0 → False) (hc2 : ¬ t = k → False) (K : ∀ (H1 : Heap) (locs1 : List Loc) (ls1 : Array Slot), va_P (dC, dI) CL (WC a z1 ++ WM d y1) H1 → va_D A (WC a z1 ++ WM d y1) → va_S A s.heap H1 locs1 → lv_has ls1 7 [(0, .ref b), (1, .ref a.tr), (2, .ref d.mo), (3, .ref a.out), (4, .int i)] → W p l e room_1 s m args below meth c H1 locs1 (cells + 1) (slots + 6) Q (F0 m 723 ls1 [])) : W p l e room_1 s m args below meth c H locs cells slots Q (F0 m 619 ls []) := by
  obtain ⟨hx, hb, hml, hown, hB, hnw, hxw, hxn, hst, hA, hAn, hlt, hX, hbl⟩ := id C0
  obtain ⟨hf1, hf2⟩ := hf
  refine lv_aload_n hx hb d_Law_law_619 rfl (lv_at hl 1 rfl) ?_
  refine lv_aload_n hx hb d_Law_law_620 rfl (lv_at hl 0 rfl) ?_
  refine lv_iload hx hb d_Law_law_621 (lv_at hl 4 rfl) ?_
  refine lv_iconst (v := 1) hx hb d_Law_law_623 (by decide) ?_
  refine lv_iadd hx hb d_Law_law_624 ?_
  refine va_sld hx hb hX hbl (hAn _ hbl) hS h1 d_Law_law_625 ?_
  refine lv_aload_n hx hb d_Law_law_626 rfl (lv_at hl 0 rfl) ?_
  refine lv_iload hx hb d_Law_law_627 (lv_at hl 4 rfl) ?_
  refine lv_iconst (v := 2) hx hb d_Law_law_629 (by decide) ?_
  refine lv_iadd hx hb d_Law_law_630 ?_
  refine va_sld hx hb hX hbl (hAn _ hbl) hS h2 d_Law_law_631 ?_
  refine lv_aload_n hx hb d_Law_law_632 rfl (lv_at hl 3 rfl) ?_
  refine kT_place_C C0 hK hP hD hS hl.1 hT d_Law_law_633 ⟨by omega, by omega⟩ (fun H locs hP hD hS => ?_)
  refine lv_istore (lv' := [(5, .int k), (0, .ref b), (1, .ref a.tr), (2, .ref d.mo), (3, .ref a.out), (4, .int i)]) hx hb d_Law_law_636 hl (by decide) rfl (fun ls hl => ?_)
  refine lv_aload_n hx hb d_Law_law_638 rfl (lv_at hl 3 rfl) ?_
  refine lv_aload_n hx hb d_Law_law_639 rfl (lv_at hl 1 rfl) ?_
  refine lv_iload hx hb d_Law_law_640 (lv_at hl 5 rfl) ?_
  refine lv_iconst (v := 1) hx hb d_Law_law_642 (by decide) ?_
  refine lv_iadd hx hb d_Law_law_643 ?_
  refine va_sld hx hb hX hbl (hAn _ hbl) hS h1 d_Law_law_644 ?_
  refine lv_aload_n hx hb d_Law_law_645 rfl (lv_at hl 1 rfl) ?_
  refine lv_iload hx hb d_Law_law_646 (lv_at hl 5 rfl) ?_
  refine lv_iconst (v := 2) hx hb d_Law_law_648 (by decide) ?_
  refine lv_iadd hx hb d_Law_law_649 ?_
  refine va_sld hx hb hX hbl (hAn _ hbl) hS h2 d_Law_law_650 ?_
  refine kM_place C0 hKM (va_P_c hP) (va_D_c hD) hS hl.1 hM d_Law_law_651 ⟨by omega, by omega⟩ (fun H locs hP hD hS => ?_)
  have hP := va_P_c hP
  have hD := va_D_c hD
  refine lv_istore (lv' := [(6, .int q), (5, .int k), (0, .ref b), (1, .ref a.tr), (2, .ref d.mo), (3, .ref a.out), (4, .int i)]) hx hb d_Law_law_654 hl (by decide) rfl (fun ls hl => ?_)
  refine lv_aload_n hx hb d_Law_law_656 rfl (lv_at hl 4 rfl) ?_
  refine kM_thrown C0 hKM (va_P_c hP) (va_D_c hD) hS hl.1 hth d_Law_law_657 ⟨by omega, by omega⟩ ?_
  refine lv_iload hx hb d_Law_law_660 (lv_at hl 1 rfl) ?_
  refine lv_icmp_eq (tgt := 667) hx hb d_Law_law_662 (by decide) (fun c_1 => ?_) (fun c_1 => ?_)
  · skip
    refine lv_iload hx hb d_Law_law_667 (lv_at hl 1 rfl) ?_
    refine lv_if_ne (tgt := 684) hx hb d_Law_law_669 (by decide) (fun c_2 => ?_) (fun c_2 => ?_)
    · skip
      refine lv_goto (tgt := 723) hx hb d_Law_law_684 (by decide) ?_
      exact K _ _ _ hP hD hS (lv_sub hl [2, 3, 4, 5, 6] rfl)
    · skip
      refine lv_aload_n hx hb d_Law_law_672 rfl (lv_at hl 5 rfl) ?_
      refine lv_iconst (v := 0) hx hb d_Law_law_673 (by decide) ?_
      refine va_lald hx hb hK (va_P_l hP) 34 22 rfl rfl (by unfold vp_in; decide) d_Law_law_674 ?_
      refine lv_iload hx hb d_Law_law_675 (lv_at hl 0 rfl) ?_
      refine lv_i2l hx hb d_Law_law_677 rfl ?_
      refine W.lcmp hx hb d_Law_law_678 ?_
      refine lv_if_eq (tgt := 684) hx hb d_Law_law_679 (by decide) (fun c_3 => ?_) (fun c_3 => ?_)
      · skip
        refine lv_goto (tgt := 723) hx hb d_Law_law_684 (by decide) ?_
        exact K _ _ _ hP hD hS (lv_sub hl [2, 3, 4, 5, 6] rfl)
      · skip
        exact (hc1 c_1 c_2 c_3).elim
  · skip
    exact (hc2 c_1).elim
set_option maxHeartbeats 4000000 in
set_option maxRecDepth 100000 in
theorem kc_told_C {p : Program} {l : Launch} {e : Env} {s : State} {m : MethodId} {args : Array Value} {below : List Frame} {meth : Method} {c : Code} {H : Heap} {locs : List Loc} {cells slots : Nat} {Q : State → Prop} {A : Nat → Prop} {b N : Nat} {xs : Nat → Int32} {dC : Nat → ClassId} {dI : Nat → Nat → Nat} {a : TA} {z z1 : TS} {d : MA} {y y1 : MS} {i : Int32} {ls : Array Slot} {k : Int32} {q : Int32} (C0 : LX p l s m c args A b N xs) (hK : va_K (dC, dI) CL (KC a) s) (hKM : va_K (dC, dI) CL (KM d) s) (hP : va_P (dC, dI) CL (WC a z ++ WM d y) H) (hD : va_D A (WC a z ++ WM d y)) (hS : va_S A s.heap H locs) (hl : lv_has ls 7 [(0, .ref b), (1, .ref a.tr), (2, .ref d.mo), (3, .ref a.out), (4, .int i)]) (h1 : vp_in (i + (1 : Int32)) N) (h2 : vp_in (i + (2 : Int32)) N) (h3 : vp_in (i + (3 : Int32)) N) (h4 : vp_in (i + (4 : Int32)) N) (hf : cells + 2 ≤ room_1.cells ∧ slots + 12 ≤ room_1.slots) (hT : T_told z (xs (i + (1 : Int32)).toNatClampNeg) = some k) (hM : M_told y (xs (i + (1 : Int32)).toNatClampNeg) = some (q, y1)) (K : ∀ (H1 : Heap) (locs1 : List Loc) (ls1 : Array Slot), va_P (dC, dI) CL (WC a z ++ WM d y1) H1 → va_D A (WC a z ++ WM d y1) → va_S A s.heap H1 locs1 → lv_has ls1 7 [(0, .ref b), (1, .ref a.tr), (2, .ref d.mo), (3, .ref a.out), (4, .int i)] → W p l e room_1 s m args below meth c H1 locs1 (cells + 1) (slots + 6) Q (F0 m 723 ls1 [])) : W p l e room_1 s m args below meth c H locs cells slots Q (F0 m 687 ls []) := by
  obtain ⟨hx, hb, hml, hown, hB, hnw, hxw, hxn, hst, hA, hAn, hlt, hX, hbl⟩ := id C0
  obtain ⟨hf1, hf2⟩ := hf
  refine lv_aload_n hx hb d_Law_law_687 rfl (lv_at hl 1 rfl) ?_
  refine lv_aload_n hx hb d_Law_law_688 rfl (lv_at hl 0 rfl) ?_
  refine lv_iload hx hb d_Law_law_689 (lv_at hl 4 rfl) ?_
  refine lv_iconst (v := 1) hx hb d_Law_law_691 (by decide) ?_
  refine lv_iadd hx hb d_Law_law_692 ?_
  refine va_sld hx hb hX hbl (hAn _ hbl) hS h1 d_Law_law_693 ?_
  refine kT_told_C C0 hK hP hD hS hl.1 hT d_Law_law_694 ⟨by omega, by omega⟩ ?_
  refine lv_pop hx hb d_Law_law_697 rfl ?_
  refine lv_aload_n hx hb d_Law_law_698 rfl (lv_at hl 2 rfl) ?_
  refine lv_aload_n hx hb d_Law_law_699 rfl (lv_at hl 0 rfl) ?_
  refine lv_iload hx hb d_Law_law_700 (lv_at hl 4 rfl) ?_
  refine lv_iconst (v := 1) hx hb d_Law_law_702 (by decide) ?_
  refine lv_iadd hx hb d_Law_law_703 ?_
  refine va_sld hx hb hX hbl (hAn _ hbl) hS h1 d_Law_law_704 ?_
  refine kM_told C0 hKM (va_P_c hP) (va_D_c hD) hS hl.1 hM d_Law_law_705 ⟨by omega, by omega⟩ (fun H locs hP hD hS => ?_)
  have hP := va_P_c hP
  have hD := va_D_c hD
  refine lv_pop hx hb d_Law_law_708 rfl ?_
  refine lv_goto (tgt := 723) hx hb d_Law_law_709 (by decide) ?_
  refine W.widen (k := cells + 1) (n := slots + 6) (by omega) (by omega) ?_
  exact K _ _ _ hP hD hS (lv_sub hl [0, 1, 2, 3, 4] rfl)
set_option maxHeartbeats 4000000 in
set_option maxRecDepth 100000 in
theorem kc_clear_C {p : Program} {l : Launch} {e : Env} {s : State} {m : MethodId} {args : Array Value} {below : List Frame} {meth : Method} {c : Code} {H : Heap} {locs : List Loc} {cells slots : Nat} {Q : State → Prop} {A : Nat → Prop} {b N : Nat} {xs : Nat → Int32} {dC : Nat → ClassId} {dI : Nat → Nat → Nat} {a : TA} {z z1 : TS} {d : MA} {y y1 : MS} {i : Int32} {ls : Array Slot}  (C0 : LX p l s m c args A b N xs) (hK : va_K (dC, dI) CL (KC a) s) (hKM : va_K (dC, dI) CL (KM d) s) (hP : va_P (dC, dI) CL (WC a z ++ WM d y) H) (hD : va_D A (WC a z ++ WM d y)) (hS : va_S A s.heap H locs) (hl : lv_has ls 7 [(0, .ref b), (1, .ref a.tr), (2, .ref d.mo), (3, .ref a.out), (4, .int i)]) (h1 : vp_in (i + (1 : Int32)) N) (h2 : vp_in (i + (2 : Int32)) N) (h3 : vp_in (i + (3 : Int32)) N) (h4 : vp_in (i + (4 : Int32)) N) (hf : cells + 2 ≤ room_1.cells ∧ slots + 12 ≤ room_1.slots) (hT : T_clear z  = some z1) (hM : M_clear y  = some y1) (K : ∀ (H1 : Heap) (locs1 : List Loc) (ls1 : Array Slot), va_P (dC, dI) CL (WC a z1 ++ WM d y1) H1 → va_D A (WC a z1 ++ WM d y1) → va_S A s.heap H1 locs1 → lv_has ls1 7 [(0, .ref b), (1, .ref a.tr), (2, .ref d.mo), (3, .ref a.out), (4, .int i)] → W p l e room_1 s m args below meth c H1 locs1 (cells + 1) (slots + 6) Q (F0 m 723 ls1 [])) : W p l e room_1 s m args below meth c H locs cells slots Q (F0 m 712 ls []) := by
  obtain ⟨hx, hb, hml, hown, hB, hnw, hxw, hxn, hst, hA, hAn, hlt, hX, hbl⟩ := id C0
  obtain ⟨hf1, hf2⟩ := hf
  refine lv_aload_n hx hb d_Law_law_712 rfl (lv_at hl 1 rfl) ?_
  refine kT_clear_C C0 hK hP hD hS hl.1 hT d_Law_law_713 ⟨by omega, by omega⟩ (fun H locs hP hD hS => ?_)
  refine lv_aload_n hx hb d_Law_law_716 rfl (lv_at hl 2 rfl) ?_
  refine kM_clear C0 hKM (va_P_c hP) (va_D_c hD) hS hl.1 hM d_Law_law_717 ⟨by omega, by omega⟩ (fun H locs hP hD hS => ?_)
  have hP := va_P_c hP
  have hD := va_D_c hD
  refine lv_goto (tgt := 723) hx hb d_Law_law_720 (by decide) ?_
  refine W.widen (k := cells + 1) (n := slots + 6) (by omega) (by omega) ?_
  exact K _ _ _ hP hD hS (lv_sub hl [0, 1, 2, 3, 4] rfl)
set_option maxHeartbeats 4000000 in
set_option maxRecDepth 100000 in
theorem kc_symbol_F {p : Program} {l : Launch} {e : Env} {s : State} {m : MethodId} {args : Array Value} {below : List Frame} {meth : Method} {c : Code} {H : Heap} {locs : List Loc} {cells slots : Nat} {Q : State → Prop} {A : Nat → Prop} {b N : Nat} {xs : Nat → Int32} {dC : Nat → ClassId} {dI : Nat → Nat → Nat} {a : TA} {z z1 : TS} {d : MA} {y y1 : MS} {i : Int32} {ls : Array Slot} {k : Int32} {q : Int32} (C0 : LX p l s m c args A b N xs) (hK : va_K (dC, dI) CL (KF a) s) (hKM : va_K (dC, dI) CL (KM d) s) (hP : va_P (dC, dI) CL (WF a z ++ WM d y) H) (hD : va_D A (WF a z ++ WM d y)) (hS : va_S A s.heap H locs) (hl : lv_has ls 7 [(0, .ref b), (1, .ref a.tr), (2, .ref d.mo), (3, .ref a.out), (4, .int i)]) (h1 : vp_in (i + (1 : Int32)) N) (h2 : vp_in (i + (2 : Int32)) N) (h3 : vp_in (i + (3 : Int32)) N) (h4 : vp_in (i + (4 : Int32)) N) (hf : cells + 2 ≤ room_1.cells ∧ slots + 12 ≤ room_1.slots) (hT : T_symbol z (xs (i + (1 : Int32)).toNatClampNeg) (xs (i + (2 : Int32)).toNatClampNeg) = some (k, z1)) (hM : M_symbol y (xs (i + (1 : Int32)).toNatClampNeg) (xs (i + (2 : Int32)).toNatClampNeg) = some (q, y1)) (K : ∀ (H1 : Heap) (locs1 : List Loc) (ls1 : Array Slot), va_P (dC, dI) CL (WF a z1 ++ WM d y1) H1 → va_D A (WF a z1 ++ WM d y1) → va_S A s.heap H1 locs1 → lv_has ls1 7 [(0, .ref b), (1, .ref a.tr), (2, .ref d.mo), (3, .ref a.out), (4, .int i)] → W p l e room_1 s m args below meth c H1 locs1 (cells + 1) (slots + 6) Q (F0 m 723 ls1 [])) : W p l e room_1 s m args below meth c H locs cells slots Q (F0 m 148 ls []) := by
  obtain ⟨hx, hb, hml, hown, hB, hnw, hxw, hxn, hst, hA, hAn, hlt, hX, hbl⟩ := id C0
  obtain ⟨hf1, hf2⟩ := hf
  refine lv_aload_n hx hb d_Law_law_148 rfl (lv_at hl 1 rfl) ?_
  refine lv_aload_n hx hb d_Law_law_149 rfl (lv_at hl 0 rfl) ?_
  refine lv_iload hx hb d_Law_law_150 (lv_at hl 4 rfl) ?_
  refine lv_iconst (v := 1) hx hb d_Law_law_152 (by decide) ?_
  refine lv_iadd hx hb d_Law_law_153 ?_
  refine va_sld hx hb hX hbl (hAn _ hbl) hS h1 d_Law_law_154 ?_
  refine lv_aload_n hx hb d_Law_law_155 rfl (lv_at hl 0 rfl) ?_
  refine lv_iload hx hb d_Law_law_156 (lv_at hl 4 rfl) ?_
  refine lv_iconst (v := 2) hx hb d_Law_law_158 (by decide) ?_
  refine lv_iadd hx hb d_Law_law_159 ?_
  refine va_sld hx hb hX hbl (hAn _ hbl) hS h2 d_Law_law_160 ?_
  refine lv_aload_n hx hb d_Law_law_161 rfl (lv_at hl 3 rfl) ?_
  refine kT_symbol_F C0 hK hP hD hS hl.1 hT d_Law_law_162 ⟨by omega, by omega⟩ (fun H locs hP hD hS => ?_)
  refine lv_istore (lv' := [(5, .int k), (0, .ref b), (1, .ref a.tr), (2, .ref d.mo), (3, .ref a.out), (4, .int i)]) hx hb d_Law_law_165 hl (by decide) rfl (fun ls hl => ?_)
  refine lv_aload_n hx hb d_Law_law_167 rfl (lv_at hl 3 rfl) ?_
  refine lv_aload_n hx hb d_Law_law_168 rfl (lv_at hl 1 rfl) ?_
  refine lv_iload hx hb d_Law_law_169 (lv_at hl 5 rfl) ?_
  refine lv_iconst (v := 1) hx hb d_Law_law_171 (by decide) ?_
  refine lv_iadd hx hb d_Law_law_172 ?_
  refine va_sld hx hb hX hbl (hAn _ hbl) hS h1 d_Law_law_173 ?_
  refine lv_aload_n hx hb d_Law_law_174 rfl (lv_at hl 1 rfl) ?_
  refine lv_iload hx hb d_Law_law_175 (lv_at hl 5 rfl) ?_
  refine lv_iconst (v := 2) hx hb d_Law_law_177 (by decide) ?_
  refine lv_iadd hx hb d_Law_law_178 ?_
  refine va_sld hx hb hX hbl (hAn _ hbl) hS h2 d_Law_law_179 ?_
  refine kM_symbol C0 hKM (va_P_c hP) (va_D_c hD) hS hl.1 hM d_Law_law_180 ⟨by omega, by omega⟩ (fun H locs hP hD hS => ?_)
  have hP := va_P_c hP
  have hD := va_D_c hD
  refine lv_istore (lv' := [(6, .int q), (5, .int k), (0, .ref b), (1, .ref a.tr), (2, .ref d.mo), (3, .ref a.out), (4, .int i)]) hx hb d_Law_law_183 hl (by decide) rfl (fun ls hl => ?_)
  refine lv_goto (tgt := 723) hx hb d_Law_law_185 (by decide) ?_
  exact K _ _ _ hP hD hS (lv_sub hl [2, 3, 4, 5, 6] rfl)
set_option maxHeartbeats 4000000 in
set_option maxRecDepth 100000 in
theorem kc_put_F {p : Program} {l : Launch} {e : Env} {s : State} {m : MethodId} {args : Array Value} {below : List Frame} {meth : Method} {c : Code} {H : Heap} {locs : List Loc} {cells slots : Nat} {Q : State → Prop} {A : Nat → Prop} {b N : Nat} {xs : Nat → Int32} {dC : Nat → ClassId} {dI : Nat → Nat → Nat} {a : TA} {z z1 : TS} {d : MA} {y y1 : MS} {i : Int32} {ls : Array Slot} {k : Int32} {q : Int32} (C0 : LX p l s m c args A b N xs) (hK : va_K (dC, dI) CL (KF a) s) (hKM : va_K (dC, dI) CL (KM d) s) (hP : va_P (dC, dI) CL (WF a z ++ WM d y) H) (hD : va_D A (WF a z ++ WM d y)) (hS : va_S A s.heap H locs) (hl : lv_has ls 7 [(0, .ref b), (1, .ref a.tr), (2, .ref d.mo), (3, .ref a.out), (4, .int i)]) (h1 : vp_in (i + (1 : Int32)) N) (h2 : vp_in (i + (2 : Int32)) N) (h3 : vp_in (i + (3 : Int32)) N) (h4 : vp_in (i + (4 : Int32)) N) (hf : cells + 2 ≤ room_1.cells ∧ slots + 12 ≤ room_1.slots) (hT : T_put z (xs (i + (1 : Int32)).toNatClampNeg) (xs (i + (2 : Int32)).toNatClampNeg) (xs (i + (3 : Int32)).toNatClampNeg) (if (xs (i + (4 : Int32)).toNatClampNeg) = 0 then (0 : Int32) else 1) = some (k, z1)) (hM : M_put y (xs (i + (1 : Int32)).toNatClampNeg) (xs (i + (2 : Int32)).toNatClampNeg) (xs (i + (3 : Int32)).toNatClampNeg) (if (xs (i + (4 : Int32)).toNatClampNeg) = 0 then (0 : Int32) else 1) = some (q, y1)) (K : ∀ (H1 : Heap) (locs1 : List Loc) (ls1 : Array Slot), va_P (dC, dI) CL (WF a z1 ++ WM d y1) H1 → va_D A (WF a z1 ++ WM d y1) → va_S A s.heap H1 locs1 → lv_has ls1 7 [(0, .ref b), (1, .ref a.tr), (2, .ref d.mo), (3, .ref a.out), (4, .int i)] → W p l e room_1 s m args below meth c H1 locs1 (cells + 1) (slots + 6) Q (F0 m 723 ls1 [])) : W p l e room_1 s m args below meth c H locs cells slots Q (F0 m 188 ls []) := by
  obtain ⟨hx, hb, hml, hown, hB, hnw, hxw, hxn, hst, hA, hAn, hlt, hX, hbl⟩ := id C0
  obtain ⟨hf1, hf2⟩ := hf
  refine lv_aload_n hx hb d_Law_law_188 rfl (lv_at hl 1 rfl) ?_
  refine lv_aload_n hx hb d_Law_law_189 rfl (lv_at hl 0 rfl) ?_
  refine lv_iload hx hb d_Law_law_190 (lv_at hl 4 rfl) ?_
  refine lv_iconst (v := 1) hx hb d_Law_law_192 (by decide) ?_
  refine lv_iadd hx hb d_Law_law_193 ?_
  refine va_sld hx hb hX hbl (hAn _ hbl) hS h1 d_Law_law_194 ?_
  refine lv_aload_n hx hb d_Law_law_195 rfl (lv_at hl 0 rfl) ?_
  refine lv_iload hx hb d_Law_law_196 (lv_at hl 4 rfl) ?_
  refine lv_iconst (v := 2) hx hb d_Law_law_198 (by decide) ?_
  refine lv_iadd hx hb d_Law_law_199 ?_
  refine va_sld hx hb hX hbl (hAn _ hbl) hS h2 d_Law_law_200 ?_
  refine lv_aload_n hx hb d_Law_law_201 rfl (lv_at hl 0 rfl) ?_
  refine lv_iload hx hb d_Law_law_202 (lv_at hl 4 rfl) ?_
  refine lv_iconst (v := 3) hx hb d_Law_law_204 (by decide) ?_
  refine lv_iadd hx hb d_Law_law_205 ?_
  refine va_sld hx hb hX hbl (hAn _ hbl) hS h3 d_Law_law_206 ?_
  refine lv_aload_n hx hb d_Law_law_207 rfl (lv_at hl 0 rfl) ?_
  refine lv_iload hx hb d_Law_law_208 (lv_at hl 4 rfl) ?_
  refine lv_iconst (v := 4) hx hb d_Law_law_210 (by decide) ?_
  refine lv_iadd hx hb d_Law_law_211 ?_
  refine va_sld hx hb hX hbl (hAn _ hbl) hS h4 d_Law_law_212 ?_
  refine lv_if_eq (tgt := 220) hx hb d_Law_law_213 (by decide) (fun c_1 => ?_) (fun c_1 => ?_)
  · rw [if_pos c_1] at hT hM
    refine lv_iconst (v := 0) hx hb d_Law_law_220 (by decide) ?_
    refine lv_aload_n hx hb d_Law_law_221 rfl (lv_at hl 3 rfl) ?_
    refine kT_put_F C0 hK hP hD hS hl.1 hT d_Law_law_222 ⟨by omega, by omega⟩ (fun H locs hP hD hS => ?_)
    refine lv_istore (lv' := [(5, .int k), (0, .ref b), (1, .ref a.tr), (2, .ref d.mo), (3, .ref a.out), (4, .int i)]) hx hb d_Law_law_225 hl (by decide) rfl (fun ls hl => ?_)
    refine lv_aload_n hx hb d_Law_law_227 rfl (lv_at hl 3 rfl) ?_
    refine lv_aload_n hx hb d_Law_law_228 rfl (lv_at hl 1 rfl) ?_
    refine lv_iload hx hb d_Law_law_229 (lv_at hl 5 rfl) ?_
    refine lv_iconst (v := 1) hx hb d_Law_law_231 (by decide) ?_
    refine lv_iadd hx hb d_Law_law_232 ?_
    refine va_sld hx hb hX hbl (hAn _ hbl) hS h1 d_Law_law_233 ?_
    refine lv_aload_n hx hb d_Law_law_234 rfl (lv_at hl 1 rfl) ?_
    refine lv_iload hx hb d_Law_law_235 (lv_at hl 5 rfl) ?_
    refine lv_iconst (v := 2) hx hb d_Law_law_237 (by decide) ?_
    refine lv_iadd hx hb d_Law_law_238 ?_
    refine va_sld hx hb hX hbl (hAn _ hbl) hS h2 d_Law_law_239 ?_
    refine lv_aload_n hx hb d_Law_law_240 rfl (lv_at hl 1 rfl) ?_
    refine lv_iload hx hb d_Law_law_241 (lv_at hl 5 rfl) ?_
    refine lv_iconst (v := 3) hx hb d_Law_law_243 (by decide) ?_
    refine lv_iadd hx hb d_Law_law_244 ?_
    refine va_sld hx hb hX hbl (hAn _ hbl) hS h3 d_Law_law_245 ?_
    refine lv_aload_n hx hb d_Law_law_246 rfl (lv_at hl 1 rfl) ?_
    refine lv_iload hx hb d_Law_law_247 (lv_at hl 5 rfl) ?_
    refine lv_iconst (v := 4) hx hb d_Law_law_249 (by decide) ?_
    refine lv_iadd hx hb d_Law_law_250 ?_
    refine va_sld hx hb hX hbl (hAn _ hbl) hS h4 d_Law_law_251 ?_
    refine lv_if_eq (tgt := 259) hx hb d_Law_law_252 (by decide) (fun c_2 => ?_) (fun c_2 => ?_)
    · skip
      refine lv_iconst (v := 0) hx hb d_Law_law_259 (by decide) ?_
      refine kM_put C0 hKM (va_P_c hP) (va_D_c hD) hS hl.1 hM d_Law_law_260 ⟨by omega, by omega⟩ (fun H locs hP hD hS => ?_)
      have hP := va_P_c hP
      have hD := va_D_c hD
      refine lv_istore (lv' := [(6, .int q), (5, .int k), (0, .ref b), (1, .ref a.tr), (2, .ref d.mo), (3, .ref a.out), (4, .int i)]) hx hb d_Law_law_263 hl (by decide) rfl (fun ls hl => ?_)
      refine lv_goto (tgt := 723) hx hb d_Law_law_265 (by decide) ?_
      exact K _ _ _ hP hD hS (lv_sub hl [2, 3, 4, 5, 6] rfl)
    · exact absurd c_1 c_2
  · rw [if_neg c_1] at hT hM
    refine lv_iconst (v := 1) hx hb d_Law_law_216 (by decide) ?_
    refine lv_goto (tgt := 221) hx hb d_Law_law_217 (by decide) ?_
    refine lv_aload_n hx hb d_Law_law_221 rfl (lv_at hl 3 rfl) ?_
    refine kT_put_F C0 hK hP hD hS hl.1 hT d_Law_law_222 ⟨by omega, by omega⟩ (fun H locs hP hD hS => ?_)
    refine lv_istore (lv' := [(5, .int k), (0, .ref b), (1, .ref a.tr), (2, .ref d.mo), (3, .ref a.out), (4, .int i)]) hx hb d_Law_law_225 hl (by decide) rfl (fun ls hl => ?_)
    refine lv_aload_n hx hb d_Law_law_227 rfl (lv_at hl 3 rfl) ?_
    refine lv_aload_n hx hb d_Law_law_228 rfl (lv_at hl 1 rfl) ?_
    refine lv_iload hx hb d_Law_law_229 (lv_at hl 5 rfl) ?_
    refine lv_iconst (v := 1) hx hb d_Law_law_231 (by decide) ?_
    refine lv_iadd hx hb d_Law_law_232 ?_
    refine va_sld hx hb hX hbl (hAn _ hbl) hS h1 d_Law_law_233 ?_
    refine lv_aload_n hx hb d_Law_law_234 rfl (lv_at hl 1 rfl) ?_
    refine lv_iload hx hb d_Law_law_235 (lv_at hl 5 rfl) ?_
    refine lv_iconst (v := 2) hx hb d_Law_law_237 (by decide) ?_
    refine lv_iadd hx hb d_Law_law_238 ?_
    refine va_sld hx hb hX hbl (hAn _ hbl) hS h2 d_Law_law_239 ?_
    refine lv_aload_n hx hb d_Law_law_240 rfl (lv_at hl 1 rfl) ?_
    refine lv_iload hx hb d_Law_law_241 (lv_at hl 5 rfl) ?_
    refine lv_iconst (v := 3) hx hb d_Law_law_243 (by decide) ?_
    refine lv_iadd hx hb d_Law_law_244 ?_
    refine va_sld hx hb hX hbl (hAn _ hbl) hS h3 d_Law_law_245 ?_
    refine lv_aload_n hx hb d_Law_law_246 rfl (lv_at hl 1 rfl) ?_
    refine lv_iload hx hb d_Law_law_247 (lv_at hl 5 rfl) ?_
    refine lv_iconst (v := 4) hx hb d_Law_law_249 (by decide) ?_
    refine lv_iadd hx hb d_Law_law_250 ?_
    refine va_sld hx hb hX hbl (hAn _ hbl) hS h4 d_Law_law_251 ?_
    refine lv_if_eq (tgt := 259) hx hb d_Law_law_252 (by decide) (fun c_3 => ?_) (fun c_3 => ?_)
    · exact absurd c_3 c_1
    · skip
      refine lv_iconst (v := 1) hx hb d_Law_law_255 (by decide) ?_
      refine lv_goto (tgt := 260) hx hb d_Law_law_256 (by decide) ?_
      refine kM_put C0 hKM (va_P_c hP) (va_D_c hD) hS hl.1 hM d_Law_law_260 ⟨by omega, by omega⟩ (fun H locs hP hD hS => ?_)
      have hP := va_P_c hP
      have hD := va_D_c hD
      refine lv_istore (lv' := [(6, .int q), (5, .int k), (0, .ref b), (1, .ref a.tr), (2, .ref d.mo), (3, .ref a.out), (4, .int i)]) hx hb d_Law_law_263 hl (by decide) rfl (fun ls hl => ?_)
      refine lv_goto (tgt := 723) hx hb d_Law_law_265 (by decide) ?_
      exact K _ _ _ hP hD hS (lv_sub hl [2, 3, 4, 5, 6] rfl)
set_option maxHeartbeats 4000000 in
set_option maxRecDepth 100000 in
theorem kc_instance_F {p : Program} {l : Launch} {e : Env} {s : State} {m : MethodId} {args : Array Value} {below : List Frame} {meth : Method} {c : Code} {H : Heap} {locs : List Loc} {cells slots : Nat} {Q : State → Prop} {A : Nat → Prop} {b N : Nat} {xs : Nat → Int32} {dC : Nat → ClassId} {dI : Nat → Nat → Nat} {a : TA} {z z1 : TS} {d : MA} {y y1 : MS} {i : Int32} {ls : Array Slot} {k : Int32} {q : Int32} (C0 : LX p l s m c args A b N xs) (hK : va_K (dC, dI) CL (KF a) s) (hKM : va_K (dC, dI) CL (KM d) s) (hP : va_P (dC, dI) CL (WF a z ++ WM d y) H) (hD : va_D A (WF a z ++ WM d y)) (hS : va_S A s.heap H locs) (hl : lv_has ls 7 [(0, .ref b), (1, .ref a.tr), (2, .ref d.mo), (3, .ref a.out), (4, .int i)]) (h1 : vp_in (i + (1 : Int32)) N) (h2 : vp_in (i + (2 : Int32)) N) (h3 : vp_in (i + (3 : Int32)) N) (h4 : vp_in (i + (4 : Int32)) N) (hf : cells + 2 ≤ room_1.cells ∧ slots + 12 ≤ room_1.slots) (hT : T_instance z (xs (i + (1 : Int32)).toNatClampNeg) (xs (i + (2 : Int32)).toNatClampNeg) (xs (i + (3 : Int32)).toNatClampNeg) = some (k, z1)) (hM : M_instance y (xs (i + (1 : Int32)).toNatClampNeg) (xs (i + (2 : Int32)).toNatClampNeg) (xs (i + (3 : Int32)).toNatClampNeg) = some (q, y1)) (K : ∀ (H1 : Heap) (locs1 : List Loc) (ls1 : Array Slot), va_P (dC, dI) CL (WF a z1 ++ WM d y1) H1 → va_D A (WF a z1 ++ WM d y1) → va_S A s.heap H1 locs1 → lv_has ls1 7 [(0, .ref b), (1, .ref a.tr), (2, .ref d.mo), (3, .ref a.out), (4, .int i)] → W p l e room_1 s m args below meth c H1 locs1 (cells + 1) (slots + 6) Q (F0 m 723 ls1 [])) : W p l e room_1 s m args below meth c H locs cells slots Q (F0 m 268 ls []) := by
  obtain ⟨hx, hb, hml, hown, hB, hnw, hxw, hxn, hst, hA, hAn, hlt, hX, hbl⟩ := id C0
  obtain ⟨hf1, hf2⟩ := hf
  refine lv_aload_n hx hb d_Law_law_268 rfl (lv_at hl 1 rfl) ?_
  refine lv_aload_n hx hb d_Law_law_269 rfl (lv_at hl 0 rfl) ?_
  refine lv_iload hx hb d_Law_law_270 (lv_at hl 4 rfl) ?_
  refine lv_iconst (v := 1) hx hb d_Law_law_272 (by decide) ?_
  refine lv_iadd hx hb d_Law_law_273 ?_
  refine va_sld hx hb hX hbl (hAn _ hbl) hS h1 d_Law_law_274 ?_
  refine lv_aload_n hx hb d_Law_law_275 rfl (lv_at hl 0 rfl) ?_
  refine lv_iload hx hb d_Law_law_276 (lv_at hl 4 rfl) ?_
  refine lv_iconst (v := 2) hx hb d_Law_law_278 (by decide) ?_
  refine lv_iadd hx hb d_Law_law_279 ?_
  refine va_sld hx hb hX hbl (hAn _ hbl) hS h2 d_Law_law_280 ?_
  refine lv_aload_n hx hb d_Law_law_281 rfl (lv_at hl 0 rfl) ?_
  refine lv_iload hx hb d_Law_law_282 (lv_at hl 4 rfl) ?_
  refine lv_iconst (v := 3) hx hb d_Law_law_284 (by decide) ?_
  refine lv_iadd hx hb d_Law_law_285 ?_
  refine va_sld hx hb hX hbl (hAn _ hbl) hS h3 d_Law_law_286 ?_
  refine lv_aload_n hx hb d_Law_law_287 rfl (lv_at hl 3 rfl) ?_
  refine kT_instance_F C0 hK hP hD hS hl.1 hT d_Law_law_288 ⟨by omega, by omega⟩ (fun H locs hP hD hS => ?_)
  refine lv_istore (lv' := [(5, .int k), (0, .ref b), (1, .ref a.tr), (2, .ref d.mo), (3, .ref a.out), (4, .int i)]) hx hb d_Law_law_291 hl (by decide) rfl (fun ls hl => ?_)
  refine lv_aload_n hx hb d_Law_law_293 rfl (lv_at hl 3 rfl) ?_
  refine lv_aload_n hx hb d_Law_law_294 rfl (lv_at hl 1 rfl) ?_
  refine lv_iload hx hb d_Law_law_295 (lv_at hl 5 rfl) ?_
  refine lv_iconst (v := 1) hx hb d_Law_law_297 (by decide) ?_
  refine lv_iadd hx hb d_Law_law_298 ?_
  refine va_sld hx hb hX hbl (hAn _ hbl) hS h1 d_Law_law_299 ?_
  refine lv_aload_n hx hb d_Law_law_300 rfl (lv_at hl 1 rfl) ?_
  refine lv_iload hx hb d_Law_law_301 (lv_at hl 5 rfl) ?_
  refine lv_iconst (v := 2) hx hb d_Law_law_303 (by decide) ?_
  refine lv_iadd hx hb d_Law_law_304 ?_
  refine va_sld hx hb hX hbl (hAn _ hbl) hS h2 d_Law_law_305 ?_
  refine lv_aload_n hx hb d_Law_law_306 rfl (lv_at hl 1 rfl) ?_
  refine lv_iload hx hb d_Law_law_307 (lv_at hl 5 rfl) ?_
  refine lv_iconst (v := 3) hx hb d_Law_law_309 (by decide) ?_
  refine lv_iadd hx hb d_Law_law_310 ?_
  refine va_sld hx hb hX hbl (hAn _ hbl) hS h3 d_Law_law_311 ?_
  refine kM_instance C0 hKM (va_P_c hP) (va_D_c hD) hS hl.1 hM d_Law_law_312 ⟨by omega, by omega⟩ (fun H locs hP hD hS => ?_)
  have hP := va_P_c hP
  have hD := va_D_c hD
  refine lv_istore (lv' := [(6, .int q), (5, .int k), (0, .ref b), (1, .ref a.tr), (2, .ref d.mo), (3, .ref a.out), (4, .int i)]) hx hb d_Law_law_315 hl (by decide) rfl (fun ls hl => ?_)
  refine lv_goto (tgt := 723) hx hb d_Law_law_317 (by decide) ?_
  exact K _ _ _ hP hD hS (lv_sub hl [2, 3, 4, 5, 6] rfl)
set_option maxHeartbeats 4000000 in
set_option maxRecDepth 100000 in
theorem kc_refine_F {p : Program} {l : Launch} {e : Env} {s : State} {m : MethodId} {args : Array Value} {below : List Frame} {meth : Method} {c : Code} {H : Heap} {locs : List Loc} {cells slots : Nat} {Q : State → Prop} {A : Nat → Prop} {b N : Nat} {xs : Nat → Int32} {dC : Nat → ClassId} {dI : Nat → Nat → Nat} {a : TA} {z z1 : TS} {d : MA} {y y1 : MS} {i : Int32} {ls : Array Slot} {k : Int32} {q : Int32} (C0 : LX p l s m c args A b N xs) (hK : va_K (dC, dI) CL (KF a) s) (hKM : va_K (dC, dI) CL (KM d) s) (hP : va_P (dC, dI) CL (WF a z ++ WM d y) H) (hD : va_D A (WF a z ++ WM d y)) (hS : va_S A s.heap H locs) (hl : lv_has ls 7 [(0, .ref b), (1, .ref a.tr), (2, .ref d.mo), (3, .ref a.out), (4, .int i)]) (h1 : vp_in (i + (1 : Int32)) N) (h2 : vp_in (i + (2 : Int32)) N) (h3 : vp_in (i + (3 : Int32)) N) (h4 : vp_in (i + (4 : Int32)) N) (hf : cells + 2 ≤ room_1.cells ∧ slots + 12 ≤ room_1.slots) (hT : T_refine z (xs (i + (1 : Int32)).toNatClampNeg) (xs (i + (2 : Int32)).toNatClampNeg) (xs (i + (3 : Int32)).toNatClampNeg) (if (xs (i + (4 : Int32)).toNatClampNeg) = 0 then (0 : Int32) else 1) = some (k, z1)) (hM : M_refine y (xs (i + (1 : Int32)).toNatClampNeg) (xs (i + (2 : Int32)).toNatClampNeg) (xs (i + (3 : Int32)).toNatClampNeg) (if (xs (i + (4 : Int32)).toNatClampNeg) = 0 then (0 : Int32) else 1) = some (q, y1)) (K : ∀ (H1 : Heap) (locs1 : List Loc) (ls1 : Array Slot), va_P (dC, dI) CL (WF a z1 ++ WM d y1) H1 → va_D A (WF a z1 ++ WM d y1) → va_S A s.heap H1 locs1 → lv_has ls1 7 [(0, .ref b), (1, .ref a.tr), (2, .ref d.mo), (3, .ref a.out), (4, .int i)] → W p l e room_1 s m args below meth c H1 locs1 (cells + 1) (slots + 6) Q (F0 m 723 ls1 [])) : W p l e room_1 s m args below meth c H locs cells slots Q (F0 m 320 ls []) := by
  obtain ⟨hx, hb, hml, hown, hB, hnw, hxw, hxn, hst, hA, hAn, hlt, hX, hbl⟩ := id C0
  obtain ⟨hf1, hf2⟩ := hf
  refine lv_aload_n hx hb d_Law_law_320 rfl (lv_at hl 1 rfl) ?_
  refine lv_aload_n hx hb d_Law_law_321 rfl (lv_at hl 0 rfl) ?_
  refine lv_iload hx hb d_Law_law_322 (lv_at hl 4 rfl) ?_
  refine lv_iconst (v := 1) hx hb d_Law_law_324 (by decide) ?_
  refine lv_iadd hx hb d_Law_law_325 ?_
  refine va_sld hx hb hX hbl (hAn _ hbl) hS h1 d_Law_law_326 ?_
  refine lv_aload_n hx hb d_Law_law_327 rfl (lv_at hl 0 rfl) ?_
  refine lv_iload hx hb d_Law_law_328 (lv_at hl 4 rfl) ?_
  refine lv_iconst (v := 2) hx hb d_Law_law_330 (by decide) ?_
  refine lv_iadd hx hb d_Law_law_331 ?_
  refine va_sld hx hb hX hbl (hAn _ hbl) hS h2 d_Law_law_332 ?_
  refine lv_aload_n hx hb d_Law_law_333 rfl (lv_at hl 0 rfl) ?_
  refine lv_iload hx hb d_Law_law_334 (lv_at hl 4 rfl) ?_
  refine lv_iconst (v := 3) hx hb d_Law_law_336 (by decide) ?_
  refine lv_iadd hx hb d_Law_law_337 ?_
  refine va_sld hx hb hX hbl (hAn _ hbl) hS h3 d_Law_law_338 ?_
  refine lv_aload_n hx hb d_Law_law_339 rfl (lv_at hl 0 rfl) ?_
  refine lv_iload hx hb d_Law_law_340 (lv_at hl 4 rfl) ?_
  refine lv_iconst (v := 4) hx hb d_Law_law_342 (by decide) ?_
  refine lv_iadd hx hb d_Law_law_343 ?_
  refine va_sld hx hb hX hbl (hAn _ hbl) hS h4 d_Law_law_344 ?_
  refine lv_if_eq (tgt := 352) hx hb d_Law_law_345 (by decide) (fun c_1 => ?_) (fun c_1 => ?_)
  · rw [if_pos c_1] at hT hM
    refine lv_iconst (v := 0) hx hb d_Law_law_352 (by decide) ?_
    refine lv_aload_n hx hb d_Law_law_353 rfl (lv_at hl 3 rfl) ?_
    refine kT_refine_F C0 hK hP hD hS hl.1 hT d_Law_law_354 ⟨by omega, by omega⟩ (fun H locs hP hD hS => ?_)
    refine lv_istore (lv' := [(5, .int k), (0, .ref b), (1, .ref a.tr), (2, .ref d.mo), (3, .ref a.out), (4, .int i)]) hx hb d_Law_law_357 hl (by decide) rfl (fun ls hl => ?_)
    refine lv_aload_n hx hb d_Law_law_359 rfl (lv_at hl 3 rfl) ?_
    refine lv_aload_n hx hb d_Law_law_360 rfl (lv_at hl 1 rfl) ?_
    refine lv_iload hx hb d_Law_law_361 (lv_at hl 5 rfl) ?_
    refine lv_iconst (v := 1) hx hb d_Law_law_363 (by decide) ?_
    refine lv_iadd hx hb d_Law_law_364 ?_
    refine va_sld hx hb hX hbl (hAn _ hbl) hS h1 d_Law_law_365 ?_
    refine lv_aload_n hx hb d_Law_law_366 rfl (lv_at hl 1 rfl) ?_
    refine lv_iload hx hb d_Law_law_367 (lv_at hl 5 rfl) ?_
    refine lv_iconst (v := 2) hx hb d_Law_law_369 (by decide) ?_
    refine lv_iadd hx hb d_Law_law_370 ?_
    refine va_sld hx hb hX hbl (hAn _ hbl) hS h2 d_Law_law_371 ?_
    refine lv_aload_n hx hb d_Law_law_372 rfl (lv_at hl 1 rfl) ?_
    refine lv_iload hx hb d_Law_law_373 (lv_at hl 5 rfl) ?_
    refine lv_iconst (v := 3) hx hb d_Law_law_375 (by decide) ?_
    refine lv_iadd hx hb d_Law_law_376 ?_
    refine va_sld hx hb hX hbl (hAn _ hbl) hS h3 d_Law_law_377 ?_
    refine lv_aload_n hx hb d_Law_law_378 rfl (lv_at hl 1 rfl) ?_
    refine lv_iload hx hb d_Law_law_379 (lv_at hl 5 rfl) ?_
    refine lv_iconst (v := 4) hx hb d_Law_law_381 (by decide) ?_
    refine lv_iadd hx hb d_Law_law_382 ?_
    refine va_sld hx hb hX hbl (hAn _ hbl) hS h4 d_Law_law_383 ?_
    refine lv_if_eq (tgt := 391) hx hb d_Law_law_384 (by decide) (fun c_2 => ?_) (fun c_2 => ?_)
    · skip
      refine lv_iconst (v := 0) hx hb d_Law_law_391 (by decide) ?_
      refine kM_refine C0 hKM (va_P_c hP) (va_D_c hD) hS hl.1 hM d_Law_law_392 ⟨by omega, by omega⟩ (fun H locs hP hD hS => ?_)
      have hP := va_P_c hP
      have hD := va_D_c hD
      refine lv_istore (lv' := [(6, .int q), (5, .int k), (0, .ref b), (1, .ref a.tr), (2, .ref d.mo), (3, .ref a.out), (4, .int i)]) hx hb d_Law_law_395 hl (by decide) rfl (fun ls hl => ?_)
      refine lv_goto (tgt := 723) hx hb d_Law_law_397 (by decide) ?_
      exact K _ _ _ hP hD hS (lv_sub hl [2, 3, 4, 5, 6] rfl)
    · exact absurd c_1 c_2
  · rw [if_neg c_1] at hT hM
    refine lv_iconst (v := 1) hx hb d_Law_law_348 (by decide) ?_
    refine lv_goto (tgt := 353) hx hb d_Law_law_349 (by decide) ?_
    refine lv_aload_n hx hb d_Law_law_353 rfl (lv_at hl 3 rfl) ?_
    refine kT_refine_F C0 hK hP hD hS hl.1 hT d_Law_law_354 ⟨by omega, by omega⟩ (fun H locs hP hD hS => ?_)
    refine lv_istore (lv' := [(5, .int k), (0, .ref b), (1, .ref a.tr), (2, .ref d.mo), (3, .ref a.out), (4, .int i)]) hx hb d_Law_law_357 hl (by decide) rfl (fun ls hl => ?_)
    refine lv_aload_n hx hb d_Law_law_359 rfl (lv_at hl 3 rfl) ?_
    refine lv_aload_n hx hb d_Law_law_360 rfl (lv_at hl 1 rfl) ?_
    refine lv_iload hx hb d_Law_law_361 (lv_at hl 5 rfl) ?_
    refine lv_iconst (v := 1) hx hb d_Law_law_363 (by decide) ?_
    refine lv_iadd hx hb d_Law_law_364 ?_
    refine va_sld hx hb hX hbl (hAn _ hbl) hS h1 d_Law_law_365 ?_
    refine lv_aload_n hx hb d_Law_law_366 rfl (lv_at hl 1 rfl) ?_
    refine lv_iload hx hb d_Law_law_367 (lv_at hl 5 rfl) ?_
    refine lv_iconst (v := 2) hx hb d_Law_law_369 (by decide) ?_
    refine lv_iadd hx hb d_Law_law_370 ?_
    refine va_sld hx hb hX hbl (hAn _ hbl) hS h2 d_Law_law_371 ?_
    refine lv_aload_n hx hb d_Law_law_372 rfl (lv_at hl 1 rfl) ?_
    refine lv_iload hx hb d_Law_law_373 (lv_at hl 5 rfl) ?_
    refine lv_iconst (v := 3) hx hb d_Law_law_375 (by decide) ?_
    refine lv_iadd hx hb d_Law_law_376 ?_
    refine va_sld hx hb hX hbl (hAn _ hbl) hS h3 d_Law_law_377 ?_
    refine lv_aload_n hx hb d_Law_law_378 rfl (lv_at hl 1 rfl) ?_
    refine lv_iload hx hb d_Law_law_379 (lv_at hl 5 rfl) ?_
    refine lv_iconst (v := 4) hx hb d_Law_law_381 (by decide) ?_
    refine lv_iadd hx hb d_Law_law_382 ?_
    refine va_sld hx hb hX hbl (hAn _ hbl) hS h4 d_Law_law_383 ?_
    refine lv_if_eq (tgt := 391) hx hb d_Law_law_384 (by decide) (fun c_3 => ?_) (fun c_3 => ?_)
    · exact absurd c_3 c_1
    · skip
      refine lv_iconst (v := 1) hx hb d_Law_law_387 (by decide) ?_
      refine lv_goto (tgt := 392) hx hb d_Law_law_388 (by decide) ?_
      refine kM_refine C0 hKM (va_P_c hP) (va_D_c hD) hS hl.1 hM d_Law_law_392 ⟨by omega, by omega⟩ (fun H locs hP hD hS => ?_)
      have hP := va_P_c hP
      have hD := va_D_c hD
      refine lv_istore (lv' := [(6, .int q), (5, .int k), (0, .ref b), (1, .ref a.tr), (2, .ref d.mo), (3, .ref a.out), (4, .int i)]) hx hb d_Law_law_395 hl (by decide) rfl (fun ls hl => ?_)
      refine lv_goto (tgt := 723) hx hb d_Law_law_397 (by decide) ?_
      exact K _ _ _ hP hD hS (lv_sub hl [2, 3, 4, 5, 6] rfl)
set_option maxHeartbeats 4000000 in
set_option maxRecDepth 100000 in
theorem kc_way_F {p : Program} {l : Launch} {e : Env} {s : State} {m : MethodId} {args : Array Value} {below : List Frame} {meth : Method} {c : Code} {H : Heap} {locs : List Loc} {cells slots : Nat} {Q : State → Prop} {A : Nat → Prop} {b N : Nat} {xs : Nat → Int32} {dC : Nat → ClassId} {dI : Nat → Nat → Nat} {a : TA} {z z1 : TS} {d : MA} {y y1 : MS} {i : Int32} {ls : Array Slot} {k : Int32} {q : Int32} (C0 : LX p l s m c args A b N xs) (hK : va_K (dC, dI) CL (KF a) s) (hKM : va_K (dC, dI) CL (KM d) s) (hP : va_P (dC, dI) CL (WF a z ++ WM d y) H) (hD : va_D A (WF a z ++ WM d y)) (hS : va_S A s.heap H locs) (hl : lv_has ls 7 [(0, .ref b), (1, .ref a.tr), (2, .ref d.mo), (3, .ref a.out), (4, .int i)]) (h1 : vp_in (i + (1 : Int32)) N) (h2 : vp_in (i + (2 : Int32)) N) (h3 : vp_in (i + (3 : Int32)) N) (h4 : vp_in (i + (4 : Int32)) N) (hf : cells + 2 ≤ room_1.cells ∧ slots + 12 ≤ room_1.slots) (hT : T_way z (xs (i + (1 : Int32)).toNatClampNeg) (xs (i + (2 : Int32)).toNatClampNeg) = some (k, z1)) (hM : M_way y (xs (i + (1 : Int32)).toNatClampNeg) (xs (i + (2 : Int32)).toNatClampNeg) = some (q, y1)) (K : ∀ (H1 : Heap) (locs1 : List Loc) (ls1 : Array Slot), va_P (dC, dI) CL (WF a z1 ++ WM d y1) H1 → va_D A (WF a z1 ++ WM d y1) → va_S A s.heap H1 locs1 → lv_has ls1 7 [(0, .ref b), (1, .ref a.tr), (2, .ref d.mo), (3, .ref a.out), (4, .int i)] → W p l e room_1 s m args below meth c H1 locs1 (cells + 1) (slots + 6) Q (F0 m 723 ls1 [])) : W p l e room_1 s m args below meth c H locs cells slots Q (F0 m 400 ls []) := by
  obtain ⟨hx, hb, hml, hown, hB, hnw, hxw, hxn, hst, hA, hAn, hlt, hX, hbl⟩ := id C0
  obtain ⟨hf1, hf2⟩ := hf
  refine lv_aload_n hx hb d_Law_law_400 rfl (lv_at hl 1 rfl) ?_
  refine lv_aload_n hx hb d_Law_law_401 rfl (lv_at hl 0 rfl) ?_
  refine lv_iload hx hb d_Law_law_402 (lv_at hl 4 rfl) ?_
  refine lv_iconst (v := 1) hx hb d_Law_law_404 (by decide) ?_
  refine lv_iadd hx hb d_Law_law_405 ?_
  refine va_sld hx hb hX hbl (hAn _ hbl) hS h1 d_Law_law_406 ?_
  refine lv_aload_n hx hb d_Law_law_407 rfl (lv_at hl 0 rfl) ?_
  refine lv_iload hx hb d_Law_law_408 (lv_at hl 4 rfl) ?_
  refine lv_iconst (v := 2) hx hb d_Law_law_410 (by decide) ?_
  refine lv_iadd hx hb d_Law_law_411 ?_
  refine va_sld hx hb hX hbl (hAn _ hbl) hS h2 d_Law_law_412 ?_
  refine lv_aload_n hx hb d_Law_law_413 rfl (lv_at hl 3 rfl) ?_
  refine kT_way_F C0 hK hP hD hS hl.1 hT d_Law_law_414 ⟨by omega, by omega⟩ (fun H locs hP hD hS => ?_)
  refine lv_istore (lv' := [(5, .int k), (0, .ref b), (1, .ref a.tr), (2, .ref d.mo), (3, .ref a.out), (4, .int i)]) hx hb d_Law_law_417 hl (by decide) rfl (fun ls hl => ?_)
  refine lv_aload_n hx hb d_Law_law_419 rfl (lv_at hl 3 rfl) ?_
  refine lv_aload_n hx hb d_Law_law_420 rfl (lv_at hl 1 rfl) ?_
  refine lv_iload hx hb d_Law_law_421 (lv_at hl 5 rfl) ?_
  refine lv_iconst (v := 1) hx hb d_Law_law_423 (by decide) ?_
  refine lv_iadd hx hb d_Law_law_424 ?_
  refine va_sld hx hb hX hbl (hAn _ hbl) hS h1 d_Law_law_425 ?_
  refine lv_aload_n hx hb d_Law_law_426 rfl (lv_at hl 1 rfl) ?_
  refine lv_iload hx hb d_Law_law_427 (lv_at hl 5 rfl) ?_
  refine lv_iconst (v := 2) hx hb d_Law_law_429 (by decide) ?_
  refine lv_iadd hx hb d_Law_law_430 ?_
  refine va_sld hx hb hX hbl (hAn _ hbl) hS h2 d_Law_law_431 ?_
  refine kM_way C0 hKM (va_P_c hP) (va_D_c hD) hS hl.1 hM d_Law_law_432 ⟨by omega, by omega⟩ (fun H locs hP hD hS => ?_)
  have hP := va_P_c hP
  have hD := va_D_c hD
  refine lv_istore (lv' := [(6, .int q), (5, .int k), (0, .ref b), (1, .ref a.tr), (2, .ref d.mo), (3, .ref a.out), (4, .int i)]) hx hb d_Law_law_435 hl (by decide) rfl (fun ls hl => ?_)
  refine lv_goto (tgt := 723) hx hb d_Law_law_437 (by decide) ?_
  exact K _ _ _ hP hD hS (lv_sub hl [2, 3, 4, 5, 6] rfl)
set_option maxHeartbeats 4000000 in
set_option maxRecDepth 100000 in
theorem kc_order_F {p : Program} {l : Launch} {e : Env} {s : State} {m : MethodId} {args : Array Value} {below : List Frame} {meth : Method} {c : Code} {H : Heap} {locs : List Loc} {cells slots : Nat} {Q : State → Prop} {A : Nat → Prop} {b N : Nat} {xs : Nat → Int32} {dC : Nat → ClassId} {dI : Nat → Nat → Nat} {a : TA} {z z1 : TS} {d : MA} {y y1 : MS} {i : Int32} {ls : Array Slot} {k : Int32} {q : Int32} (C0 : LX p l s m c args A b N xs) (hK : va_K (dC, dI) CL (KF a) s) (hKM : va_K (dC, dI) CL (KM d) s) (hP : va_P (dC, dI) CL (WF a z ++ WM d y) H) (hD : va_D A (WF a z ++ WM d y)) (hS : va_S A s.heap H locs) (hl : lv_has ls 7 [(0, .ref b), (1, .ref a.tr), (2, .ref d.mo), (3, .ref a.out), (4, .int i)]) (h1 : vp_in (i + (1 : Int32)) N) (h2 : vp_in (i + (2 : Int32)) N) (h3 : vp_in (i + (3 : Int32)) N) (h4 : vp_in (i + (4 : Int32)) N) (hf : cells + 2 ≤ room_1.cells ∧ slots + 12 ≤ room_1.slots) (hT : T_order_F z (xs (i + (1 : Int32)).toNatClampNeg) = some (k, z1)) (hM : M_order y (xs (i + (1 : Int32)).toNatClampNeg) = some (q, y1)) (K : ∀ (H1 : Heap) (locs1 : List Loc) (ls1 : Array Slot), va_P (dC, dI) CL (WF a z1 ++ WM d y1) H1 → va_D A (WF a z1 ++ WM d y1) → va_S A s.heap H1 locs1 → lv_has ls1 7 [(0, .ref b), (1, .ref a.tr), (2, .ref d.mo), (3, .ref a.out), (4, .int i)] → W p l e room_1 s m args below meth c H1 locs1 (cells + 1) (slots + 6) Q (F0 m 723 ls1 [])) : W p l e room_1 s m args below meth c H locs cells slots Q (F0 m 440 ls []) := by
  obtain ⟨hx, hb, hml, hown, hB, hnw, hxw, hxn, hst, hA, hAn, hlt, hX, hbl⟩ := id C0
  obtain ⟨hf1, hf2⟩ := hf
  refine lv_aload_n hx hb d_Law_law_440 rfl (lv_at hl 1 rfl) ?_
  refine lv_aload_n hx hb d_Law_law_441 rfl (lv_at hl 0 rfl) ?_
  refine lv_iload hx hb d_Law_law_442 (lv_at hl 4 rfl) ?_
  refine lv_iconst (v := 1) hx hb d_Law_law_444 (by decide) ?_
  refine lv_iadd hx hb d_Law_law_445 ?_
  refine va_sld hx hb hX hbl (hAn _ hbl) hS h1 d_Law_law_446 ?_
  refine lv_aload_n hx hb d_Law_law_447 rfl (lv_at hl 3 rfl) ?_
  refine kT_order_F C0 hK hP hD hS hl.1 hT d_Law_law_448 ⟨by omega, by omega⟩ (fun H locs hP hD hS => ?_)
  refine lv_istore (lv' := [(5, .int k), (0, .ref b), (1, .ref a.tr), (2, .ref d.mo), (3, .ref a.out), (4, .int i)]) hx hb d_Law_law_451 hl (by decide) rfl (fun ls hl => ?_)
  refine lv_aload_n hx hb d_Law_law_453 rfl (lv_at hl 3 rfl) ?_
  refine lv_aload_n hx hb d_Law_law_454 rfl (lv_at hl 1 rfl) ?_
  refine lv_iload hx hb d_Law_law_455 (lv_at hl 5 rfl) ?_
  refine lv_iconst (v := 1) hx hb d_Law_law_457 (by decide) ?_
  refine lv_iadd hx hb d_Law_law_458 ?_
  refine va_sld hx hb hX hbl (hAn _ hbl) hS h1 d_Law_law_459 ?_
  refine kM_order C0 hKM (va_P_c hP) (va_D_c hD) hS hl.1 hM d_Law_law_460 ⟨by omega, by omega⟩ (fun H locs hP hD hS => ?_)
  have hP := va_P_c hP
  have hD := va_D_c hD
  refine lv_istore (lv' := [(6, .int q), (5, .int k), (0, .ref b), (1, .ref a.tr), (2, .ref d.mo), (3, .ref a.out), (4, .int i)]) hx hb d_Law_law_463 hl (by decide) rfl (fun ls hl => ?_)
  refine lv_goto (tgt := 723) hx hb d_Law_law_465 (by decide) ?_
  exact K _ _ _ hP hD hS (lv_sub hl [2, 3, 4, 5, 6] rfl)
set_option maxHeartbeats 4000000 in
set_option maxRecDepth 100000 in
theorem kc_compose_F {p : Program} {l : Launch} {e : Env} {s : State} {m : MethodId} {args : Array Value} {below : List Frame} {meth : Method} {c : Code} {H : Heap} {locs : List Loc} {cells slots : Nat} {Q : State → Prop} {A : Nat → Prop} {b N : Nat} {xs : Nat → Int32} {dC : Nat → ClassId} {dI : Nat → Nat → Nat} {a : TA} {z z1 : TS} {d : MA} {y y1 : MS} {i : Int32} {ls : Array Slot} {k : Int32} {q : Int32} (C0 : LX p l s m c args A b N xs) (hK : va_K (dC, dI) CL (KF a) s) (hKM : va_K (dC, dI) CL (KM d) s) (hP : va_P (dC, dI) CL (WF a z ++ WM d y) H) (hD : va_D A (WF a z ++ WM d y)) (hS : va_S A s.heap H locs) (hl : lv_has ls 7 [(0, .ref b), (1, .ref a.tr), (2, .ref d.mo), (3, .ref a.out), (4, .int i)]) (h1 : vp_in (i + (1 : Int32)) N) (h2 : vp_in (i + (2 : Int32)) N) (h3 : vp_in (i + (3 : Int32)) N) (h4 : vp_in (i + (4 : Int32)) N) (hf : cells + 2 ≤ room_1.cells ∧ slots + 12 ≤ room_1.slots) (hT : T_compose z  = some (k, z1)) (hM : M_compose y  = some (q, y1)) (K : ∀ (H1 : Heap) (locs1 : List Loc) (ls1 : Array Slot), va_P (dC, dI) CL (WF a z1 ++ WM d y1) H1 → va_D A (WF a z1 ++ WM d y1) → va_S A s.heap H1 locs1 → lv_has ls1 7 [(0, .ref b), (1, .ref a.tr), (2, .ref d.mo), (3, .ref a.out), (4, .int i)] → W p l e room_1 s m args below meth c H1 locs1 (cells + 1) (slots + 6) Q (F0 m 723 ls1 [])) : W p l e room_1 s m args below meth c H locs cells slots Q (F0 m 468 ls []) := by
  obtain ⟨hx, hb, hml, hown, hB, hnw, hxw, hxn, hst, hA, hAn, hlt, hX, hbl⟩ := id C0
  obtain ⟨hf1, hf2⟩ := hf
  refine lv_aload_n hx hb d_Law_law_468 rfl (lv_at hl 1 rfl) ?_
  refine kT_compose_F C0 hK hP hD hS hl.1 hT d_Law_law_469 ⟨by omega, by omega⟩ (fun H locs hP hD hS => ?_)
  refine lv_pop hx hb d_Law_law_472 rfl ?_
  refine lv_aload_n hx hb d_Law_law_473 rfl (lv_at hl 2 rfl) ?_
  refine kM_compose C0 hKM (va_P_c hP) (va_D_c hD) hS hl.1 hM d_Law_law_474 ⟨by omega, by omega⟩ (fun H locs hP hD hS => ?_)
  have hP := va_P_c hP
  have hD := va_D_c hD
  refine lv_pop hx hb d_Law_law_477 rfl ?_
  refine lv_goto (tgt := 723) hx hb d_Law_law_478 (by decide) ?_
  refine W.widen (k := cells + 1) (n := slots + 6) (by omega) (by omega) ?_
  exact K _ _ _ hP hD hS (lv_sub hl [0, 1, 2, 3, 4] rfl)
set_option maxHeartbeats 4000000 in
set_option maxRecDepth 100000 in
theorem kc_at_F {p : Program} {l : Launch} {e : Env} {s : State} {m : MethodId} {args : Array Value} {below : List Frame} {meth : Method} {c : Code} {H : Heap} {locs : List Loc} {cells slots : Nat} {Q : State → Prop} {A : Nat → Prop} {b N : Nat} {xs : Nat → Int32} {dC : Nat → ClassId} {dI : Nat → Nat → Nat} {a : TA} {z z1 : TS} {d : MA} {y y1 : MS} {i : Int32} {ls : Array Slot} {k : Int32} {q : Int32} (C0 : LX p l s m c args A b N xs) (hK : va_K (dC, dI) CL (KF a) s) (hKM : va_K (dC, dI) CL (KM d) s) (hP : va_P (dC, dI) CL (WF a z ++ WM d y) H) (hD : va_D A (WF a z ++ WM d y)) (hS : va_S A s.heap H locs) (hl : lv_has ls 7 [(0, .ref b), (1, .ref a.tr), (2, .ref d.mo), (3, .ref a.out), (4, .int i)]) (h1 : vp_in (i + (1 : Int32)) N) (h2 : vp_in (i + (2 : Int32)) N) (h3 : vp_in (i + (3 : Int32)) N) (h4 : vp_in (i + (4 : Int32)) N) (hf : cells + 2 ≤ room_1.cells ∧ slots + 12 ≤ room_1.slots) (hT : T_at z (xs (i + (1 : Int32)).toNatClampNeg) (xs (i + (2 : Int32)).toNatClampNeg) = some (k, z1)) (hM : M_at y (xs (i + (1 : Int32)).toNatClampNeg) (xs (i + (2 : Int32)).toNatClampNeg) = some (q, y1)) (K : ∀ (H1 : Heap) (locs1 : List Loc) (ls1 : Array Slot), va_P (dC, dI) CL (WF a z1 ++ WM d y1) H1 → va_D A (WF a z1 ++ WM d y1) → va_S A s.heap H1 locs1 → lv_has ls1 7 [(0, .ref b), (1, .ref a.tr), (2, .ref d.mo), (3, .ref a.out), (4, .int i)] → W p l e room_1 s m args below meth c H1 locs1 (cells + 1) (slots + 6) Q (F0 m 723 ls1 [])) : W p l e room_1 s m args below meth c H locs cells slots Q (F0 m 481 ls []) := by
  obtain ⟨hx, hb, hml, hown, hB, hnw, hxw, hxn, hst, hA, hAn, hlt, hX, hbl⟩ := id C0
  obtain ⟨hf1, hf2⟩ := hf
  refine lv_aload_n hx hb d_Law_law_481 rfl (lv_at hl 1 rfl) ?_
  refine lv_aload_n hx hb d_Law_law_482 rfl (lv_at hl 0 rfl) ?_
  refine lv_iload hx hb d_Law_law_483 (lv_at hl 4 rfl) ?_
  refine lv_iconst (v := 1) hx hb d_Law_law_485 (by decide) ?_
  refine lv_iadd hx hb d_Law_law_486 ?_
  refine va_sld hx hb hX hbl (hAn _ hbl) hS h1 d_Law_law_487 ?_
  refine lv_aload_n hx hb d_Law_law_488 rfl (lv_at hl 0 rfl) ?_
  refine lv_iload hx hb d_Law_law_489 (lv_at hl 4 rfl) ?_
  refine lv_iconst (v := 2) hx hb d_Law_law_491 (by decide) ?_
  refine lv_iadd hx hb d_Law_law_492 ?_
  refine va_sld hx hb hX hbl (hAn _ hbl) hS h2 d_Law_law_493 ?_
  refine lv_aload_n hx hb d_Law_law_494 rfl (lv_at hl 3 rfl) ?_
  refine kT_at_F C0 hK hP hD hS hl.1 hT d_Law_law_495 ⟨by omega, by omega⟩ (fun H locs hP hD hS => ?_)
  refine lv_istore (lv' := [(5, .int k), (0, .ref b), (1, .ref a.tr), (2, .ref d.mo), (3, .ref a.out), (4, .int i)]) hx hb d_Law_law_498 hl (by decide) rfl (fun ls hl => ?_)
  refine lv_aload_n hx hb d_Law_law_500 rfl (lv_at hl 3 rfl) ?_
  refine lv_aload_n hx hb d_Law_law_501 rfl (lv_at hl 1 rfl) ?_
  refine lv_iload hx hb d_Law_law_502 (lv_at hl 5 rfl) ?_
  refine lv_iconst (v := 1) hx hb d_Law_law_504 (by decide) ?_
  refine lv_iadd hx hb d_Law_law_505 ?_
  refine va_sld hx hb hX hbl (hAn _ hbl) hS h1 d_Law_law_506 ?_
  refine lv_aload_n hx hb d_Law_law_507 rfl (lv_at hl 1 rfl) ?_
  refine lv_iload hx hb d_Law_law_508 (lv_at hl 5 rfl) ?_
  refine lv_iconst (v := 2) hx hb d_Law_law_510 (by decide) ?_
  refine lv_iadd hx hb d_Law_law_511 ?_
  refine va_sld hx hb hX hbl (hAn _ hbl) hS h2 d_Law_law_512 ?_
  refine kM_at C0 hKM (va_P_c hP) (va_D_c hD) hS hl.1 hM d_Law_law_513 ⟨by omega, by omega⟩ (fun H locs hP hD hS => ?_)
  have hP := va_P_c hP
  have hD := va_D_c hD
  refine lv_istore (lv' := [(6, .int q), (5, .int k), (0, .ref b), (1, .ref a.tr), (2, .ref d.mo), (3, .ref a.out), (4, .int i)]) hx hb d_Law_law_516 hl (by decide) rfl (fun ls hl => ?_)
  refine lv_goto (tgt := 723) hx hb d_Law_law_518 (by decide) ?_
  exact K _ _ _ hP hD hS (lv_sub hl [2, 3, 4, 5, 6] rfl)
set_option maxHeartbeats 4000000 in
set_option maxRecDepth 100000 in
theorem kc_write_F {p : Program} {l : Launch} {e : Env} {s : State} {m : MethodId} {args : Array Value} {below : List Frame} {meth : Method} {c : Code} {H : Heap} {locs : List Loc} {cells slots : Nat} {Q : State → Prop} {A : Nat → Prop} {b N : Nat} {xs : Nat → Int32} {dC : Nat → ClassId} {dI : Nat → Nat → Nat} {a : TA} {z z1 : TS} {d : MA} {y y1 : MS} {i : Int32} {ls : Array Slot} {k : Int32} {q : Int32} (C0 : LX p l s m c args A b N xs) (hK : va_K (dC, dI) CL (KF a) s) (hKM : va_K (dC, dI) CL (KM d) s) (hP : va_P (dC, dI) CL (WF a z ++ WM d y) H) (hD : va_D A (WF a z ++ WM d y)) (hS : va_S A s.heap H locs) (hl : lv_has ls 7 [(0, .ref b), (1, .ref a.tr), (2, .ref d.mo), (3, .ref a.out), (4, .int i)]) (h1 : vp_in (i + (1 : Int32)) N) (h2 : vp_in (i + (2 : Int32)) N) (h3 : vp_in (i + (3 : Int32)) N) (h4 : vp_in (i + (4 : Int32)) N) (hf : cells + 2 ≤ room_1.cells ∧ slots + 12 ≤ room_1.slots) (hT : T_write_F z  = some (k, z1)) (hM : M_write y  = some (q, y1)) (K : ∀ (H1 : Heap) (locs1 : List Loc) (ls1 : Array Slot), va_P (dC, dI) CL (WF a z1 ++ WM d y1) H1 → va_D A (WF a z1 ++ WM d y1) → va_S A s.heap H1 locs1 → lv_has ls1 7 [(0, .ref b), (1, .ref a.tr), (2, .ref d.mo), (3, .ref a.out), (4, .int i)] → W p l e room_1 s m args below meth c H1 locs1 (cells + 1) (slots + 6) Q (F0 m 723 ls1 [])) : W p l e room_1 s m args below meth c H locs cells slots Q (F0 m 521 ls []) := by
  obtain ⟨hx, hb, hml, hown, hB, hnw, hxw, hxn, hst, hA, hAn, hlt, hX, hbl⟩ := id C0
  obtain ⟨hf1, hf2⟩ := hf
  refine lv_aload_n hx hb d_Law_law_521 rfl (lv_at hl 1 rfl) ?_
  refine kT_write_F C0 hK hP hD hS hl.1 hT d_Law_law_522 ⟨by omega, by omega⟩ (fun H locs hP hD hS => ?_)
  refine lv_pop hx hb d_Law_law_525 rfl ?_
  refine lv_aload_n hx hb d_Law_law_526 rfl (lv_at hl 2 rfl) ?_
  refine kM_write C0 hKM (va_P_c hP) (va_D_c hD) hS hl.1 hM d_Law_law_527 ⟨by omega, by omega⟩ (fun H locs hP hD hS => ?_)
  have hP := va_P_c hP
  have hD := va_D_c hD
  refine lv_pop hx hb d_Law_law_530 rfl ?_
  refine lv_goto (tgt := 723) hx hb d_Law_law_531 (by decide) ?_
  refine W.widen (k := cells + 1) (n := slots + 6) (by omega) (by omega) ?_
  exact K _ _ _ hP hD hS (lv_sub hl [0, 1, 2, 3, 4] rfl)
set_option maxHeartbeats 4000000 in
set_option maxRecDepth 100000 in
theorem kc_byteAt_F {p : Program} {l : Launch} {e : Env} {s : State} {m : MethodId} {args : Array Value} {below : List Frame} {meth : Method} {c : Code} {H : Heap} {locs : List Loc} {cells slots : Nat} {Q : State → Prop} {A : Nat → Prop} {b N : Nat} {xs : Nat → Int32} {dC : Nat → ClassId} {dI : Nat → Nat → Nat} {a : TA} {z z1 : TS} {d : MA} {y y1 : MS} {i : Int32} {ls : Array Slot} {k : Int32} {q : Int32} (C0 : LX p l s m c args A b N xs) (hK : va_K (dC, dI) CL (KF a) s) (hKM : va_K (dC, dI) CL (KM d) s) (hP : va_P (dC, dI) CL (WF a z ++ WM d y) H) (hD : va_D A (WF a z ++ WM d y)) (hS : va_S A s.heap H locs) (hl : lv_has ls 7 [(0, .ref b), (1, .ref a.tr), (2, .ref d.mo), (3, .ref a.out), (4, .int i)]) (h1 : vp_in (i + (1 : Int32)) N) (h2 : vp_in (i + (2 : Int32)) N) (h3 : vp_in (i + (3 : Int32)) N) (h4 : vp_in (i + (4 : Int32)) N) (hf : cells + 2 ≤ room_1.cells ∧ slots + 12 ≤ room_1.slots) (hT : T_byteAt z (xs (i + (1 : Int32)).toNatClampNeg) = some (k, z1)) (hM : M_byteAt y (xs (i + (1 : Int32)).toNatClampNeg) = some (q, y1)) (K : ∀ (H1 : Heap) (locs1 : List Loc) (ls1 : Array Slot), va_P (dC, dI) CL (WF a z1 ++ WM d y1) H1 → va_D A (WF a z1 ++ WM d y1) → va_S A s.heap H1 locs1 → lv_has ls1 7 [(0, .ref b), (1, .ref a.tr), (2, .ref d.mo), (3, .ref a.out), (4, .int i)] → W p l e room_1 s m args below meth c H1 locs1 (cells + 1) (slots + 6) Q (F0 m 723 ls1 [])) : W p l e room_1 s m args below meth c H locs cells slots Q (F0 m 534 ls []) := by
  obtain ⟨hx, hb, hml, hown, hB, hnw, hxw, hxn, hst, hA, hAn, hlt, hX, hbl⟩ := id C0
  obtain ⟨hf1, hf2⟩ := hf
  refine lv_aload_n hx hb d_Law_law_534 rfl (lv_at hl 1 rfl) ?_
  refine lv_aload_n hx hb d_Law_law_535 rfl (lv_at hl 0 rfl) ?_
  refine lv_iload hx hb d_Law_law_536 (lv_at hl 4 rfl) ?_
  refine lv_iconst (v := 1) hx hb d_Law_law_538 (by decide) ?_
  refine lv_iadd hx hb d_Law_law_539 ?_
  refine va_sld hx hb hX hbl (hAn _ hbl) hS h1 d_Law_law_540 ?_
  refine lv_aload_n hx hb d_Law_law_541 rfl (lv_at hl 3 rfl) ?_
  refine kT_byteAt_F C0 hK hP hD hS hl.1 hT d_Law_law_542 ⟨by omega, by omega⟩ (fun H locs hP hD hS => ?_)
  refine lv_istore (lv' := [(5, .int k), (0, .ref b), (1, .ref a.tr), (2, .ref d.mo), (3, .ref a.out), (4, .int i)]) hx hb d_Law_law_545 hl (by decide) rfl (fun ls hl => ?_)
  refine lv_aload_n hx hb d_Law_law_547 rfl (lv_at hl 3 rfl) ?_
  refine lv_aload_n hx hb d_Law_law_548 rfl (lv_at hl 1 rfl) ?_
  refine lv_iload hx hb d_Law_law_549 (lv_at hl 5 rfl) ?_
  refine lv_iconst (v := 1) hx hb d_Law_law_551 (by decide) ?_
  refine lv_iadd hx hb d_Law_law_552 ?_
  refine va_sld hx hb hX hbl (hAn _ hbl) hS h1 d_Law_law_553 ?_
  refine kM_byteAt C0 hKM (va_P_c hP) (va_D_c hD) hS hl.1 hM d_Law_law_554 ⟨by omega, by omega⟩ (fun H locs hP hD hS => ?_)
  have hP := va_P_c hP
  have hD := va_D_c hD
  refine lv_istore (lv' := [(6, .int q), (5, .int k), (0, .ref b), (1, .ref a.tr), (2, .ref d.mo), (3, .ref a.out), (4, .int i)]) hx hb d_Law_law_557 hl (by decide) rfl (fun ls hl => ?_)
  refine lv_goto (tgt := 723) hx hb d_Law_law_559 (by decide) ?_
  exact K _ _ _ hP hD hS (lv_sub hl [2, 3, 4, 5, 6] rfl)
set_option maxHeartbeats 4000000 in
set_option maxRecDepth 100000 in
theorem kc_feed_F {p : Program} {l : Launch} {e : Env} {s : State} {m : MethodId} {args : Array Value} {below : List Frame} {meth : Method} {c : Code} {H : Heap} {locs : List Loc} {cells slots : Nat} {Q : State → Prop} {A : Nat → Prop} {b N : Nat} {xs : Nat → Int32} {dC : Nat → ClassId} {dI : Nat → Nat → Nat} {a : TA} {z z1 : TS} {d : MA} {y y1 : MS} {i : Int32} {ls : Array Slot} {k : Int32} {q : Int32} (C0 : LX p l s m c args A b N xs) (hK : va_K (dC, dI) CL (KF a) s) (hKM : va_K (dC, dI) CL (KM d) s) (hP : va_P (dC, dI) CL (WF a z ++ WM d y) H) (hD : va_D A (WF a z ++ WM d y)) (hS : va_S A s.heap H locs) (hl : lv_has ls 7 [(0, .ref b), (1, .ref a.tr), (2, .ref d.mo), (3, .ref a.out), (4, .int i)]) (h1 : vp_in (i + (1 : Int32)) N) (h2 : vp_in (i + (2 : Int32)) N) (h3 : vp_in (i + (3 : Int32)) N) (h4 : vp_in (i + (4 : Int32)) N) (hf : cells + 2 ≤ room_1.cells ∧ slots + 12 ≤ room_1.slots) (hT : T_feed z (xs (i + (1 : Int32)).toNatClampNeg) = some (k, z1)) (hM : M_feed y (xs (i + (1 : Int32)).toNatClampNeg) = some (q, y1)) (K : ∀ (H1 : Heap) (locs1 : List Loc) (ls1 : Array Slot), va_P (dC, dI) CL (WF a z1 ++ WM d y1) H1 → va_D A (WF a z1 ++ WM d y1) → va_S A s.heap H1 locs1 → lv_has ls1 7 [(0, .ref b), (1, .ref a.tr), (2, .ref d.mo), (3, .ref a.out), (4, .int i)] → W p l e room_1 s m args below meth c H1 locs1 (cells + 1) (slots + 6) Q (F0 m 723 ls1 [])) : W p l e room_1 s m args below meth c H locs cells slots Q (F0 m 562 ls []) := by
  obtain ⟨hx, hb, hml, hown, hB, hnw, hxw, hxn, hst, hA, hAn, hlt, hX, hbl⟩ := id C0
  obtain ⟨hf1, hf2⟩ := hf
  refine lv_aload_n hx hb d_Law_law_562 rfl (lv_at hl 1 rfl) ?_
  refine lv_aload_n hx hb d_Law_law_563 rfl (lv_at hl 0 rfl) ?_
  refine lv_iload hx hb d_Law_law_564 (lv_at hl 4 rfl) ?_
  refine lv_iconst (v := 1) hx hb d_Law_law_566 (by decide) ?_
  refine lv_iadd hx hb d_Law_law_567 ?_
  refine va_sld hx hb hX hbl (hAn _ hbl) hS h1 d_Law_law_568 ?_
  refine lv_aload_n hx hb d_Law_law_569 rfl (lv_at hl 3 rfl) ?_
  refine kT_feed_F C0 hK hP hD hS hl.1 hT d_Law_law_570 ⟨by omega, by omega⟩ (fun H locs hP hD hS => ?_)
  refine lv_istore (lv' := [(5, .int k), (0, .ref b), (1, .ref a.tr), (2, .ref d.mo), (3, .ref a.out), (4, .int i)]) hx hb d_Law_law_573 hl (by decide) rfl (fun ls hl => ?_)
  refine lv_aload_n hx hb d_Law_law_575 rfl (lv_at hl 3 rfl) ?_
  refine lv_aload_n hx hb d_Law_law_576 rfl (lv_at hl 1 rfl) ?_
  refine lv_iload hx hb d_Law_law_577 (lv_at hl 5 rfl) ?_
  refine lv_iconst (v := 1) hx hb d_Law_law_579 (by decide) ?_
  refine lv_iadd hx hb d_Law_law_580 ?_
  refine va_sld hx hb hX hbl (hAn _ hbl) hS h1 d_Law_law_581 ?_
  refine kM_feed C0 hKM (va_P_c hP) (va_D_c hD) hS hl.1 hM d_Law_law_582 ⟨by omega, by omega⟩ (fun H locs hP hD hS => ?_)
  have hP := va_P_c hP
  have hD := va_D_c hD
  refine lv_istore (lv' := [(6, .int q), (5, .int k), (0, .ref b), (1, .ref a.tr), (2, .ref d.mo), (3, .ref a.out), (4, .int i)]) hx hb d_Law_law_585 hl (by decide) rfl (fun ls hl => ?_)
  refine lv_goto (tgt := 723) hx hb d_Law_law_587 (by decide) ?_
  exact K _ _ _ hP hD hS (lv_sub hl [2, 3, 4, 5, 6] rfl)
set_option maxHeartbeats 4000000 in
set_option maxRecDepth 100000 in
theorem kc_pass_F {p : Program} {l : Launch} {e : Env} {s : State} {m : MethodId} {args : Array Value} {below : List Frame} {meth : Method} {c : Code} {H : Heap} {locs : List Loc} {cells slots : Nat} {Q : State → Prop} {A : Nat → Prop} {b N : Nat} {xs : Nat → Int32} {dC : Nat → ClassId} {dI : Nat → Nat → Nat} {a : TA} {z z1 : TS} {d : MA} {y y1 : MS} {i : Int32} {ls : Array Slot} {k : Int32} {q : Int32} (C0 : LX p l s m c args A b N xs) (hK : va_K (dC, dI) CL (KF a) s) (hKM : va_K (dC, dI) CL (KM d) s) (hP : va_P (dC, dI) CL (WF a z ++ WM d y) H) (hD : va_D A (WF a z ++ WM d y)) (hS : va_S A s.heap H locs) (hl : lv_has ls 7 [(0, .ref b), (1, .ref a.tr), (2, .ref d.mo), (3, .ref a.out), (4, .int i)]) (h1 : vp_in (i + (1 : Int32)) N) (h2 : vp_in (i + (2 : Int32)) N) (h3 : vp_in (i + (3 : Int32)) N) (h4 : vp_in (i + (4 : Int32)) N) (hf : cells + 2 ≤ room_1.cells ∧ slots + 12 ≤ room_1.slots) (hT : T_pass z  = some (k, z1)) (hM : M_pass y  = some (q, y1)) (K : ∀ (H1 : Heap) (locs1 : List Loc) (ls1 : Array Slot), va_P (dC, dI) CL (WF a z1 ++ WM d y1) H1 → va_D A (WF a z1 ++ WM d y1) → va_S A s.heap H1 locs1 → lv_has ls1 7 [(0, .ref b), (1, .ref a.tr), (2, .ref d.mo), (3, .ref a.out), (4, .int i)] → W p l e room_1 s m args below meth c H1 locs1 (cells + 1) (slots + 6) Q (F0 m 723 ls1 [])) : W p l e room_1 s m args below meth c H locs cells slots Q (F0 m 590 ls []) := by
  obtain ⟨hx, hb, hml, hown, hB, hnw, hxw, hxn, hst, hA, hAn, hlt, hX, hbl⟩ := id C0
  obtain ⟨hf1, hf2⟩ := hf
  refine lv_aload_n hx hb d_Law_law_590 rfl (lv_at hl 1 rfl) ?_
  refine lv_aload_n hx hb d_Law_law_591 rfl (lv_at hl 3 rfl) ?_
  refine kT_pass_F C0 hK hP hD hS hl.1 hT d_Law_law_592 ⟨by omega, by omega⟩ (fun H locs hP hD hS => ?_)
  refine lv_istore (lv' := [(5, .int k), (0, .ref b), (1, .ref a.tr), (2, .ref d.mo), (3, .ref a.out), (4, .int i)]) hx hb d_Law_law_595 hl (by decide) rfl (fun ls hl => ?_)
  refine lv_aload_n hx hb d_Law_law_597 rfl (lv_at hl 3 rfl) ?_
  refine kM_pass C0 hKM (va_P_c hP) (va_D_c hD) hS hl.1 hM d_Law_law_598 ⟨by omega, by omega⟩ (fun H locs hP hD hS => ?_)
  have hP := va_P_c hP
  have hD := va_D_c hD
  refine lv_istore (lv' := [(6, .int q), (5, .int k), (0, .ref b), (1, .ref a.tr), (2, .ref d.mo), (3, .ref a.out), (4, .int i)]) hx hb d_Law_law_601 hl (by decide) rfl (fun ls hl => ?_)
  refine lv_goto (tgt := 723) hx hb d_Law_law_603 (by decide) ?_
  exact K _ _ _ hP hD hS (lv_sub hl [2, 3, 4, 5, 6] rfl)
set_option maxHeartbeats 4000000 in
set_option maxRecDepth 100000 in
theorem kc_read_F {p : Program} {l : Launch} {e : Env} {s : State} {m : MethodId} {args : Array Value} {below : List Frame} {meth : Method} {c : Code} {H : Heap} {locs : List Loc} {cells slots : Nat} {Q : State → Prop} {A : Nat → Prop} {b N : Nat} {xs : Nat → Int32} {dC : Nat → ClassId} {dI : Nat → Nat → Nat} {a : TA} {z z1 : TS} {d : MA} {y y1 : MS} {i : Int32} {ls : Array Slot} {k : Int32} {sw : Nat} {q : Int32} (C0 : LX p l s m c args A b N xs) (hK : va_K (dC, dI) CL (KF a) s) (hKM : va_K (dC, dI) CL (KM d) s) (hP : va_P (dC, dI) CL (WF a z ++ WM d y) H) (hD : va_D A (WF a z ++ WM d y)) (hS : va_S A s.heap H locs) (hl : lv_has ls 7 [(0, .ref b), (1, .ref a.tr), (2, .ref d.mo), (3, .ref a.out), (4, .int i)]) (h1 : vp_in (i + (1 : Int32)) N) (h2 : vp_in (i + (2 : Int32)) N) (h3 : vp_in (i + (3 : Int32)) N) (h4 : vp_in (i + (4 : Int32)) N) (hf : cells + 2 ≤ room_1.cells ∧ slots + 12 ≤ room_1.slots) (hT : T_read_F z = some (k, sw, z1)) (hM : M_read y  = some (q, y1)) (K : ∀ (a1 : TA) (z2 : TS) (H1 : Heap) (locs1 : List Loc) (ls1 : Array Slot), ((a1 = a ∧ z2 = z1 ∧ sw = 0) ∨ (a1 = a.swap ∧ z2 = z1.swap ∧ sw = 1)) → va_K (dC, dI) CL (KF a1) s → va_P (dC, dI) CL (WF a1 z2 ++ WM d y1) H1 → va_D A (WF a1 z2 ++ WM d y1) → va_S A s.heap H1 locs1 → lv_has ls1 7 [(0, .ref b), (1, .ref a1.tr), (2, .ref d.mo), (3, .ref a1.out), (4, .int i)] → W p l e room_1 s m args below meth c H1 locs1 (cells + 1) (slots + 6) Q (F0 m 723 ls1 [])) : W p l e room_1 s m args below meth c H locs cells slots Q (F0 m 606 ls []) := by
  obtain ⟨hx, hb, hml, hown, hB, hnw, hxw, hxn, hst, hA, hAn, hlt, hX, hbl⟩ := id C0
  obtain ⟨hf1, hf2⟩ := hf
  refine lv_aload_n hx hb d_Law_law_606 rfl (lv_at hl 1 rfl) ?_
  refine kT_read_F C0 hK hP hD hS hl.1 hT d_Law_law_607 ⟨by omega, by omega⟩ (fun a1 z2 H locs hrel hK hP hD hS => ?_)
  refine lv_pop hx hb d_Law_law_610 rfl ?_
  refine lv_aload_n hx hb d_Law_law_611 rfl (lv_at hl 2 rfl) ?_
  refine kM_read C0 hKM (va_P_c hP) (va_D_c hD) hS hl.1 hM d_Law_law_612 ⟨by omega, by omega⟩ (fun H locs hP hD hS => ?_)
  have hP := va_P_c hP
  have hD := va_D_c hD
  refine lv_pop hx hb d_Law_law_615 rfl ?_
  refine lv_goto (tgt := 723) hx hb d_Law_law_616 (by decide) ?_
  refine W.widen (k := cells + 1) (n := slots + 6) (by omega) (by omega) ?_
  exact K _ _ _ _ _ hrel hK hP hD hS (by rcases hrel with ⟨rfl, -⟩ | ⟨rfl, -⟩ <;> exact lv_sub hl [0, 1, 2, 3, 4] rfl)
set_option maxHeartbeats 4000000 in
set_option maxRecDepth 100000 in
theorem kc_place_F {p : Program} {l : Launch} {e : Env} {s : State} {m : MethodId} {args : Array Value} {below : List Frame} {meth : Method} {c : Code} {H : Heap} {locs : List Loc} {cells slots : Nat} {Q : State → Prop} {A : Nat → Prop} {b N : Nat} {xs : Nat → Int32} {dC : Nat → ClassId} {dI : Nat → Nat → Nat} {a : TA} {z z1 : TS} {d : MA} {y y1 : MS} {i : Int32} {ls : Array Slot} {k : Int32} {q : Int32} {t : Int32} (C0 : LX p l s m c args A b N xs) (hK : va_K (dC, dI) CL (KF a) s) (hKM : va_K (dC, dI) CL (KM d) s) (hP : va_P (dC, dI) CL (WF a z ++ WM d y) H) (hD : va_D A (WF a z ++ WM d y)) (hS : va_S A s.heap H locs) (hl : lv_has ls 7 [(0, .ref b), (1, .ref a.tr), (2, .ref d.mo), (3, .ref a.out), (4, .int i)]) (h1 : vp_in (i + (1 : Int32)) N) (h2 : vp_in (i + (2 : Int32)) N) (h3 : vp_in (i + (3 : Int32)) N) (h4 : vp_in (i + (4 : Int32)) N) (hf : cells + 2 ≤ room_1.cells ∧ slots + 12 ≤ room_1.slots) (hT : T_place z (xs (i + (1 : Int32)).toNatClampNeg) (xs (i + (2 : Int32)).toNatClampNeg) = some (k, z1)) (hM : M_place y (xs (i + (1 : Int32)).toNatClampNeg) (xs (i + (2 : Int32)).toNatClampNeg) = some (q, y1)) (hth : M_thrown y1  = some t) (hc1 : t = k → k = 0 → ¬ (lg_cmp (z1.out (0 : Int32).toNatClampNeg) q.toInt64) = 0 → False) (hc2 : ¬ t = k → False) (K : ∀ (H1 : Heap) (locs1 : List Loc) (ls1 : Array Slot), va_P (dC, dI) CL (WF a z1 ++ WM d y1) H1 → va_D A (WF a z1 ++ WM d y1) → va_S A s.heap H1 locs1 → lv_has ls1 7 [(0, .ref b), (1, .ref a.tr), (2, .ref d.mo), (3, .ref a.out), (4, .int i)] → W p l e room_1 s m args below meth c H1 locs1 (cells + 1) (slots + 6) Q (F0 m 723 ls1 [])) : W p l e room_1 s m args below meth c H locs cells slots Q (F0 m 619 ls []) := by
  obtain ⟨hx, hb, hml, hown, hB, hnw, hxw, hxn, hst, hA, hAn, hlt, hX, hbl⟩ := id C0
  obtain ⟨hf1, hf2⟩ := hf
  refine lv_aload_n hx hb d_Law_law_619 rfl (lv_at hl 1 rfl) ?_
  refine lv_aload_n hx hb d_Law_law_620 rfl (lv_at hl 0 rfl) ?_
  refine lv_iload hx hb d_Law_law_621 (lv_at hl 4 rfl) ?_
  refine lv_iconst (v := 1) hx hb d_Law_law_623 (by decide) ?_
  refine lv_iadd hx hb d_Law_law_624 ?_
  refine va_sld hx hb hX hbl (hAn _ hbl) hS h1 d_Law_law_625 ?_
  refine lv_aload_n hx hb d_Law_law_626 rfl (lv_at hl 0 rfl) ?_
  refine lv_iload hx hb d_Law_law_627 (lv_at hl 4 rfl) ?_
  refine lv_iconst (v := 2) hx hb d_Law_law_629 (by decide) ?_
  refine lv_iadd hx hb d_Law_law_630 ?_
  refine va_sld hx hb hX hbl (hAn _ hbl) hS h2 d_Law_law_631 ?_
  refine lv_aload_n hx hb d_Law_law_632 rfl (lv_at hl 3 rfl) ?_
  refine kT_place_F C0 hK hP hD hS hl.1 hT d_Law_law_633 ⟨by omega, by omega⟩ (fun H locs hP hD hS => ?_)
  refine lv_istore (lv' := [(5, .int k), (0, .ref b), (1, .ref a.tr), (2, .ref d.mo), (3, .ref a.out), (4, .int i)]) hx hb d_Law_law_636 hl (by decide) rfl (fun ls hl => ?_)
  refine lv_aload_n hx hb d_Law_law_638 rfl (lv_at hl 3 rfl) ?_
  refine lv_aload_n hx hb d_Law_law_639 rfl (lv_at hl 1 rfl) ?_
  refine lv_iload hx hb d_Law_law_640 (lv_at hl 5 rfl) ?_
  refine lv_iconst (v := 1) hx hb d_Law_law_642 (by decide) ?_
  refine lv_iadd hx hb d_Law_law_643 ?_
  refine va_sld hx hb hX hbl (hAn _ hbl) hS h1 d_Law_law_644 ?_
  refine lv_aload_n hx hb d_Law_law_645 rfl (lv_at hl 1 rfl) ?_
  refine lv_iload hx hb d_Law_law_646 (lv_at hl 5 rfl) ?_
  refine lv_iconst (v := 2) hx hb d_Law_law_648 (by decide) ?_
  refine lv_iadd hx hb d_Law_law_649 ?_
  refine va_sld hx hb hX hbl (hAn _ hbl) hS h2 d_Law_law_650 ?_
  refine kM_place C0 hKM (va_P_c hP) (va_D_c hD) hS hl.1 hM d_Law_law_651 ⟨by omega, by omega⟩ (fun H locs hP hD hS => ?_)
  have hP := va_P_c hP
  have hD := va_D_c hD
  refine lv_istore (lv' := [(6, .int q), (5, .int k), (0, .ref b), (1, .ref a.tr), (2, .ref d.mo), (3, .ref a.out), (4, .int i)]) hx hb d_Law_law_654 hl (by decide) rfl (fun ls hl => ?_)
  refine lv_aload_n hx hb d_Law_law_656 rfl (lv_at hl 4 rfl) ?_
  refine kM_thrown C0 hKM (va_P_c hP) (va_D_c hD) hS hl.1 hth d_Law_law_657 ⟨by omega, by omega⟩ ?_
  refine lv_iload hx hb d_Law_law_660 (lv_at hl 1 rfl) ?_
  refine lv_icmp_eq (tgt := 667) hx hb d_Law_law_662 (by decide) (fun c_1 => ?_) (fun c_1 => ?_)
  · skip
    refine lv_iload hx hb d_Law_law_667 (lv_at hl 1 rfl) ?_
    refine lv_if_ne (tgt := 684) hx hb d_Law_law_669 (by decide) (fun c_2 => ?_) (fun c_2 => ?_)
    · skip
      refine lv_goto (tgt := 723) hx hb d_Law_law_684 (by decide) ?_
      exact K _ _ _ hP hD hS (lv_sub hl [2, 3, 4, 5, 6] rfl)
    · skip
      refine lv_aload_n hx hb d_Law_law_672 rfl (lv_at hl 5 rfl) ?_
      refine lv_iconst (v := 0) hx hb d_Law_law_673 (by decide) ?_
      refine va_lald hx hb hK (va_P_l hP) 31 19 rfl rfl (by unfold vp_in; decide) d_Law_law_674 ?_
      refine lv_iload hx hb d_Law_law_675 (lv_at hl 0 rfl) ?_
      refine lv_i2l hx hb d_Law_law_677 rfl ?_
      refine W.lcmp hx hb d_Law_law_678 ?_
      refine lv_if_eq (tgt := 684) hx hb d_Law_law_679 (by decide) (fun c_3 => ?_) (fun c_3 => ?_)
      · skip
        refine lv_goto (tgt := 723) hx hb d_Law_law_684 (by decide) ?_
        exact K _ _ _ hP hD hS (lv_sub hl [2, 3, 4, 5, 6] rfl)
      · skip
        exact (hc1 c_1 c_2 c_3).elim
  · skip
    exact (hc2 c_1).elim
set_option maxHeartbeats 4000000 in
set_option maxRecDepth 100000 in
theorem kc_told_F {p : Program} {l : Launch} {e : Env} {s : State} {m : MethodId} {args : Array Value} {below : List Frame} {meth : Method} {c : Code} {H : Heap} {locs : List Loc} {cells slots : Nat} {Q : State → Prop} {A : Nat → Prop} {b N : Nat} {xs : Nat → Int32} {dC : Nat → ClassId} {dI : Nat → Nat → Nat} {a : TA} {z z1 : TS} {d : MA} {y y1 : MS} {i : Int32} {ls : Array Slot} {k : Int32} {q : Int32} (C0 : LX p l s m c args A b N xs) (hK : va_K (dC, dI) CL (KF a) s) (hKM : va_K (dC, dI) CL (KM d) s) (hP : va_P (dC, dI) CL (WF a z ++ WM d y) H) (hD : va_D A (WF a z ++ WM d y)) (hS : va_S A s.heap H locs) (hl : lv_has ls 7 [(0, .ref b), (1, .ref a.tr), (2, .ref d.mo), (3, .ref a.out), (4, .int i)]) (h1 : vp_in (i + (1 : Int32)) N) (h2 : vp_in (i + (2 : Int32)) N) (h3 : vp_in (i + (3 : Int32)) N) (h4 : vp_in (i + (4 : Int32)) N) (hf : cells + 2 ≤ room_1.cells ∧ slots + 12 ≤ room_1.slots) (hT : T_told z (xs (i + (1 : Int32)).toNatClampNeg) = some k) (hM : M_told y (xs (i + (1 : Int32)).toNatClampNeg) = some (q, y1)) (K : ∀ (H1 : Heap) (locs1 : List Loc) (ls1 : Array Slot), va_P (dC, dI) CL (WF a z ++ WM d y1) H1 → va_D A (WF a z ++ WM d y1) → va_S A s.heap H1 locs1 → lv_has ls1 7 [(0, .ref b), (1, .ref a.tr), (2, .ref d.mo), (3, .ref a.out), (4, .int i)] → W p l e room_1 s m args below meth c H1 locs1 (cells + 1) (slots + 6) Q (F0 m 723 ls1 [])) : W p l e room_1 s m args below meth c H locs cells slots Q (F0 m 687 ls []) := by
  obtain ⟨hx, hb, hml, hown, hB, hnw, hxw, hxn, hst, hA, hAn, hlt, hX, hbl⟩ := id C0
  obtain ⟨hf1, hf2⟩ := hf
  refine lv_aload_n hx hb d_Law_law_687 rfl (lv_at hl 1 rfl) ?_
  refine lv_aload_n hx hb d_Law_law_688 rfl (lv_at hl 0 rfl) ?_
  refine lv_iload hx hb d_Law_law_689 (lv_at hl 4 rfl) ?_
  refine lv_iconst (v := 1) hx hb d_Law_law_691 (by decide) ?_
  refine lv_iadd hx hb d_Law_law_692 ?_
  refine va_sld hx hb hX hbl (hAn _ hbl) hS h1 d_Law_law_693 ?_
  refine kT_told_F C0 hK hP hD hS hl.1 hT d_Law_law_694 ⟨by omega, by omega⟩ ?_
  refine lv_pop hx hb d_Law_law_697 rfl ?_
  refine lv_aload_n hx hb d_Law_law_698 rfl (lv_at hl 2 rfl) ?_
  refine lv_aload_n hx hb d_Law_law_699 rfl (lv_at hl 0 rfl) ?_
  refine lv_iload hx hb d_Law_law_700 (lv_at hl 4 rfl) ?_
  refine lv_iconst (v := 1) hx hb d_Law_law_702 (by decide) ?_
  refine lv_iadd hx hb d_Law_law_703 ?_
  refine va_sld hx hb hX hbl (hAn _ hbl) hS h1 d_Law_law_704 ?_
  refine kM_told C0 hKM (va_P_c hP) (va_D_c hD) hS hl.1 hM d_Law_law_705 ⟨by omega, by omega⟩ (fun H locs hP hD hS => ?_)
  have hP := va_P_c hP
  have hD := va_D_c hD
  refine lv_pop hx hb d_Law_law_708 rfl ?_
  refine lv_goto (tgt := 723) hx hb d_Law_law_709 (by decide) ?_
  refine W.widen (k := cells + 1) (n := slots + 6) (by omega) (by omega) ?_
  exact K _ _ _ hP hD hS (lv_sub hl [0, 1, 2, 3, 4] rfl)
set_option maxHeartbeats 4000000 in
set_option maxRecDepth 100000 in
theorem kc_clear_F {p : Program} {l : Launch} {e : Env} {s : State} {m : MethodId} {args : Array Value} {below : List Frame} {meth : Method} {c : Code} {H : Heap} {locs : List Loc} {cells slots : Nat} {Q : State → Prop} {A : Nat → Prop} {b N : Nat} {xs : Nat → Int32} {dC : Nat → ClassId} {dI : Nat → Nat → Nat} {a : TA} {z z1 : TS} {d : MA} {y y1 : MS} {i : Int32} {ls : Array Slot}  (C0 : LX p l s m c args A b N xs) (hK : va_K (dC, dI) CL (KF a) s) (hKM : va_K (dC, dI) CL (KM d) s) (hP : va_P (dC, dI) CL (WF a z ++ WM d y) H) (hD : va_D A (WF a z ++ WM d y)) (hS : va_S A s.heap H locs) (hl : lv_has ls 7 [(0, .ref b), (1, .ref a.tr), (2, .ref d.mo), (3, .ref a.out), (4, .int i)]) (h1 : vp_in (i + (1 : Int32)) N) (h2 : vp_in (i + (2 : Int32)) N) (h3 : vp_in (i + (3 : Int32)) N) (h4 : vp_in (i + (4 : Int32)) N) (hf : cells + 2 ≤ room_1.cells ∧ slots + 12 ≤ room_1.slots) (hT : T_clear z  = some z1) (hM : M_clear y  = some y1) (K : ∀ (H1 : Heap) (locs1 : List Loc) (ls1 : Array Slot), va_P (dC, dI) CL (WF a z1 ++ WM d y1) H1 → va_D A (WF a z1 ++ WM d y1) → va_S A s.heap H1 locs1 → lv_has ls1 7 [(0, .ref b), (1, .ref a.tr), (2, .ref d.mo), (3, .ref a.out), (4, .int i)] → W p l e room_1 s m args below meth c H1 locs1 (cells + 1) (slots + 6) Q (F0 m 723 ls1 [])) : W p l e room_1 s m args below meth c H locs cells slots Q (F0 m 712 ls []) := by
  obtain ⟨hx, hb, hml, hown, hB, hnw, hxw, hxn, hst, hA, hAn, hlt, hX, hbl⟩ := id C0
  obtain ⟨hf1, hf2⟩ := hf
  refine lv_aload_n hx hb d_Law_law_712 rfl (lv_at hl 1 rfl) ?_
  refine kT_clear_F C0 hK hP hD hS hl.1 hT d_Law_law_713 ⟨by omega, by omega⟩ (fun H locs hP hD hS => ?_)
  refine lv_aload_n hx hb d_Law_law_716 rfl (lv_at hl 2 rfl) ?_
  refine kM_clear C0 hKM (va_P_c hP) (va_D_c hD) hS hl.1 hM d_Law_law_717 ⟨by omega, by omega⟩ (fun H locs hP hD hS => ?_)
  have hP := va_P_c hP
  have hD := va_D_c hD
  refine lv_goto (tgt := 723) hx hb d_Law_law_720 (by decide) ?_
  refine W.widen (k := cells + 1) (n := slots + 6) (by omega) (by omega) ?_
  exact K _ _ _ hP hD hS (lv_sub hl [0, 1, 2, 3, 4] rfl)
