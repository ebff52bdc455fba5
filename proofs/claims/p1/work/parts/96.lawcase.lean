set_option maxHeartbeats 4000000 in
set_option maxRecDepth 100000 in
theorem kc_symbol_C {p : Program} {l : Launch} {e : Env} {s : State} {m : MethodId} {args : Array Value} {below : List Frame} {meth : Method} {c : Code} {H : Heap} {locs : List Loc} {cells slots : Nat} {Q : State → Prop} {A : Nat → Prop} {b N : Nat} {xs : Nat → Int32} {dC : Nat → ClassId} {dI : Nat → Nat → Nat} {a : TA} {z z1 : TS} {d : MA} {y y1 : MS} {i : Int32} {ls : Array Slot} {k : Int32} {q : Int32} {t : Int32} (C0 : LX p l s m c args A b N xs) (hK : va_K (dC, dI) CL (KC a) s) (hKM : va_K (dC, dI) CL (KM d) s) (hP : va_P (dC, dI) CL (WC a z ++ WM d y) H) (hD : va_D A (WC a z ++ WM d y)) (hS : va_S A s.heap H locs) (hl : lv_has ls 7 [(0, .ref b), (1, .ref a.tr), (2, .ref d.mo), (3, .ref a.out), (4, .int i)]) (h1 : vp_in (i + (1 : Int32)) N) (h2 : vp_in (i + (2 : Int32)) N) (h3 : vp_in (i + (3 : Int32)) N) (h4 : vp_in (i + (4 : Int32)) N) (hf : cells + 2 ≤ room_1.cells ∧ slots + 12 ≤ room_1.slots) (hT : T_symbol z (xs (i + (1 : Int32)).toNatClampNeg) (xs (i + (2 : Int32)).toNatClampNeg) = some (k, z1)) (hM : M_symbol y (xs (i + (1 : Int32)).toNatClampNeg) (xs (i + (2 : Int32)).toNatClampNeg) = some (q, y1)) (hth : M_thrown y1  = some t) (hc1 : t = k → k = 0 → ¬ (lg_cmp (z1.out (0 : Int32).toNatClampNeg) q.toInt64) = 0 → False) (hc2 : ¬ t = k → False) (K : ∀ (H1 : Heap) (locs1 : List Loc) (ls1 : Array Slot), va_P (dC, dI) CL (WC a z1 ++ WM d y1) H1 → va_D A (WC a z1 ++ WM d y1) → va_S A s.heap H1 locs1 → lv_has ls1 7 [(0, .ref b), (1, .ref a.tr), (2, .ref d.mo), (3, .ref a.out), (4, .int i)] → W p l e room_1 s m args below meth c H1 locs1 (cells + 1) (slots + 6) Q (F0 m 1024 ls1 [])) : W p l e room_1 s m args below meth c H locs cells slots Q (F0 m 148 ls []) := by
  obtain ⟨hx, hb, hml, hown, hB, hnw, hxw, hxn, hst, hA, hAn, hlt, hX, hbl⟩ := id C0
  obtain ⟨hf1, hf2⟩ := hf
  refine lv_aload_n hx hb d_Law_law_148 rfl (lv_at hl 1 rfl) ?_
  refine lv_aload_n hx hb d_Law_law_149 rfl (lv_at hl 0 rfl) ?_
  refine lv_iload hx hb d_Law_law_150 (lv_at hl 4 rfl) ?_
  refine lv_iconst (v := 1) hx hb d_Law_law_152 (by decide) ?_
  refine lv_iadd hx hb d_Law_law_153 ?_
  refine va_sld hx hb hX hbl (hAn _ hbl) hS h1 d_Law_law_154 ?_
  refine lv_aload_n hx hb d_Law_law_155 rfl (lv_at hl 0 rfl) ?_
  refine lv_iload hx hb d_Law_law_156 (lv_at hl 4 rfl) ?_
  refine lv_iconst (v := 2) hx hb d_Law_law_158 (by decide) ?_
  refine lv_iadd hx hb d_Law_law_159 ?_
  refine va_sld hx hb hX hbl (hAn _ hbl) hS h2 d_Law_law_160 ?_
  refine lv_aload_n hx hb d_Law_law_161 rfl (lv_at hl 3 rfl) ?_
  refine kT_symbol_C C0 hK hP hD hS hl.1 hT d_Law_law_162 ⟨by omega, by omega⟩ (fun H locs hP hD hS => ?_)
  refine lv_istore (lv' := [(5, .int k), (0, .ref b), (1, .ref a.tr), (2, .ref d.mo), (3, .ref a.out), (4, .int i)]) hx hb d_Law_law_165 hl (by decide) rfl (fun ls hl => ?_)
  refine lv_aload_n hx hb d_Law_law_167 rfl (lv_at hl 3 rfl) ?_
  refine lv_aload_n hx hb d_Law_law_168 rfl (lv_at hl 1 rfl) ?_
  refine lv_iload hx hb d_Law_law_169 (lv_at hl 5 rfl) ?_
  refine lv_iconst (v := 1) hx hb d_Law_law_171 (by decide) ?_
  refine lv_iadd hx hb d_Law_law_172 ?_
  refine va_sld hx hb hX hbl (hAn _ hbl) hS h1 d_Law_law_173 ?_
  refine lv_aload_n hx hb d_Law_law_174 rfl (lv_at hl 1 rfl) ?_
  refine lv_iload hx hb d_Law_law_175 (lv_at hl 5 rfl) ?_
  refine lv_iconst (v := 2) hx hb d_Law_law_177 (by decide) ?_
  refine lv_iadd hx hb d_Law_law_178 ?_
  refine va_sld hx hb hX hbl (hAn _ hbl) hS h2 d_Law_law_179 ?_
  refine kM_symbol C0 hKM (va_P_c hP) (va_D_c hD) hS hl.1 hM d_Law_law_180 ⟨by omega, by omega⟩ (fun H locs hP hD hS => ?_)
  have hP := va_P_c hP
  have hD := va_D_c hD
  refine lv_istore (lv' := [(6, .int q), (5, .int k), (0, .ref b), (1, .ref a.tr), (2, .ref d.mo), (3, .ref a.out), (4, .int i)]) hx hb d_Law_law_183 hl (by decide) rfl (fun ls hl => ?_)
  refine lv_aload_n hx hb d_Law_law_185 rfl (lv_at hl 4 rfl) ?_
  refine kM_thrown C0 hKM (va_P_c hP) (va_D_c hD) hS hl.1 hth d_Law_law_186 ⟨by omega, by omega⟩ ?_
  refine lv_iload hx hb d_Law_law_189 (lv_at hl 1 rfl) ?_
  refine lv_icmp_eq (tgt := 196) hx hb d_Law_law_191 (by decide) (fun c_1 => ?_) (fun c_1 => ?_)
  · skip
    refine lv_iload hx hb d_Law_law_196 (lv_at hl 1 rfl) ?_
    refine lv_if_ne (tgt := 213) hx hb d_Law_law_198 (by decide) (fun c_2 => ?_) (fun c_2 => ?_)
    · skip
      refine lv_goto (tgt := 1024) hx hb d_Law_law_213 (by decide) ?_
      exact K _ _ _ hP hD hS (lv_sub hl [2, 3, 4, 5, 6] rfl)
    · skip
      refine lv_aload_n hx hb d_Law_law_201 rfl (lv_at hl 5 rfl) ?_
      refine lv_iconst (v := 0) hx hb d_Law_law_202 (by decide) ?_
      refine va_lald hx hb hK (va_P_l hP) 34 22 rfl rfl (by unfold vp_in; decide) d_Law_law_203 ?_
      refine lv_iload hx hb d_Law_law_204 (lv_at hl 0 rfl) ?_
      refine lv_i2l hx hb d_Law_law_206 rfl ?_
      refine W.lcmp hx hb d_Law_law_207 ?_
      refine lv_if_eq (tgt := 213) hx hb d_Law_law_208 (by decide) (fun c_3 => ?_) (fun c_3 => ?_)
      · skip
        refine lv_goto (tgt := 1024) hx hb d_Law_law_213 (by decide) ?_
        exact K _ _ _ hP hD hS (lv_sub hl [2, 3, 4, 5, 6] rfl)
      · skip
        exact (hc1 c_1 c_2 c_3).elim
  · skip
    exact (hc2 c_1).elim
set_option maxHeartbeats 4000000 in
set_option maxRecDepth 100000 in
theorem kc_put_C {p : Program} {l : Launch} {e : Env} {s : State} {m : MethodId} {args : Array Value} {below : List Frame} {meth : Method} {c : Code} {H : Heap} {locs : List Loc} {cells slots : Nat} {Q : State → Prop} {A : Nat → Prop} {b N : Nat} {xs : Nat → Int32} {dC : Nat → ClassId} {dI : Nat → Nat → Nat} {a : TA} {z z1 : TS} {d : MA} {y y1 : MS} {i : Int32} {ls : Array Slot} {k : Int32} {q : Int32} {t : Int32} (C0 : LX p l s m c args A b N xs) (hK : va_K (dC, dI) CL (KC a) s) (hKM : va_K (dC, dI) CL (KM d) s) (hP : va_P (dC, dI) CL (WC a z ++ WM d y) H) (hD : va_D A (WC a z ++ WM d y)) (hS : va_S A s.heap H locs) (hl : lv_has ls 7 [(0, .ref b), (1, .ref a.tr), (2, .ref d.mo), (3, .ref a.out), (4, .int i)]) (h1 : vp_in (i + (1 : Int32)) N) (h2 : vp_in (i + (2 : Int32)) N) (h3 : vp_in (i + (3 : Int32)) N) (h4 : vp_in (i + (4 : Int32)) N) (hf : cells + 2 ≤ room_1.cells ∧ slots + 12 ≤ room_1.slots) (hT : T_put z (xs (i + (1 : Int32)).toNatClampNeg) (xs (i + (2 : Int32)).toNatClampNeg) (xs (i + (3 : Int32)).toNatClampNeg) (if (xs (i + (4 : Int32)).toNatClampNeg) = 0 then (0 : Int32) else 1) = some (k, z1)) (hM : M_put y (xs (i + (1 : Int32)).toNatClampNeg) (xs (i + (2 : Int32)).toNatClampNeg) (xs (i + (3 : Int32)).toNatClampNeg) (if (xs (i + (4 : Int32)).toNatClampNeg) = 0 then (0 : Int32) else 1) = some (q, y1)) (hth : M_thrown y1  = some t) (hc1 : (xs (i + (4 : Int32)).toNatClampNeg) = 0 → (xs (i + (4 : Int32)).toNatClampNeg) = 0 → t = k → k = 0 → q = 0 → ¬ (lg_cmp (z1.out (0 : Int32).toNatClampNeg) (0 : Int64)) = 0 → False) (hc2 : (xs (i + (4 : Int32)).toNatClampNeg) = 0 → (xs (i + (4 : Int32)).toNatClampNeg) = 0 → t = k → k = 0 → ¬ q = 0 → ¬ (lg_cmp (z1.out (0 : Int32).toNatClampNeg) (1 : Int64)) = 0 → False) (hc3 : (xs (i + (4 : Int32)).toNatClampNeg) = 0 → (xs (i + (4 : Int32)).toNatClampNeg) = 0 → ¬ t = k → False) (hc4 : ¬ (xs (i + (4 : Int32)).toNatClampNeg) = 0 → ¬ (xs (i + (4 : Int32)).toNatClampNeg) = 0 → t = k → k = 0 → q = 0 → ¬ (lg_cmp (z1.out (0 : Int32).toNatClampNeg) (0 : Int64)) = 0 → False) (hc5 : ¬ (xs (i + (4 : Int32)).toNatClampNeg) = 0 → ¬ (xs (i + (4 : Int32)).toNatClampNeg) = 0 → t = k → k = 0 → ¬ q = 0 → ¬ (lg_cmp (z1.out (0 : Int32).toNatClampNeg) (1 : Int64)) = 0 → False) (hc6 : ¬ (xs (i + (4 : Int32)).toNatClampNeg) = 0 → ¬ (xs (i + (4 : Int32)).toNatClampNeg) = 0 → ¬ t = k → False) (K : ∀ (H1 : Heap) (locs1 : List Loc) (ls1 : Array Slot), va_P (dC, dI) CL (WC a z1 ++ WM d y1) H1 → va_D A (WC a z1 ++ WM d y1) → va_S A s.heap H1 locs1 → lv_has ls1 7 [(0, .ref b), (1, .ref a.tr), (2, .ref d.mo), (3, .ref a.out), (4, .int i)] → W p l e room_1 s m args below meth c H1 locs1 (cells + 1) (slots + 6) Q (F0 m 1024 ls1 [])) : W p l e room_1 s m args below meth c H locs cells slots Q (F0 m 216 ls []) := by
  obtain ⟨hx, hb, hml, hown, hB, hnw, hxw, hxn, hst, hA, hAn, hlt, hX, hbl⟩ := id C0
  obtain ⟨hf1, hf2⟩ := hf
  refine lv_aload_n hx hb d_Law_law_216 rfl (lv_at hl 1 rfl) ?_
  refine lv_aload_n hx hb d_Law_law_217 rfl (lv_at hl 0 rfl) ?_
  refine lv_iload hx hb d_Law_law_218 (lv_at hl 4 rfl) ?_
  refine lv_iconst (v := 1) hx hb d_Law_law_220 (by decide) ?_
  refine lv_iadd hx hb d_Law_law_221 ?_
  refine va_sld hx hb hX hbl (hAn _ hbl) hS h1 d_Law_law_222 ?_
  refine lv_aload_n hx hb d_Law_law_223 rfl (lv_at hl 0 rfl) ?_
  refine lv_iload hx hb d_Law_law_224 (lv_at hl 4 rfl) ?_
  refine lv_iconst (v := 2) hx hb d_Law_law_226 (by decide) ?_
  refine lv_iadd hx hb d_Law_law_227 ?_
  refine va_sld hx hb hX hbl (hAn _ hbl) hS h2 d_Law_law_228 ?_
  refine lv_aload_n hx hb d_Law_law_229 rfl (lv_at hl 0 rfl) ?_
  refine lv_iload hx hb d_Law_law_230 (lv_at hl 4 rfl) ?_
  refine lv_iconst (v := 3) hx hb d_Law_law_232 (by decide) ?_
  refine lv_iadd hx hb d_Law_law_233 ?_
  refine va_sld hx hb hX hbl (hAn _ hbl) hS h3 d_Law_law_234 ?_
  refine lv_aload_n hx hb d_Law_law_235 rfl (lv_at hl 0 rfl) ?_
  refine lv_iload hx hb d_Law_law_236 (lv_at hl 4 rfl) ?_
  refine lv_iconst (v := 4) hx hb d_Law_law_238 (by decide) ?_
  refine lv_iadd hx hb d_Law_law_239 ?_
  refine va_sld hx hb hX hbl (hAn _ hbl) hS h4 d_Law_law_240 ?_
  refine lv_if_eq (tgt := 248) hx hb d_Law_law_241 (by decide) (fun c_1 => ?_) (fun c_1 => ?_)
  · rw [if_pos c_1] at hT hM
    refine lv_iconst (v := 0) hx hb d_Law_law_248 (by decide) ?_
    refine lv_aload_n hx hb d_Law_law_249 rfl (lv_at hl 3 rfl) ?_
    refine kT_put_C C0 hK hP hD hS hl.1 hT d_Law_law_250 ⟨by omega, by omega⟩ (fun H locs hP hD hS => ?_)
    refine lv_istore (lv' := [(5, .int k), (0, .ref b), (1, .ref a.tr), (2, .ref d.mo), (3, .ref a.out), (4, .int i)]) hx hb d_Law_law_253 hl (by decide) rfl (fun ls hl => ?_)
    refine lv_aload_n hx hb d_Law_law_255 rfl (lv_at hl 3 rfl) ?_
    refine lv_aload_n hx hb d_Law_law_256 rfl (lv_at hl 1 rfl) ?_
    refine lv_iload hx hb d_Law_law_257 (lv_at hl 5 rfl) ?_
    refine lv_iconst (v := 1) hx hb d_Law_law_259 (by decide) ?_
    refine lv_iadd hx hb d_Law_law_260 ?_
    refine va_sld hx hb hX hbl (hAn _ hbl) hS h1 d_Law_law_261 ?_
    refine lv_aload_n hx hb d_Law_law_262 rfl (lv_at hl 1 rfl) ?_
    refine lv_iload hx hb d_Law_law_263 (lv_at hl 5 rfl) ?_
    refine lv_iconst (v := 2) hx hb d_Law_law_265 (by decide) ?_
    refine lv_iadd hx hb d_Law_law_266 ?_
    refine va_sld hx hb hX hbl (hAn _ hbl) hS h2 d_Law_law_267 ?_
    refine lv_aload_n hx hb d_Law_law_268 rfl (lv_at hl 1 rfl) ?_
    refine lv_iload hx hb d_Law_law_269 (lv_at hl 5 rfl) ?_
    refine lv_iconst (v := 3) hx hb d_Law_law_271 (by decide) ?_
    refine lv_iadd hx hb d_Law_law_272 ?_
    refine va_sld hx hb hX hbl (hAn _ hbl) hS h3 d_Law_law_273 ?_
    refine lv_aload_n hx hb d_Law_law_274 rfl (lv_at hl 1 rfl) ?_
    refine lv_iload hx hb d_Law_law_275 (lv_at hl 5 rfl) ?_
    refine lv_iconst (v := 4) hx hb d_Law_law_277 (by decide) ?_
    refine lv_iadd hx hb d_Law_law_278 ?_
    refine va_sld hx hb hX hbl (hAn _ hbl) hS h4 d_Law_law_279 ?_
    refine lv_if_eq (tgt := 287) hx hb d_Law_law_280 (by decide) (fun c_2 => ?_) (fun c_2 => ?_)
    · skip
      refine lv_iconst (v := 0) hx hb d_Law_law_287 (by decide) ?_
      refine kM_put C0 hKM (va_P_c hP) (va_D_c hD) hS hl.1 hM d_Law_law_288 ⟨by omega, by omega⟩ (fun H locs hP hD hS => ?_)
      have hP := va_P_c hP
      have hD := va_D_c hD
      refine lv_istore (lv' := [(6, .int q), (5, .int k), (0, .ref b), (1, .ref a.tr), (2, .ref d.mo), (3, .ref a.out), (4, .int i)]) hx hb d_Law_law_291 hl (by decide) rfl (fun ls hl => ?_)
      refine lv_aload_n hx hb d_Law_law_293 rfl (lv_at hl 4 rfl) ?_
      refine kM_thrown C0 hKM (va_P_c hP) (va_D_c hD) hS hl.1 hth d_Law_law_294 ⟨by omega, by omega⟩ ?_
      refine lv_iload hx hb d_Law_law_297 (lv_at hl 1 rfl) ?_
      refine lv_icmp_eq (tgt := 304) hx hb d_Law_law_299 (by decide) (fun c_3 => ?_) (fun c_3 => ?_)
      · skip
        refine lv_iload hx hb d_Law_law_304 (lv_at hl 1 rfl) ?_
        refine lv_if_ne (tgt := 328) hx hb d_Law_law_306 (by decide) (fun c_4 => ?_) (fun c_4 => ?_)
        · skip
          refine lv_goto (tgt := 1024) hx hb d_Law_law_328 (by decide) ?_
          exact K _ _ _ hP hD hS (lv_sub hl [2, 3, 4, 5, 6] rfl)
        · skip
          refine lv_aload_n hx hb d_Law_law_309 rfl (lv_at hl 5 rfl) ?_
          refine lv_iconst (v := 0) hx hb d_Law_law_310 (by decide) ?_
          refine va_lald hx hb hK (va_P_l hP) 34 22 rfl rfl (by unfold vp_in; decide) d_Law_law_311 ?_
          refine lv_iload hx hb d_Law_law_312 (lv_at hl 0 rfl) ?_
          refine lv_if_eq (tgt := 321) hx hb d_Law_law_314 (by decide) (fun c_5 => ?_) (fun c_5 => ?_)
          · skip
            refine lv_lconst (v := 0) hx hb d_Law_law_321 (by decide) ?_
            refine W.lcmp hx hb d_Law_law_322 ?_
            refine lv_if_eq (tgt := 328) hx hb d_Law_law_323 (by decide) (fun c_6 => ?_) (fun c_6 => ?_)
            · skip
              refine lv_goto (tgt := 1024) hx hb d_Law_law_328 (by decide) ?_
              exact K _ _ _ hP hD hS (lv_sub hl [2, 3, 4, 5, 6] rfl)
            · skip
              exact (hc1 c_1 c_2 c_3 c_4 c_5 c_6).elim
          · skip
            refine lv_lconst (v := 1) hx hb d_Law_law_317 (by decide) ?_
            refine lv_goto (tgt := 322) hx hb d_Law_law_318 (by decide) ?_
            refine W.lcmp hx hb d_Law_law_322 ?_
            refine lv_if_eq (tgt := 328) hx hb d_Law_law_323 (by decide) (fun c_7 => ?_) (fun c_7 => ?_)
            · skip
              refine lv_goto (tgt := 1024) hx hb d_Law_law_328 (by decide) ?_
              exact K _ _ _ hP hD hS (lv_sub hl [2, 3, 4, 5, 6] rfl)
            · skip
              exact (hc2 c_1 c_2 c_3 c_4 c_5 c_7).elim
      · skip
        exact (hc3 c_1 c_2 c_3).elim
    · exact absurd c_1 c_2
  · rw [if_neg c_1] at hT hM
    refine lv_iconst (v := 1) hx hb d_Law_law_244 (by decide) ?_
    refine lv_goto (tgt := 249) hx hb d_Law_law_245 (by decide) ?_
    refine lv_aload_n hx hb d_Law_law_249 rfl (lv_at hl 3 rfl) ?_
    refine kT_put_C C0 hK hP hD hS hl.1 hT d_Law_law_250 ⟨by omega, by omega⟩ (fun H locs hP hD hS => ?_)
    refine lv_istore (lv' := [(5, .int k), (0, .ref b), (1, .ref a.tr), (2, .ref d.mo), (3, .ref a.out), (4, .int i)]) hx hb d_Law_law_253 hl (by decide) rfl (fun ls hl => ?_)
    refine lv_aload_n hx hb d_Law_law_255 rfl (lv_at hl 3 rfl) ?_
    refine lv_aload_n hx hb d_Law_law_256 rfl (lv_at hl 1 rfl) ?_
    refine lv_iload hx hb d_Law_law_257 (lv_at hl 5 rfl) ?_
    refine lv_iconst (v := 1) hx hb d_Law_law_259 (by decide) ?_
    refine lv_iadd hx hb d_Law_law_260 ?_
    refine va_sld hx hb hX hbl (hAn _ hbl) hS h1 d_Law_law_261 ?_
    refine lv_aload_n hx hb d_Law_law_262 rfl (lv_at hl 1 rfl) ?_
    refine lv_iload hx hb d_Law_law_263 (lv_at hl 5 rfl) ?_
    refine lv_iconst (v := 2) hx hb d_Law_law_265 (by decide) ?_
    refine lv_iadd hx hb d_Law_law_266 ?_
    refine va_sld hx hb hX hbl (hAn _ hbl) hS h2 d_Law_law_267 ?_
    refine lv_aload_n hx hb d_Law_law_268 rfl (lv_at hl 1 rfl) ?_
    refine lv_iload hx hb d_Law_law_269 (lv_at hl 5 rfl) ?_
    refine lv_iconst (v := 3) hx hb d_Law_law_271 (by decide) ?_
    refine lv_iadd hx hb d_Law_law_272 ?_
    refine va_sld hx hb hX hbl (hAn _ hbl) hS h3 d_Law_law_273 ?_
    refine lv_aload_n hx hb d_Law_law_274 rfl (lv_at hl 1 rfl) ?_
    refine lv_iload hx hb d_Law_law_275 (lv_at hl 5 rfl) ?_
    refine lv_iconst (v := 4) hx hb d_Law_law_277 (by decide) ?_
    refine lv_iadd hx hb d_Law_law_278 ?_
    refine va_sld hx hb hX hbl (hAn _ hbl) hS h4 d_Law_law_279 ?_
    refine lv_if_eq (tgt := 287) hx hb d_Law_law_280 (by decide) (fun c_8 => ?_) (fun c_8 => ?_)
    · exact absurd c_8 c_1
    · skip
      refine lv_iconst (v := 1) hx hb d_Law_law_283 (by decide) ?_
      refine lv_goto (tgt := 288) hx hb d_Law_law_284 (by decide) ?_
      refine kM_put C0 hKM (va_P_c hP) (va_D_c hD) hS hl.1 hM d_Law_law_288 ⟨by omega, by omega⟩ (fun H locs hP hD hS => ?_)
      have hP := va_P_c hP
      have hD := va_D_c hD
      refine lv_istore (lv' := [(6, .int q), (5, .int k), (0, .ref b), (1, .ref a.tr), (2, .ref d.mo), (3, .ref a.out), (4, .int i)]) hx hb d_Law_law_291 hl (by decide) rfl (fun ls hl => ?_)
      refine lv_aload_n hx hb d_Law_law_293 rfl (lv_at hl 4 rfl) ?_
      refine kM_thrown C0 hKM (va_P_c hP) (va_D_c hD) hS hl.1 hth d_Law_law_294 ⟨by omega, by omega⟩ ?_
      refine lv_iload hx hb d_Law_law_297 (lv_at hl 1 rfl) ?_
      refine lv_icmp_eq (tgt := 304) hx hb d_Law_law_299 (by decide) (fun c_9 => ?_) (fun c_9 => ?_)
      · skip
        refine lv_iload hx hb d_Law_law_304 (lv_at hl 1 rfl) ?_
        refine lv_if_ne (tgt := 328) hx hb d_Law_law_306 (by decide) (fun c_10 => ?_) (fun c_10 => ?_)
        · skip
          refine lv_goto (tgt := 1024) hx hb d_Law_law_328 (by decide) ?_
          exact K _ _ _ hP hD hS (lv_sub hl [2, 3, 4, 5, 6] rfl)
        · skip
          refine lv_aload_n hx hb d_Law_law_309 rfl (lv_at hl 5 rfl) ?_
          refine lv_iconst (v := 0) hx hb d_Law_law_310 (by decide) ?_
          refine va_lald hx hb hK (va_P_l hP) 34 22 rfl rfl (by unfold vp_in; decide) d_Law_law_311 ?_
          refine lv_iload hx hb d_Law_law_312 (lv_at hl 0 rfl) ?_
          refine lv_if_eq (tgt := 321) hx hb d_Law_law_314 (by decide) (fun c_11 => ?_) (fun c_11 => ?_)
          · skip
            refine lv_lconst (v := 0) hx hb d_Law_law_321 (by decide) ?_
            refine W.lcmp hx hb d_Law_law_322 ?_
            refine lv_if_eq (tgt := 328) hx hb d_Law_law_323 (by decide) (fun c_12 => ?_) (fun c_12 => ?_)
            · skip
              refine lv_goto (tgt := 1024) hx hb d_Law_law_328 (by decide) ?_
              exact K _ _ _ hP hD hS (lv_sub hl [2, 3, 4, 5, 6] rfl)
            · skip
              exact (hc4 c_1 c_8 c_9 c_10 c_11 c_12).elim
          · skip
            refine lv_lconst (v := 1) hx hb d_Law_law_317 (by decide) ?_
            refine lv_goto (tgt := 322) hx hb d_Law_law_318 (by decide) ?_
            refine W.lcmp hx hb d_Law_law_322 ?_
            refine lv_if_eq (tgt := 328) hx hb d_Law_law_323 (by decide) (fun c_13 => ?_) (fun c_13 => ?_)
            · skip
              refine lv_goto (tgt := 1024) hx hb d_Law_law_328 (by decide) ?_
              exact K _ _ _ hP hD hS (lv_sub hl [2, 3, 4, 5, 6] rfl)
            · skip
              exact (hc5 c_1 c_8 c_9 c_10 c_11 c_13).elim
      · skip
        exact (hc6 c_1 c_8 c_9).elim
set_option maxHeartbeats 4000000 in
set_option maxRecDepth 100000 in
theorem kc_instance_C {p : Program} {l : Launch} {e : Env} {s : State} {m : MethodId} {args : Array Value} {below : List Frame} {meth : Method} {c : Code} {H : Heap} {locs : List Loc} {cells slots : Nat} {Q : State → Prop} {A : Nat → Prop} {b N : Nat} {xs : Nat → Int32} {dC : Nat → ClassId} {dI : Nat → Nat → Nat} {a : TA} {z z1 : TS} {d : MA} {y y1 : MS} {i : Int32} {ls : Array Slot} {k : Int32} {q : Int32} {t : Int32} (C0 : LX p l s m c args A b N xs) (hK : va_K (dC, dI) CL (KC a) s) (hKM : va_K (dC, dI) CL (KM d) s) (hP : va_P (dC, dI) CL (WC a z ++ WM d y) H) (hD : va_D A (WC a z ++ WM d y)) (hS : va_S A s.heap H locs) (hl : lv_has ls 7 [(0, .ref b), (1, .ref a.tr), (2, .ref d.mo), (3, .ref a.out), (4, .int i)]) (h1 : vp_in (i + (1 : Int32)) N) (h2 : vp_in (i + (2 : Int32)) N) (h3 : vp_in (i + (3 : Int32)) N) (h4 : vp_in (i + (4 : Int32)) N) (hf : cells + 2 ≤ room_1.cells ∧ slots + 12 ≤ room_1.slots) (hT : T_instance z (xs (i + (1 : Int32)).toNatClampNeg) (xs (i + (2 : Int32)).toNatClampNeg) (xs (i + (3 : Int32)).toNatClampNeg) = some (k, z1)) (hM : M_instance y (xs (i + (1 : Int32)).toNatClampNeg) (xs (i + (2 : Int32)).toNatClampNeg) (xs (i + (3 : Int32)).toNatClampNeg) = some (q, y1)) (hth : M_thrown y1  = some t) (hc1 : t = k → k = 0 → ¬ (lg_cmp (z1.out (0 : Int32).toNatClampNeg) q.toInt64) = 0 → False) (hc2 : ¬ t = k → False) (K : ∀ (H1 : Heap) (locs1 : List Loc) (ls1 : Array Slot), va_P (dC, dI) CL (WC a z1 ++ WM d y1) H1 → va_D A (WC a z1 ++ WM d y1) → va_S A s.heap H1 locs1 → lv_has ls1 7 [(0, .ref b), (1, .ref a.tr), (2, .ref d.mo), (3, .ref a.out), (4, .int i)] → W p l e room_1 s m args below meth c H1 locs1 (cells + 1) (slots + 6) Q (F0 m 1024 ls1 [])) : W p l e room_1 s m args below meth c H locs cells slots Q (F0 m 331 ls []) := by
  obtain ⟨hx, hb, hml, hown, hB, hnw, hxw, hxn, hst, hA, hAn, hlt, hX, hbl⟩ := id C0
  obtain ⟨hf1, hf2⟩ := hf
  refine lv_aload_n hx hb d_Law_law_331 rfl (lv_at hl 1 rfl) ?_
  refine lv_aload_n hx hb d_Law_law_332 rfl (lv_at hl 0 rfl) ?_
  refine lv_iload hx hb d_Law_law_333 (lv_at hl 4 rfl) ?_
  refine lv_iconst (v := 1) hx hb d_Law_law_335 (by decide) ?_
  refine lv_iadd hx hb d_Law_law_336 ?_
  refine va_sld hx hb hX hbl (hAn _ hbl) hS h1 d_Law_law_337 ?_
  refine lv_aload_n hx hb d_Law_law_338 rfl (lv_at hl 0 rfl) ?_
  refine lv_iload hx hb d_Law_law_339 (lv_at hl 4 rfl) ?_
  refine lv_iconst (v := 2) hx hb d_Law_law_341 (by decide) ?_
  refine lv_iadd hx hb d_Law_law_342 ?_
  refine va_sld hx hb hX hbl (hAn _ hbl) hS h2 d_Law_law_343 ?_
  refine lv_aload_n hx hb d_Law_law_344 rfl (lv_at hl 0 rfl) ?_
  refine lv_iload hx hb d_Law_law_345 (lv_at hl 4 rfl) ?_
  refine lv_iconst (v := 3) hx hb d_Law_law_347 (by decide) ?_
  refine lv_iadd hx hb d_Law_law_348 ?_
  refine va_sld hx hb hX hbl (hAn _ hbl) hS h3 d_Law_law_349 ?_
  refine lv_aload_n hx hb d_Law_law_350 rfl (lv_at hl 3 rfl) ?_
  refine kT_instance_C C0 hK hP hD hS hl.1 hT d_Law_law_351 ⟨by omega, by omega⟩ (fun H locs hP hD hS => ?_)
  refine lv_istore (lv' := [(5, .int k), (0, .ref b), (1, .ref a.tr), (2, .ref d.mo), (3, .ref a.out), (4, .int i)]) hx hb d_Law_law_354 hl (by decide) rfl (fun ls hl => ?_)
  refine lv_aload_n hx hb d_Law_law_356 rfl (lv_at hl 3 rfl) ?_
  refine lv_aload_n hx hb d_Law_law_357 rfl (lv_at hl 1 rfl) ?_
  refine lv_iload hx hb d_Law_law_358 (lv_at hl 5 rfl) ?_
  refine lv_iconst (v := 1) hx hb d_Law_law_360 (by decide) ?_
  refine lv_iadd hx hb d_Law_law_361 ?_
  refine va_sld hx hb hX hbl (hAn _ hbl) hS h1 d_Law_law_362 ?_
  refine lv_aload_n hx hb d_Law_law_363 rfl (lv_at hl 1 rfl) ?_
  refine lv_iload hx hb d_Law_law_364 (lv_at hl 5 rfl) ?_
  refine lv_iconst (v := 2) hx hb d_Law_law_366 (by decide) ?_
  refine lv_iadd hx hb d_Law_law_367 ?_
  refine va_sld hx hb hX hbl (hAn _ hbl) hS h2 d_Law_law_368 ?_
  refine lv_aload_n hx hb d_Law_law_369 rfl (lv_at hl 1 rfl) ?_
  refine lv_iload hx hb d_Law_law_370 (lv_at hl 5 rfl) ?_
  refine lv_iconst (v := 3) hx hb d_Law_law_372 (by decide) ?_
  refine lv_iadd hx hb d_Law_law_373 ?_
  refine va_sld hx hb hX hbl (hAn _ hbl) hS h3 d_Law_law_374 ?_
  refine kM_instance C0 hKM (va_P_c hP) (va_D_c hD) hS hl.1 hM d_Law_law_375 ⟨by omega, by omega⟩ (fun H locs hP hD hS => ?_)
  have hP := va_P_c hP
  have hD := va_D_c hD
  refine lv_istore (lv' := [(6, .int q), (5, .int k), (0, .ref b), (1, .ref a.tr), (2, .ref d.mo), (3, .ref a.out), (4, .int i)]) hx hb d_Law_law_378 hl (by decide) rfl (fun ls hl => ?_)
  refine lv_aload_n hx hb d_Law_law_380 rfl (lv_at hl 4 rfl) ?_
  refine kM_thrown C0 hKM (va_P_c hP) (va_D_c hD) hS hl.1 hth d_Law_law_381 ⟨by omega, by omega⟩ ?_
  refine lv_iload hx hb d_Law_law_384 (lv_at hl 1 rfl) ?_
  refine lv_icmp_eq (tgt := 391) hx hb d_Law_law_386 (by decide) (fun c_1 => ?_) (fun c_1 => ?_)
  · skip
    refine lv_iload hx hb d_Law_law_391 (lv_at hl 1 rfl) ?_
    refine lv_if_ne (tgt := 408) hx hb d_Law_law_393 (by decide) (fun c_2 => ?_) (fun c_2 => ?_)
    · skip
      refine lv_goto (tgt := 1024) hx hb d_Law_law_408 (by decide) ?_
      exact K _ _ _ hP hD hS (lv_sub hl [2, 3, 4, 5, 6] rfl)
    · skip
      refine lv_aload_n hx hb d_Law_law_396 rfl (lv_at hl 5 rfl) ?_
      refine lv_iconst (v := 0) hx hb d_Law_law_397 (by decide) ?_
      refine va_lald hx hb hK (va_P_l hP) 34 22 rfl rfl (by unfold vp_in; decide) d_Law_law_398 ?_
      refine lv_iload hx hb d_Law_law_399 (lv_at hl 0 rfl) ?_
      refine lv_i2l hx hb d_Law_law_401 rfl ?_
      refine W.lcmp hx hb d_Law_law_402 ?_
      refine lv_if_eq (tgt := 408) hx hb d_Law_law_403 (by decide) (fun c_3 => ?_) (fun c_3 => ?_)
      · skip
        refine lv_goto (tgt := 1024) hx hb d_Law_law_408 (by decide) ?_
        exact K _ _ _ hP hD hS (lv_sub hl [2, 3, 4, 5, 6] rfl)
      · skip
        exact (hc1 c_1 c_2 c_3).elim
  · skip
    exact (hc2 c_1).elim
set_option maxHeartbeats 4000000 in
set_option maxRecDepth 100000 in
theorem kc_refine_C {p : Program} {l : Launch} {e : Env} {s : State} {m : MethodId} {args : Array Value} {below : List Frame} {meth : Method} {c : Code} {H : Heap} {locs : List Loc} {cells slots : Nat} {Q : State → Prop} {A : Nat → Prop} {b N : Nat} {xs : Nat → Int32} {dC : Nat → ClassId} {dI : Nat → Nat → Nat} {a : TA} {z z1 : TS} {d : MA} {y y1 : MS} {i : Int32} {ls : Array Slot} {k : Int32} {q : Int32} {t : Int32} (C0 : LX p l s m c args A b N xs) (hK : va_K (dC, dI) CL (KC a) s) (hKM : va_K (dC, dI) CL (KM d) s) (hP : va_P (dC, dI) CL (WC a z ++ WM d y) H) (hD : va_D A (WC a z ++ WM d y)) (hS : va_S A s.heap H locs) (hl : lv_has ls 7 [(0, .ref b), (1, .ref a.tr), (2, .ref d.mo), (3, .ref a.out), (4, .int i)]) (h1 : vp_in (i + (1 : Int32)) N) (h2 : vp_in (i + (2 : Int32)) N) (h3 : vp_in (i + (3 : Int32)) N) (h4 : vp_in (i + (4 : Int32)) N) (hf : cells + 2 ≤ room_1.cells ∧ slots + 12 ≤ room_1.slots) (hT : T_refine z (xs (i + (1 : Int32)).toNatClampNeg) (xs (i + (2 : Int32)).toNatClampNeg) (xs (i + (3 : Int32)).toNatClampNeg) (if (xs (i + (4 : Int32)).toNatClampNeg) = 0 then (0 : Int32) else 1) = some (k, z1)) (hM : M_refine y (xs (i + (1 : Int32)).toNatClampNeg) (xs (i + (2 : Int32)).toNatClampNeg) (xs (i + (3 : Int32)).toNatClampNeg) (if (xs (i + (4 : Int32)).toNatClampNeg) = 0 then (0 : Int32) else 1) = some (q, y1)) (hth : M_thrown y1  = some t) (hc1 : (xs (i + (4 : Int32)).toNatClampNeg) = 0 → (xs (i + (4 : Int32)).toNatClampNeg) = 0 → t = k → k = 0 → q = 0 → ¬ (lg_cmp (z1.out (0 : Int32).toNatClampNeg) (0 : Int64)) = 0 → False) (hc2 : (xs (i + (4 : Int32)).toNatClampNeg) = 0 → (xs (i + (4 : Int32)).toNatClampNeg) = 0 → t = k → k = 0 → ¬ q = 0 → ¬ (lg_cmp (z1.out (0 : Int32).toNatClampNeg) (1 : Int64)) = 0 → False) (hc3 : (xs (i + (4 : Int32)).toNatClampNeg) = 0 → (xs (i + (4 : Int32)).toNatClampNeg) = 0 → ¬ t = k → False) (hc4 : ¬ (xs (i + (4 : Int32)).toNatClampNeg) = 0 → ¬ (xs (i + (4 : Int32)).toNatClampNeg) = 0 → t = k → k = 0 → q = 0 → ¬ (lg_cmp (z1.out (0 : Int32).toNatClampNeg) (0 : Int64)) = 0 → False) (hc5 : ¬ (xs (i + (4 : Int32)).toNatClampNeg) = 0 → ¬ (xs (i + (4 : Int32)).toNatClampNeg) = 0 → t = k → k = 0 → ¬ q = 0 → ¬ (lg_cmp (z1.out (0 : Int32).toNatClampNeg) (1 : Int64)) = 0 → False) (hc6 : ¬ (xs (i + (4 : Int32)).toNatClampNeg) = 0 → ¬ (xs (i + (4 : Int32)).toNatClampNeg) = 0 → ¬ t = k → False) (K : ∀ (H1 : Heap) (locs1 : List Loc) (ls1 : Array Slot), va_P (dC, dI) CL (WC a z1 ++ WM d y1) H1 → va_D A (WC a z1 ++ WM d y1) → va_S A s.heap H1 locs1 → lv_has ls1 7 [(0, .ref b), (1, .ref a.tr), (2, .ref d.mo), (3, .ref a.out), (4, .int i)] → W p l e room_1 s m args below meth c H1 locs1 (cells + 1) (slots + 6) Q (F0 m 1024 ls1 [])) : W p l e room_1 s m args below meth c H locs cells slots Q (F0 m 411 ls []) := by
  obtain ⟨hx, hb, hml, hown, hB, hnw, hxw, hxn, hst, hA, hAn, hlt, hX, hbl⟩ := id C0
  obtain ⟨hf1, hf2⟩ := hf
  refine lv_aload_n hx hb d_Law_law_411 rfl (lv_at hl 1 rfl) ?_
  refine lv_aload_n hx hb d_Law_law_412 rfl (lv_at hl 0 rfl) ?_
  refine lv_iload hx hb d_Law_law_413 (lv_at hl 4 rfl) ?_
  refine lv_iconst (v := 1) hx hb d_Law_law_415 (by decide) ?_
  refine lv_iadd hx hb d_Law_law_416 ?_
  refine va_sld hx hb hX hbl (hAn _ hbl) hS h1 d_Law_law_417 ?_
  refine lv_aload_n hx hb d_Law_law_418 rfl (lv_at hl 0 rfl) ?_
  refine lv_iload hx hb d_Law_law_419 (lv_at hl 4 rfl) ?_
  refine lv_iconst (v := 2) hx hb d_Law_law_421 (by decide) ?_
  refine lv_iadd hx hb d_Law_law_422 ?_
  refine va_sld hx hb hX hbl (hAn _ hbl) hS h2 d_Law_law_423 ?_
  refine lv_aload_n hx hb d_Law_law_424 rfl (lv_at hl 0 rfl) ?_
  refine lv_iload hx hb d_Law_law_425 (lv_at hl 4 rfl) ?_
  refine lv_iconst (v := 3) hx hb d_Law_law_427 (by decide) ?_
  refine lv_iadd hx hb d_Law_law_428 ?_
  refine va_sld hx hb hX hbl (hAn _ hbl) hS h3 d_Law_law_429 ?_
  refine lv_aload_n hx hb d_Law_law_430 rfl (lv_at hl 0 rfl) ?_
  refine lv_iload hx hb d_Law_law_431 (lv_at hl 4 rfl) ?_
  refine lv_iconst (v := 4) hx hb d_Law_law_433 (by decide) ?_
  refine lv_iadd hx hb d_Law_law_434 ?_
  refine va_sld hx hb hX hbl (hAn _ hbl) hS h4 d_Law_law_435 ?_
  refine lv_if_eq (tgt := 443) hx hb d_Law_law_436 (by decide) (fun c_1 => ?_) (fun c_1 => ?_)
  · rw [if_pos c_1] at hT hM
    refine lv_iconst (v := 0) hx hb d_Law_law_443 (by decide) ?_
    refine lv_aload_n hx hb d_Law_law_444 rfl (lv_at hl 3 rfl) ?_
    refine kT_refine_C C0 hK hP hD hS hl.1 hT d_Law_law_445 ⟨by omega, by omega⟩ (fun H locs hP hD hS => ?_)
    refine lv_istore (lv' := [(5, .int k), (0, .ref b), (1, .ref a.tr), (2, .ref d.mo), (3, .ref a.out), (4, .int i)]) hx hb d_Law_law_448 hl (by decide) rfl (fun ls hl => ?_)
    refine lv_aload_n hx hb d_Law_law_450 rfl (lv_at hl 3 rfl) ?_
    refine lv_aload_n hx hb d_Law_law_451 rfl (lv_at hl 1 rfl) ?_
    refine lv_iload hx hb d_Law_law_452 (lv_at hl 5 rfl) ?_
    refine lv_iconst (v := 1) hx hb d_Law_law_454 (by decide) ?_
    refine lv_iadd hx hb d_Law_law_455 ?_
    refine va_sld hx hb hX hbl (hAn _ hbl) hS h1 d_Law_law_456 ?_
    refine lv_aload_n hx hb d_Law_law_457 rfl (lv_at hl 1 rfl) ?_
    refine lv_iload hx hb d_Law_law_458 (lv_at hl 5 rfl) ?_
    refine lv_iconst (v := 2) hx hb d_Law_law_460 (by decide) ?_
    refine lv_iadd hx hb d_Law_law_461 ?_
    refine va_sld hx hb hX hbl (hAn _ hbl) hS h2 d_Law_law_462 ?_
    refine lv_aload_n hx hb d_Law_law_463 rfl (lv_at hl 1 rfl) ?_
    refine lv_iload hx hb d_Law_law_464 (lv_at hl 5 rfl) ?_
    refine lv_iconst (v := 3) hx hb d_Law_law_466 (by decide) ?_
    refine lv_iadd hx hb d_Law_law_467 ?_
    refine va_sld hx hb hX hbl (hAn _ hbl) hS h3 d_Law_law_468 ?_
    refine lv_aload_n hx hb d_Law_law_469 rfl (lv_at hl 1 rfl) ?_
    refine lv_iload hx hb d_Law_law_470 (lv_at hl 5 rfl) ?_
    refine lv_iconst (v := 4) hx hb d_Law_law_472 (by decide) ?_
    refine lv_iadd hx hb d_Law_law_473 ?_
    refine va_sld hx hb hX hbl (hAn _ hbl) hS h4 d_Law_law_474 ?_
    refine lv_if_eq (tgt := 482) hx hb d_Law_law_475 (by decide) (fun c_2 => ?_) (fun c_2 => ?_)
    · skip
      refine lv_iconst (v := 0) hx hb d_Law_law_482 (by decide) ?_
      refine kM_refine C0 hKM (va_P_c hP) (va_D_c hD) hS hl.1 hM d_Law_law_483 ⟨by omega, by omega⟩ (fun H locs hP hD hS => ?_)
      have hP := va_P_c hP
      have hD := va_D_c hD
      refine lv_istore (lv' := [(6, .int q), (5, .int k), (0, .ref b), (1, .ref a.tr), (2, .ref d.mo), (3, .ref a.out), (4, .int i)]) hx hb d_Law_law_486 hl (by decide) rfl (fun ls hl => ?_)
      refine lv_aload_n hx hb d_Law_law_488 rfl (lv_at hl 4 rfl) ?_
      refine kM_thrown C0 hKM (va_P_c hP) (va_D_c hD) hS hl.1 hth d_Law_law_489 ⟨by omega, by omega⟩ ?_
      refine lv_iload hx hb d_Law_law_492 (lv_at hl 1 rfl) ?_
      refine lv_icmp_eq (tgt := 499) hx hb d_Law_law_494 (by decide) (fun c_3 => ?_) (fun c_3 => ?_)
      · skip
        refine lv_iload hx hb d_Law_law_499 (lv_at hl 1 rfl) ?_
        refine lv_if_ne (tgt := 523) hx hb d_Law_law_501 (by decide) (fun c_4 => ?_) (fun c_4 => ?_)
        · skip
          refine lv_goto (tgt := 1024) hx hb d_Law_law_523 (by decide) ?_
          exact K _ _ _ hP hD hS (lv_sub hl [2, 3, 4, 5, 6] rfl)
        · skip
          refine lv_aload_n hx hb d_Law_law_504 rfl (lv_at hl 5 rfl) ?_
          refine lv_iconst (v := 0) hx hb d_Law_law_505 (by decide) ?_
          refine va_lald hx hb hK (va_P_l hP) 34 22 rfl rfl (by unfold vp_in; decide) d_Law_law_506 ?_
          refine lv_iload hx hb d_Law_law_507 (lv_at hl 0 rfl) ?_
          refine lv_if_eq (tgt := 516) hx hb d_Law_law_509 (by decide) (fun c_5 => ?_) (fun c_5 => ?_)
          · skip
            refine lv_lconst (v := 0) hx hb d_Law_law_516 (by decide) ?_
            refine W.lcmp hx hb d_Law_law_517 ?_
            refine lv_if_eq (tgt := 523) hx hb d_Law_law_518 (by decide) (fun c_6 => ?_) (fun c_6 => ?_)
            · skip
              refine lv_goto (tgt := 1024) hx hb d_Law_law_523 (by decide) ?_
              exact K _ _ _ hP hD hS (lv_sub hl [2, 3, 4, 5, 6] rfl)
            · skip
              exact (hc1 c_1 c_2 c_3 c_4 c_5 c_6).elim
          · skip
            refine lv_lconst (v := 1) hx hb d_Law_law_512 (by decide) ?_
            refine lv_goto (tgt := 517) hx hb d_Law_law_513 (by decide) ?_
            refine W.lcmp hx hb d_Law_law_517 ?_
            refine lv_if_eq (tgt := 523) hx hb d_Law_law_518 (by decide) (fun c_7 => ?_) (fun c_7 => ?_)
            · skip
              refine lv_goto (tgt := 1024) hx hb d_Law_law_523 (by decide) ?_
              exact K _ _ _ hP hD hS (lv_sub hl [2, 3, 4, 5, 6] rfl)
            · skip
              exact (hc2 c_1 c_2 c_3 c_4 c_5 c_7).elim
      · skip
        exact (hc3 c_1 c_2 c_3).elim
    · exact absurd c_1 c_2
  · rw [if_neg c_1] at hT hM
    refine lv_iconst (v := 1) hx hb d_Law_law_439 (by decide) ?_
    refine lv_goto (tgt := 444) hx hb d_Law_law_440 (by decide) ?_
    refine lv_aload_n hx hb d_Law_law_444 rfl (lv_at hl 3 rfl) ?_
    refine kT_refine_C C0 hK hP hD hS hl.1 hT d_Law_law_445 ⟨by omega, by omega⟩ (fun H locs hP hD hS => ?_)
    refine lv_istore (lv' := [(5, .int k), (0, .ref b), (1, .ref a.tr), (2, .ref d.mo), (3, .ref a.out), (4, .int i)]) hx hb d_Law_law_448 hl (by decide) rfl (fun ls hl => ?_)
    refine lv_aload_n hx hb d_Law_law_450 rfl (lv_at hl 3 rfl) ?_
    refine lv_aload_n hx hb d_Law_law_451 rfl (lv_at hl 1 rfl) ?_
    refine lv_iload hx hb d_Law_law_452 (lv_at hl 5 rfl) ?_
    refine lv_iconst (v := 1) hx hb d_Law_law_454 (by decide) ?_
    refine lv_iadd hx hb d_Law_law_455 ?_
    refine va_sld hx hb hX hbl (hAn _ hbl) hS h1 d_Law_law_456 ?_
    refine lv_aload_n hx hb d_Law_law_457 rfl (lv_at hl 1 rfl) ?_
    refine lv_iload hx hb d_Law_law_458 (lv_at hl 5 rfl) ?_
    refine lv_iconst (v := 2) hx hb d_Law_law_460 (by decide) ?_
    refine lv_iadd hx hb d_Law_law_461 ?_
    refine va_sld hx hb hX hbl (hAn _ hbl) hS h2 d_Law_law_462 ?_
    refine lv_aload_n hx hb d_Law_law_463 rfl (lv_at hl 1 rfl) ?_
    refine lv_iload hx hb d_Law_law_464 (lv_at hl 5 rfl) ?_
    refine lv_iconst (v := 3) hx hb d_Law_law_466 (by decide) ?_
    refine lv_iadd hx hb d_Law_law_467 ?_
    refine va_sld hx hb hX hbl (hAn _ hbl) hS h3 d_Law_law_468 ?_
    refine lv_aload_n hx hb d_Law_law_469 rfl (lv_at hl 1 rfl) ?_
    refine lv_iload hx hb d_Law_law_470 (lv_at hl 5 rfl) ?_
    refine lv_iconst (v := 4) hx hb d_Law_law_472 (by decide) ?_
    refine lv_iadd hx hb d_Law_law_473 ?_
    refine va_sld hx hb hX hbl (hAn _ hbl) hS h4 d_Law_law_474 ?_
    refine lv_if_eq (tgt := 482) hx hb d_Law_law_475 (by decide) (fun c_8 => ?_) (fun c_8 => ?_)
    · exact absurd c_8 c_1
    · skip
      refine lv_iconst (v := 1) hx hb d_Law_law_478 (by decide) ?_
      refine lv_goto (tgt := 483) hx hb d_Law_law_479 (by decide) ?_
      refine kM_refine C0 hKM (va_P_c hP) (va_D_c hD) hS hl.1 hM d_Law_law_483 ⟨by omega, by omega⟩ (fun H locs hP hD hS => ?_)
      have hP := va_P_c hP
      have hD := va_D_c hD
      refine lv_istore (lv' := [(6, .int q), (5, .int k), (0, .ref b), (1, .ref a.tr), (2, .ref d.mo), (3, .ref a.out), (4, .int i)]) hx hb d_Law_law_486 hl (by decide) rfl (fun ls hl => ?_)
      refine lv_aload_n hx hb d_Law_law_488 rfl (lv_at hl 4 rfl) ?_
      refine kM_thrown C0 hKM (va_P_c hP) (va_D_c hD) hS hl.1 hth d_Law_law_489 ⟨by omega, by omega⟩ ?_
      refine lv_iload hx hb d_Law_law_492 (lv_at hl 1 rfl) ?_
      refine lv_icmp_eq (tgt := 499) hx hb d_Law_law_494 (by decide) (fun c_9 => ?_) (fun c_9 => ?_)
      · skip
        refine lv_iload hx hb d_Law_law_499 (lv_at hl 1 rfl) ?_
        refine lv_if_ne (tgt := 523) hx hb d_Law_law_501 (by decide) (fun c_10 => ?_) (fun c_10 => ?_)
        · skip
          refine lv_goto (tgt := 1024) hx hb d_Law_law_523 (by decide) ?_
          exact K _ _ _ hP hD hS (lv_sub hl [2, 3, 4, 5, 6] rfl)
        · skip
          refine lv_aload_n hx hb d_Law_law_504 rfl (lv_at hl 5 rfl) ?_
          refine lv_iconst (v := 0) hx hb d_Law_law_505 (by decide) ?_
          refine va_lald hx hb hK (va_P_l hP) 34 22 rfl rfl (by unfold vp_in; decide) d_Law_law_506 ?_
          refine lv_iload hx hb d_Law_law_507 (lv_at hl 0 rfl) ?_
          refine lv_if_eq (tgt := 516) hx hb d_Law_law_509 (by decide) (fun c_11 => ?_) (fun c_11 => ?_)
          · skip
            refine lv_lconst (v := 0) hx hb d_Law_law_516 (by decide) ?_
            refine W.lcmp hx hb d_Law_law_517 ?_
            refine lv_if_eq (tgt := 523) hx hb d_Law_law_518 (by decide) (fun c_12 => ?_) (fun c_12 => ?_)
            · skip
              refine lv_goto (tgt := 1024) hx hb d_Law_law_523 (by decide) ?_
              exact K _ _ _ hP hD hS (lv_sub hl [2, 3, 4, 5, 6] rfl)
            · skip
              exact (hc4 c_1 c_8 c_9 c_10 c_11 c_12).elim
          · skip
            refine lv_lconst (v := 1) hx hb d_Law_law_512 (by decide) ?_
            refine lv_goto (tgt := 517) hx hb d_Law_law_513 (by decide) ?_
            refine W.lcmp hx hb d_Law_law_517 ?_
            refine lv_if_eq (tgt := 523) hx hb d_Law_law_518 (by decide) (fun c_13 => ?_) (fun c_13 => ?_)
            · skip
              refine lv_goto (tgt := 1024) hx hb d_Law_law_523 (by decide) ?_
              exact K _ _ _ hP hD hS (lv_sub hl [2, 3, 4, 5, 6] rfl)
            · skip
              exact (hc5 c_1 c_8 c_9 c_10 c_11 c_13).elim
      · skip
        exact (hc6 c_1 c_8 c_9).elim
set_option maxHeartbeats 4000000 in
set_option maxRecDepth 100000 in
theorem kc_way_C {p : Program} {l : Launch} {e : Env} {s : State} {m : MethodId} {args : Array Value} {below : List Frame} {meth : Method} {c : Code} {H : Heap} {locs : List Loc} {cells slots : Nat} {Q : State → Prop} {A : Nat → Prop} {b N : Nat} {xs : Nat → Int32} {dC : Nat → ClassId} {dI : Nat → Nat → Nat} {a : TA} {z z1 : TS} {d : MA} {y y1 : MS} {i : Int32} {ls : Array Slot} {k : Int32} {q : Int32} {t : Int32} (C0 : LX p l s m c args A b N xs) (hK : va_K (dC, dI) CL (KC a) s) (hKM : va_K (dC, dI) CL (KM d) s) (hP : va_P (dC, dI) CL (WC a z ++ WM d y) H) (hD : va_D A (WC a z ++ WM d y)) (hS : va_S A s.heap H locs) (hl : lv_has ls 7 [(0, .ref b), (1, .ref a.tr), (2, .ref d.mo), (3, .ref a.out), (4, .int i)]) (h1 : vp_in (i + (1 : Int32)) N) (h2 : vp_in (i + (2 : Int32)) N) (h3 : vp_in (i + (3 : Int32)) N) (h4 : vp_in (i + (4 : Int32)) N) (hf : cells + 2 ≤ room_1.cells ∧ slots + 12 ≤ room_1.slots) (hT : T_way z (xs (i + (1 : Int32)).toNatClampNeg) (xs (i + (2 : Int32)).toNatClampNeg) = some (k, z1)) (hM : M_way y (xs (i + (1 : Int32)).toNatClampNeg) (xs (i + (2 : Int32)).toNatClampNeg) = some (q, y1)) (hth : M_thrown y1  = some t) (hc1 : t = k → k = 0 → ¬ (lg_cmp (z1.out (0 : Int32).toNatClampNeg) q.toInt64) = 0 → False) (hc2 : ¬ t = k → False) (K : ∀ (H1 : Heap) (locs1 : List Loc) (ls1 : Array Slot), va_P (dC, dI) CL (WC a z1 ++ WM d y1) H1 → va_D A (WC a z1 ++ WM d y1) → va_S A s.heap H1 locs1 → lv_has ls1 7 [(0, .ref b), (1, .ref a.tr), (2, .ref d.mo), (3, .ref a.out), (4, .int i)] → W p l e room_1 s m args below meth c H1 locs1 (cells + 1) (slots + 6) Q (F0 m 1024 ls1 [])) : W p l e room_1 s m args below meth c H locs cells slots Q (F0 m 526 ls []) := by
  obtain ⟨hx, hb, hml, hown, hB, hnw, hxw, hxn, hst, hA, hAn, hlt, hX, hbl⟩ := id C0
  obtain ⟨hf1, hf2⟩ := hf
  refine lv_aload_n hx hb d_Law_law_526 rfl (lv_at hl 1 rfl) ?_
  refine lv_aload_n hx hb d_Law_law_527 rfl (lv_at hl 0 rfl) ?_
  refine lv_iload hx hb d_Law_law_528 (lv_at hl 4 rfl) ?_
  refine lv_iconst (v := 1) hx hb d_Law_law_530 (by decide) ?_
  refine lv_iadd hx hb d_Law_law_531 ?_
  refine va_sld hx hb hX hbl (hAn _ hbl) hS h1 d_Law_law_532 ?_
  refine lv_aload_n hx hb d_Law_law_533 rfl (lv_at hl 0 rfl) ?_
  refine lv_iload hx hb d_Law_law_534 (lv_at hl 4 rfl) ?_
  refine lv_iconst (v := 2) hx hb d_Law_law_536 (by decide) ?_
  refine lv_iadd hx hb d_Law_law_537 ?_
  refine va_sld hx hb hX hbl (hAn _ hbl) hS h2 d_Law_law_538 ?_
  refine lv_aload_n hx hb d_Law_law_539 rfl (lv_at hl 3 rfl) ?_
  refine kT_way_C C0 hK hP hD hS hl.1 hT d_Law_law_540 ⟨by omega, by omega⟩ (fun H locs hP hD hS => ?_)
  refine lv_istore (lv' := [(5, .int k), (0, .ref b), (1, .ref a.tr), (2, .ref d.mo), (3, .ref a.out), (4, .int i)]) hx hb d_Law_law_543 hl (by decide) rfl (fun ls hl => ?_)
  refine lv_aload_n hx hb d_Law_law_545 rfl (lv_at hl 3 rfl) ?_
  refine lv_aload_n hx hb d_Law_law_546 rfl (lv_at hl 1 rfl) ?_
  refine lv_iload hx hb d_Law_law_547 (lv_at hl 5 rfl) ?_
  refine lv_iconst (v := 1) hx hb d_Law_law_549 (by decide) ?_
  refine lv_iadd hx hb d_Law_law_550 ?_
  refine va_sld hx hb hX hbl (hAn _ hbl) hS h1 d_Law_law_551 ?_
  refine lv_aload_n hx hb d_Law_law_552 rfl (lv_at hl 1 rfl) ?_
  refine lv_iload hx hb d_Law_law_553 (lv_at hl 5 rfl) ?_
  refine lv_iconst (v := 2) hx hb d_Law_law_555 (by decide) ?_
  refine lv_iadd hx hb d_Law_law_556 ?_
  refine va_sld hx hb hX hbl (hAn _ hbl) hS h2 d_Law_law_557 ?_
  refine kM_way C0 hKM (va_P_c hP) (va_D_c hD) hS hl.1 hM d_Law_law_558 ⟨by omega, by omega⟩ (fun H locs hP hD hS => ?_)
  have hP := va_P_c hP
  have hD := va_D_c hD
  refine lv_istore (lv' := [(6, .int q), (5, .int k), (0, .ref b), (1, .ref a.tr), (2, .ref d.mo), (3, .ref a.out), (4, .int i)]) hx hb d_Law_law_561 hl (by decide) rfl (fun ls hl => ?_)
  refine lv_aload_n hx hb d_Law_law_563 rfl (lv_at hl 4 rfl) ?_
  refine kM_thrown C0 hKM (va_P_c hP) (va_D_c hD) hS hl.1 hth d_Law_law_564 ⟨by omega, by omega⟩ ?_
  refine lv_iload hx hb d_Law_law_567 (lv_at hl 1 rfl) ?_
  refine lv_icmp_eq (tgt := 574) hx hb d_Law_law_569 (by decide) (fun c_1 => ?_) (fun c_1 => ?_)
  · skip
    refine lv_iload hx hb d_Law_law_574 (lv_at hl 1 rfl) ?_
    refine lv_if_ne (tgt := 591) hx hb d_Law_law_576 (by decide) (fun c_2 => ?_) (fun c_2 => ?_)
    · skip
      refine lv_goto (tgt := 1024) hx hb d_Law_law_591 (by decide) ?_
      exact K _ _ _ hP hD hS (lv_sub hl [2, 3, 4, 5, 6] rfl)
    · skip
      refine lv_aload_n hx hb d_Law_law_579 rfl (lv_at hl 5 rfl) ?_
      refine lv_iconst (v := 0) hx hb d_Law_law_580 (by decide) ?_
      refine va_lald hx hb hK (va_P_l hP) 34 22 rfl rfl (by unfold vp_in; decide) d_Law_law_581 ?_
      refine lv_iload hx hb d_Law_law_582 (lv_at hl 0 rfl) ?_
      refine lv_i2l hx hb d_Law_law_584 rfl ?_
      refine W.lcmp hx hb d_Law_law_585 ?_
      refine lv_if_eq (tgt := 591) hx hb d_Law_law_586 (by decide) (fun c_3 => ?_) (fun c_3 => ?_)
      · skip
        refine lv_goto (tgt := 1024) hx hb d_Law_law_591 (by decide) ?_
        exact K _ _ _ hP hD hS (lv_sub hl [2, 3, 4, 5, 6] rfl)
      · skip
        exact (hc1 c_1 c_2 c_3).elim
  · skip
    exact (hc2 c_1).elim
set_option maxHeartbeats 4000000 in
set_option maxRecDepth 100000 in
theorem kc_order_C {p : Program} {l : Launch} {e : Env} {s : State} {m : MethodId} {args : Array Value} {below : List Frame} {meth : Method} {c : Code} {H : Heap} {locs : List Loc} {cells slots : Nat} {Q : State → Prop} {A : Nat → Prop} {b N : Nat} {xs : Nat → Int32} {dC : Nat → ClassId} {dI : Nat → Nat → Nat} {a : TA} {z z1 : TS} {d : MA} {y y1 : MS} {i : Int32} {ls : Array Slot} {k : Int32} {q : Int32} {t : Int32} (C0 : LX p l s m c args A b N xs) (hK : va_K (dC, dI) CL (KC a) s) (hKM : va_K (dC, dI) CL (KM d) s) (hP : va_P (dC, dI) CL (WC a z ++ WM d y) H) (hD : va_D A (WC a z ++ WM d y)) (hS : va_S A s.heap H locs) (hl : lv_has ls 7 [(0, .ref b), (1, .ref a.tr), (2, .ref d.mo), (3, .ref a.out), (4, .int i)]) (h1 : vp_in (i + (1 : Int32)) N) (h2 : vp_in (i + (2 : Int32)) N) (h3 : vp_in (i + (3 : Int32)) N) (h4 : vp_in (i + (4 : Int32)) N) (hf : cells + 2 ≤ room_1.cells ∧ slots + 12 ≤ room_1.slots) (hT : T_order_C z (xs (i + (1 : Int32)).toNatClampNeg) = some (k, z1)) (hM : M_order y (xs (i + (1 : Int32)).toNatClampNeg) = some (q, y1)) (hth : M_thrown y1  = some t) (hc1 : t = k → k = 0 → ¬ (lg_cmp (z1.out (0 : Int32).toNatClampNeg) q.toInt64) = 0 → False) (hc2 : ¬ t = k → False) (K : ∀ (H1 : Heap) (locs1 : List Loc) (ls1 : Array Slot), va_P (dC, dI) CL (WC a z1 ++ WM d y1) H1 → va_D A (WC a z1 ++ WM d y1) → va_S A s.heap H1 locs1 → lv_has ls1 7 [(0, .ref b), (1, .ref a.tr), (2, .ref d.mo), (3, .ref a.out), (4, .int i)] → W p l e room_1 s m args below meth c H1 locs1 (cells + 1) (slots + 6) Q (F0 m 1024 ls1 [])) : W p l e room_1 s m args below meth c H locs cells slots Q (F0 m 594 ls []) := by
  obtain ⟨hx, hb, hml, hown, hB, hnw, hxw, hxn, hst, hA, hAn, hlt, hX, hbl⟩ := id C0
  obtain ⟨hf1, hf2⟩ := hf
  refine lv_aload_n hx hb d_Law_law_594 rfl (lv_at hl 1 rfl) ?_
  refine lv_aload_n hx hb d_Law_law_595 rfl (lv_at hl 0 rfl) ?_
  refine lv_iload hx hb d_Law_law_596 (lv_at hl 4 rfl) ?_
  refine lv_iconst (v := 1) hx hb d_Law_law_598 (by decide) ?_
  refine lv_iadd hx hb d_Law_law_599 ?_
  refine va_sld hx hb hX hbl (hAn _ hbl) hS h1 d_Law_law_600 ?_
  refine lv_aload_n hx hb d_Law_law_601 rfl (lv_at hl 3 rfl) ?_
  refine kT_order_C C0 hK hP hD hS hl.1 hT d_Law_law_602 ⟨by omega, by omega⟩ (fun H locs hP hD hS => ?_)
  refine lv_istore (lv' := [(5, .int k), (0, .ref b), (1, .ref a.tr), (2, .ref d.mo), (3, .ref a.out), (4, .int i)]) hx hb d_Law_law_605 hl (by decide) rfl (fun ls hl => ?_)
  refine lv_aload_n hx hb d_Law_law_607 rfl (lv_at hl 3 rfl) ?_
  refine lv_aload_n hx hb d_Law_law_608 rfl (lv_at hl 1 rfl) ?_
  refine lv_iload hx hb d_Law_law_609 (lv_at hl 5 rfl) ?_
  refine lv_iconst (v := 1) hx hb d_Law_law_611 (by decide) ?_
  refine lv_iadd hx hb d_Law_law_612 ?_
  refine va_sld hx hb hX hbl (hAn _ hbl) hS h1 d_Law_law_613 ?_
  refine kM_order C0 hKM (va_P_c hP) (va_D_c hD) hS hl.1 hM d_Law_law_614 ⟨by omega, by omega⟩ (fun H locs hP hD hS => ?_)
  have hP := va_P_c hP
  have hD := va_D_c hD
  refine lv_istore (lv' := [(6, .int q), (5, .int k), (0, .ref b), (1, .ref a.tr), (2, .ref d.mo), (3, .ref a.out), (4, .int i)]) hx hb d_Law_law_617 hl (by decide) rfl (fun ls hl => ?_)
  refine lv_aload_n hx hb d_Law_law_619 rfl (lv_at hl 4 rfl) ?_
  refine kM_thrown C0 hKM (va_P_c hP) (va_D_c hD) hS hl.1 hth d_Law_law_620 ⟨by omega, by omega⟩ ?_
  refine lv_iload hx hb d_Law_law_623 (lv_at hl 1 rfl) ?_
  refine lv_icmp_eq (tgt := 630) hx hb d_Law_law_625 (by decide) (fun c_1 => ?_) (fun c_1 => ?_)
  · skip
    refine lv_iload hx hb d_Law_law_630 (lv_at hl 1 rfl) ?_
    refine lv_if_ne (tgt := 647) hx hb d_Law_law_632 (by decide) (fun c_2 => ?_) (fun c_2 => ?_)
    · skip
      refine lv_goto (tgt := 1024) hx hb d_Law_law_647 (by decide) ?_
      exact K _ _ _ hP hD hS (lv_sub hl [2, 3, 4, 5, 6] rfl)
    · skip
      refine lv_aload_n hx hb d_Law_law_635 rfl (lv_at hl 5 rfl) ?_
      refine lv_iconst (v := 0) hx hb d_Law_law_636 (by decide) ?_
      refine va_lald hx hb hK (va_P_l hP) 34 22 rfl rfl (by unfold vp_in; decide) d_Law_law_637 ?_
      refine lv_iload hx hb d_Law_law_638 (lv_at hl 0 rfl) ?_
      refine lv_i2l hx hb d_Law_law_640 rfl ?_
      refine W.lcmp hx hb d_Law_law_641 ?_
      refine lv_if_eq (tgt := 647) hx hb d_Law_law_642 (by decide) (fun c_3 => ?_) (fun c_3 => ?_)
      · skip
        refine lv_goto (tgt := 1024) hx hb d_Law_law_647 (by decide) ?_
        exact K _ _ _ hP hD hS (lv_sub hl [2, 3, 4, 5, 6] rfl)
      · skip
        exact (hc1 c_1 c_2 c_3).elim
  · skip
    exact (hc2 c_1).elim
set_option maxHeartbeats 4000000 in
set_option maxRecDepth 100000 in
theorem kc_compose_C {p : Program} {l : Launch} {e : Env} {s : State} {m : MethodId} {args : Array Value} {below : List Frame} {meth : Method} {c : Code} {H : Heap} {locs : List Loc} {cells slots : Nat} {Q : State → Prop} {A : Nat → Prop} {b N : Nat} {xs : Nat → Int32} {dC : Nat → ClassId} {dI : Nat → Nat → Nat} {a : TA} {z z1 : TS} {d : MA} {y y1 : MS} {i : Int32} {ls : Array Slot} {k : Int32} {q : Int32} (C0 : LX p l s m c args A b N xs) (hK : va_K (dC, dI) CL (KC a) s) (hKM : va_K (dC, dI) CL (KM d) s) (hP : va_P (dC, dI) CL (WC a z ++ WM d y) H) (hD : va_D A (WC a z ++ WM d y)) (hS : va_S A s.heap H locs) (hl : lv_has ls 7 [(0, .ref b), (1, .ref a.tr), (2, .ref d.mo), (3, .ref a.out), (4, .int i)]) (h1 : vp_in (i + (1 : Int32)) N) (h2 : vp_in (i + (2 : Int32)) N) (h3 : vp_in (i + (3 : Int32)) N) (h4 : vp_in (i + (4 : Int32)) N) (hf : cells + 2 ≤ room_1.cells ∧ slots + 12 ≤ room_1.slots) (hT : T_compose z  = some (k, z1)) (hM : M_compose y  = some (q, y1)) (hc1 : ¬ k = q → False) (K : ∀ (H1 : Heap) (locs1 : List Loc) (ls1 : Array Slot), va_P (dC, dI) CL (WC a z1 ++ WM d y1) H1 → va_D A (WC a z1 ++ WM d y1) → va_S A s.heap H1 locs1 → lv_has ls1 7 [(0, .ref b), (1, .ref a.tr), (2, .ref d.mo), (3, .ref a.out), (4, .int i)] → W p l e room_1 s m args below meth c H1 locs1 (cells + 1) (slots + 6) Q (F0 m 1024 ls1 [])) : W p l e room_1 s m args below meth c H locs cells slots Q (F0 m 650 ls []) := by
  obtain ⟨hx, hb, hml, hown, hB, hnw, hxw, hxn, hst, hA, hAn, hlt, hX, hbl⟩ := id C0
  obtain ⟨hf1, hf2⟩ := hf
  refine lv_aload_n hx hb d_Law_law_650 rfl (lv_at hl 1 rfl) ?_
  refine kT_compose_C C0 hK hP hD hS hl.1 hT d_Law_law_651 ⟨by omega, by omega⟩ (fun H locs hP hD hS => ?_)
  refine lv_aload_n hx hb d_Law_law_654 rfl (lv_at hl 2 rfl) ?_
  refine kM_compose C0 hKM (va_P_c hP) (va_D_c hD) hS hl.1 hM d_Law_law_655 ⟨by omega, by omega⟩ (fun H locs hP hD hS => ?_)
  have hP := va_P_c hP
  have hD := va_D_c hD
  refine lv_icmp_eq (tgt := 1024) hx hb d_Law_law_658 (by decide) (fun c_1 => ?_) (fun c_1 => ?_)
  · skip
    refine W.widen (k := cells + 1) (n := slots + 6) (by omega) (by omega) ?_
    exact K _ _ _ hP hD hS (lv_sub hl [0, 1, 2, 3, 4] rfl)
  · skip
    exact (hc1 c_1).elim
set_option maxHeartbeats 4000000 in
set_option maxRecDepth 100000 in
theorem kc_at_C {p : Program} {l : Launch} {e : Env} {s : State} {m : MethodId} {args : Array Value} {below : List Frame} {meth : Method} {c : Code} {H : Heap} {locs : List Loc} {cells slots : Nat} {Q : State → Prop} {A : Nat → Prop} {b N : Nat} {xs : Nat → Int32} {dC : Nat → ClassId} {dI : Nat → Nat → Nat} {a : TA} {z z1 : TS} {d : MA} {y y1 : MS} {i : Int32} {ls : Array Slot} {k : Int32} {q : Int32} {t : Int32} (C0 : LX p l s m c args A b N xs) (hK : va_K (dC, dI) CL (KC a) s) (hKM : va_K (dC, dI) CL (KM d) s) (hP : va_P (dC, dI) CL (WC a z ++ WM d y) H) (hD : va_D A (WC a z ++ WM d y)) (hS : va_S A s.heap H locs) (hl : lv_has ls 7 [(0, .ref b), (1, .ref a.tr), (2, .ref d.mo), (3, .ref a.out), (4, .int i)]) (h1 : vp_in (i + (1 : Int32)) N) (h2 : vp_in (i + (2 : Int32)) N) (h3 : vp_in (i + (3 : Int32)) N) (h4 : vp_in (i + (4 : Int32)) N) (hf : cells + 2 ≤ room_1.cells ∧ slots + 12 ≤ room_1.slots) (hT : T_at z (xs (i + (1 : Int32)).toNatClampNeg) (xs (i + (2 : Int32)).toNatClampNeg) = some (k, z1)) (hM : M_at y (xs (i + (1 : Int32)).toNatClampNeg) (xs (i + (2 : Int32)).toNatClampNeg) = some (q, y1)) (hth : M_thrown y1  = some t) (hc1 : t = k → k = 0 → q = 0 → ¬ (lg_cmp (z1.out (0 : Int32).toNatClampNeg) (0 : Int64)) = 0 → False) (hc2 : t = k → k = 0 → ¬ q = 0 → ¬ (lg_cmp (z1.out (0 : Int32).toNatClampNeg) (1 : Int64)) = 0 → False) (hc3 : ¬ t = k → False) (K : ∀ (H1 : Heap) (locs1 : List Loc) (ls1 : Array Slot), va_P (dC, dI) CL (WC a z1 ++ WM d y1) H1 → va_D A (WC a z1 ++ WM d y1) → va_S A s.heap H1 locs1 → lv_has ls1 7 [(0, .ref b), (1, .ref a.tr), (2, .ref d.mo), (3, .ref a.out), (4, .int i)] → W p l e room_1 s m args below meth c H1 locs1 (cells + 1) (slots + 6) Q (F0 m 1024 ls1 [])) : W p l e room_1 s m args below meth c H locs cells slots Q (F0 m 663 ls []) := by
  obtain ⟨hx, hb, hml, hown, hB, hnw, hxw, hxn, hst, hA, hAn, hlt, hX, hbl⟩ := id C0
  obtain ⟨hf1, hf2⟩ := hf
  refine lv_aload_n hx hb d_Law_law_663 rfl (lv_at hl 1 rfl) ?_
  refine lv_aload_n hx hb d_Law_law_664 rfl (lv_at hl 0 rfl) ?_
  refine lv_iload hx hb d_Law_law_665 (lv_at hl 4 rfl) ?_
  refine lv_iconst (v := 1) hx hb d_Law_law_667 (by decide) ?_
  refine lv_iadd hx hb d_Law_law_668 ?_
  refine va_sld hx hb hX hbl (hAn _ hbl) hS h1 d_Law_law_669 ?_
  refine lv_aload_n hx hb d_Law_law_670 rfl (lv_at hl 0 rfl) ?_
  refine lv_iload hx hb d_Law_law_671 (lv_at hl 4 rfl) ?_
  refine lv_iconst (v := 2) hx hb d_Law_law_673 (by decide) ?_
  refine lv_iadd hx hb d_Law_law_674 ?_
  refine va_sld hx hb hX hbl (hAn _ hbl) hS h2 d_Law_law_675 ?_
  refine lv_aload_n hx hb d_Law_law_676 rfl (lv_at hl 3 rfl) ?_
  refine kT_at_C C0 hK hP hD hS hl.1 hT d_Law_law_677 ⟨by omega, by omega⟩ (fun H locs hP hD hS => ?_)
  refine lv_istore (lv' := [(5, .int k), (0, .ref b), (1, .ref a.tr), (2, .ref d.mo), (3, .ref a.out), (4, .int i)]) hx hb d_Law_law_680 hl (by decide) rfl (fun ls hl => ?_)
  refine lv_aload_n hx hb d_Law_law_682 rfl (lv_at hl 3 rfl) ?_
  refine lv_aload_n hx hb d_Law_law_683 rfl (lv_at hl 1 rfl) ?_
  refine lv_iload hx hb d_Law_law_684 (lv_at hl 5 rfl) ?_
  refine lv_iconst (v := 1) hx hb d_Law_law_686 (by decide) ?_
  refine lv_iadd hx hb d_Law_law_687 ?_
  refine va_sld hx hb hX hbl (hAn _ hbl) hS h1 d_Law_law_688 ?_
  refine lv_aload_n hx hb d_Law_law_689 rfl (lv_at hl 1 rfl) ?_
  refine lv_iload hx hb d_Law_law_690 (lv_at hl 5 rfl) ?_
  refine lv_iconst (v := 2) hx hb d_Law_law_692 (by decide) ?_
  refine lv_iadd hx hb d_Law_law_693 ?_
  refine va_sld hx hb hX hbl (hAn _ hbl) hS h2 d_Law_law_694 ?_
  refine kM_at C0 hKM (va_P_c hP) (va_D_c hD) hS hl.1 hM d_Law_law_695 ⟨by omega, by omega⟩ (fun H locs hP hD hS => ?_)
  have hP := va_P_c hP
  have hD := va_D_c hD
  refine lv_istore (lv' := [(6, .int q), (5, .int k), (0, .ref b), (1, .ref a.tr), (2, .ref d.mo), (3, .ref a.out), (4, .int i)]) hx hb d_Law_law_698 hl (by decide) rfl (fun ls hl => ?_)
  refine lv_aload_n hx hb d_Law_law_700 rfl (lv_at hl 4 rfl) ?_
  refine kM_thrown C0 hKM (va_P_c hP) (va_D_c hD) hS hl.1 hth d_Law_law_701 ⟨by omega, by omega⟩ ?_
  refine lv_iload hx hb d_Law_law_704 (lv_at hl 1 rfl) ?_
  refine lv_icmp_eq (tgt := 711) hx hb d_Law_law_706 (by decide) (fun c_1 => ?_) (fun c_1 => ?_)
  · skip
    refine lv_iload hx hb d_Law_law_711 (lv_at hl 1 rfl) ?_
    refine lv_if_ne (tgt := 735) hx hb d_Law_law_713 (by decide) (fun c_2 => ?_) (fun c_2 => ?_)
    · skip
      refine lv_goto (tgt := 1024) hx hb d_Law_law_735 (by decide) ?_
      exact K _ _ _ hP hD hS (lv_sub hl [2, 3, 4, 5, 6] rfl)
    · skip
      refine lv_aload_n hx hb d_Law_law_716 rfl (lv_at hl 5 rfl) ?_
      refine lv_iconst (v := 0) hx hb d_Law_law_717 (by decide) ?_
      refine va_lald hx hb hK (va_P_l hP) 34 22 rfl rfl (by unfold vp_in; decide) d_Law_law_718 ?_
      refine lv_iload hx hb d_Law_law_719 (lv_at hl 0 rfl) ?_
      refine lv_if_eq (tgt := 728) hx hb d_Law_law_721 (by decide) (fun c_3 => ?_) (fun c_3 => ?_)
      · skip
        refine lv_lconst (v := 0) hx hb d_Law_law_728 (by decide) ?_
        refine W.lcmp hx hb d_Law_law_729 ?_
        refine lv_if_eq (tgt := 735) hx hb d_Law_law_730 (by decide) (fun c_4 => ?_) (fun c_4 => ?_)
        · skip
          refine lv_goto (tgt := 1024) hx hb d_Law_law_735 (by decide) ?_
          exact K _ _ _ hP hD hS (lv_sub hl [2, 3, 4, 5, 6] rfl)
        · skip
          exact (hc1 c_1 c_2 c_3 c_4).elim
      · skip
        refine lv_lconst (v := 1) hx hb d_Law_law_724 (by decide) ?_
        refine lv_goto (tgt := 729) hx hb d_Law_law_725 (by decide) ?_
        refine W.lcmp hx hb d_Law_law_729 ?_
        refine lv_if_eq (tgt := 735) hx hb d_Law_law_730 (by decide) (fun c_5 => ?_) (fun c_5 => ?_)
        · skip
          refine lv_goto (tgt := 1024) hx hb d_Law_law_735 (by decide) ?_
          exact K _ _ _ hP hD hS (lv_sub hl [2, 3, 4, 5, 6] rfl)
        · skip
          exact (hc2 c_1 c_2 c_3 c_5).elim
  · skip
    exact (hc3 c_1).elim
set_option maxHeartbeats 4000000 in
set_option maxRecDepth 100000 in
theorem kc_write_C {p : Program} {l : Launch} {e : Env} {s : State} {m : MethodId} {args : Array Value} {below : List Frame} {meth : Method} {c : Code} {H : Heap} {locs : List Loc} {cells slots : Nat} {Q : State → Prop} {A : Nat → Prop} {b N : Nat} {xs : Nat → Int32} {dC : Nat → ClassId} {dI : Nat → Nat → Nat} {a : TA} {z z1 : TS} {d : MA} {y y1 : MS} {i : Int32} {ls : Array Slot} {k : Int32} {q : Int32} (C0 : LX p l s m c args A b N xs) (hK : va_K (dC, dI) CL (KC a) s) (hKM : va_K (dC, dI) CL (KM d) s) (hP : va_P (dC, dI) CL (WC a z ++ WM d y) H) (hD : va_D A (WC a z ++ WM d y)) (hS : va_S A s.heap H locs) (hl : lv_has ls 7 [(0, .ref b), (1, .ref a.tr), (2, .ref d.mo), (3, .ref a.out), (4, .int i)]) (h1 : vp_in (i + (1 : Int32)) N) (h2 : vp_in (i + (2 : Int32)) N) (h3 : vp_in (i + (3 : Int32)) N) (h4 : vp_in (i + (4 : Int32)) N) (hf : cells + 2 ≤ room_1.cells ∧ slots + 12 ≤ room_1.slots) (hT : T_write_C z  = some (k, z1)) (hM : M_write y  = some (q, y1)) (hc1 : ¬ k = q → False) (K : ∀ (H1 : Heap) (locs1 : List Loc) (ls1 : Array Slot), va_P (dC, dI) CL (WC a z1 ++ WM d y1) H1 → va_D A (WC a z1 ++ WM d y1) → va_S A s.heap H1 locs1 → lv_has ls1 7 [(0, .ref b), (1, .ref a.tr), (2, .ref d.mo), (3, .ref a.out), (4, .int i)] → W p l e room_1 s m args below meth c H1 locs1 (cells + 1) (slots + 6) Q (F0 m 1024 ls1 [])) : W p l e room_1 s m args below meth c H locs cells slots Q (F0 m 738 ls []) := by
  obtain ⟨hx, hb, hml, hown, hB, hnw, hxw, hxn, hst, hA, hAn, hlt, hX, hbl⟩ := id C0
  obtain ⟨hf1, hf2⟩ := hf
  refine lv_aload_n hx hb d_Law_law_738 rfl (lv_at hl 1 rfl) ?_
  refine kT_write_C C0 hK hP hD hS hl.1 hT d_Law_law_739 ⟨by omega, by omega⟩ (fun H locs hP hD hS => ?_)
  refine lv_aload_n hx hb d_Law_law_742 rfl (lv_at hl 2 rfl) ?_
  refine kM_write C0 hKM (va_P_c hP) (va_D_c hD) hS hl.1 hM d_Law_law_743 ⟨by omega, by omega⟩ (fun H locs hP hD hS => ?_)
  have hP := va_P_c hP
  have hD := va_D_c hD
  refine lv_icmp_eq (tgt := 1024) hx hb d_Law_law_746 (by decide) (fun c_1 => ?_) (fun c_1 => ?_)
  · skip
    refine W.widen (k := cells + 1) (n := slots + 6) (by omega) (by omega) ?_
    exact K _ _ _ hP hD hS (lv_sub hl [0, 1, 2, 3, 4] rfl)
  · skip
    exact (hc1 c_1).elim
set_option maxHeartbeats 4000000 in
set_option maxRecDepth 100000 in
theorem kc_byteAt_C {p : Program} {l : Launch} {e : Env} {s : State} {m : MethodId} {args : Array Value} {below : List Frame} {meth : Method} {c : Code} {H : Heap} {locs : List Loc} {cells slots : Nat} {Q : State → Prop} {A : Nat → Prop} {b N : Nat} {xs : Nat → Int32} {dC : Nat → ClassId} {dI : Nat → Nat → Nat} {a : TA} {z z1 : TS} {d : MA} {y y1 : MS} {i : Int32} {ls : Array Slot} {k : Int32} {q : Int32} {t : Int32} (C0 : LX p l s m c args A b N xs) (hK : va_K (dC, dI) CL (KC a) s) (hKM : va_K (dC, dI) CL (KM d) s) (hP : va_P (dC, dI) CL (WC a z ++ WM d y) H) (hD : va_D A (WC a z ++ WM d y)) (hS : va_S A s.heap H locs) (hl : lv_has ls 7 [(0, .ref b), (1, .ref a.tr), (2, .ref d.mo), (3, .ref a.out), (4, .int i)]) (h1 : vp_in (i + (1 : Int32)) N) (h2 : vp_in (i + (2 : Int32)) N) (h3 : vp_in (i + (3 : Int32)) N) (h4 : vp_in (i + (4 : Int32)) N) (hf : cells + 2 ≤ room_1.cells ∧ slots + 12 ≤ room_1.slots) (hT : T_byteAt z (xs (i + (1 : Int32)).toNatClampNeg) = some (k, z1)) (hM : M_byteAt y (xs (i + (1 : Int32)).toNatClampNeg) = some (q, y1)) (hth : M_thrown y1  = some t) (hc1 : t = k → k = 0 → ¬ (lg_cmp (z1.out (0 : Int32).toNatClampNeg) q.toInt64) = 0 → False) (hc2 : ¬ t = k → False) (K : ∀ (H1 : Heap) (locs1 : List Loc) (ls1 : Array Slot), va_P (dC, dI) CL (WC a z1 ++ WM d y1) H1 → va_D A (WC a z1 ++ WM d y1) → va_S A s.heap H1 locs1 → lv_has ls1 7 [(0, .ref b), (1, .ref a.tr), (2, .ref d.mo), (3, .ref a.out), (4, .int i)] → W p l e room_1 s m args below meth c H1 locs1 (cells + 1) (slots + 6) Q (F0 m 1024 ls1 [])) : W p l e room_1 s m args below meth c H locs cells slots Q (F0 m 751 ls []) := by
  obtain ⟨hx, hb, hml, hown, hB, hnw, hxw, hxn, hst, hA, hAn, hlt, hX, hbl⟩ := id C0
  obtain ⟨hf1, hf2⟩ := hf
  refine lv_aload_n hx hb d_Law_law_751 rfl (lv_at hl 1 rfl) ?_
  refine lv_aload_n hx hb d_Law_law_752 rfl (lv_at hl 0 rfl) ?_
  refine lv_iload hx hb d_Law_law_753 (lv_at hl 4 rfl) ?_
  refine lv_iconst (v := 1) hx hb d_Law_law_755 (by decide) ?_
  refine lv_iadd hx hb d_Law_law_756 ?_
  refine va_sld hx hb hX hbl (hAn _ hbl) hS h1 d_Law_law_757 ?_
  refine lv_aload_n hx hb d_Law_law_758 rfl (lv_at hl 3 rfl) ?_
  refine kT_byteAt_C C0 hK hP hD hS hl.1 hT d_Law_law_759 ⟨by omega, by omega⟩ (fun H locs hP hD hS => ?_)
  refine lv_istore (lv' := [(5, .int k), (0, .ref b), (1, .ref a.tr), (2, .ref d.mo), (3, .ref a.out), (4, .int i)]) hx hb d_Law_law_762 hl (by decide) rfl (fun ls hl => ?_)
  refine lv_aload_n hx hb d_Law_law_764 rfl (lv_at hl 3 rfl) ?_
  refine lv_aload_n hx hb d_Law_law_765 rfl (lv_at hl 1 rfl) ?_
  refine lv_iload hx hb d_Law_law_766 (lv_at hl 5 rfl) ?_
  refine lv_iconst (v := 1) hx hb d_Law_law_768 (by decide) ?_
  refine lv_iadd hx hb d_Law_law_769 ?_
  refine va_sld hx hb hX hbl (hAn _ hbl) hS h1 d_Law_law_770 ?_
  refine kM_byteAt C0 hKM (va_P_c hP) (va_D_c hD) hS hl.1 hM d_Law_law_771 ⟨by omega, by omega⟩ (fun H locs hP hD hS => ?_)
  have hP := va_P_c hP
  have hD := va_D_c hD
  refine lv_istore (lv' := [(6, .int q), (5, .int k), (0, .ref b), (1, .ref a.tr), (2, .ref d.mo), (3, .ref a.out), (4, .int i)]) hx hb d_Law_law_774 hl (by decide) rfl (fun ls hl => ?_)
  refine lv_aload_n hx hb d_Law_law_776 rfl (lv_at hl 4 rfl) ?_
  refine kM_thrown C0 hKM (va_P_c hP) (va_D_c hD) hS hl.1 hth d_Law_law_777 ⟨by omega, by omega⟩ ?_
  refine lv_iload hx hb d_Law_law_780 (lv_at hl 1 rfl) ?_
  refine lv_icmp_eq (tgt := 787) hx hb d_Law_law_782 (by decide) (fun c_1 => ?_) (fun c_1 => ?_)
  · skip
    refine lv_iload hx hb d_Law_law_787 (lv_at hl 1 rfl) ?_
    refine lv_if_ne (tgt := 804) hx hb d_Law_law_789 (by decide) (fun c_2 => ?_) (fun c_2 => ?_)
    · skip
      refine lv_goto (tgt := 1024) hx hb d_Law_law_804 (by decide) ?_
      exact K _ _ _ hP hD hS (lv_sub hl [2, 3, 4, 5, 6] rfl)
    · skip
      refine lv_aload_n hx hb d_Law_law_792 rfl (lv_at hl 5 rfl) ?_
      refine lv_iconst (v := 0) hx hb d_Law_law_793 (by decide) ?_
      refine va_lald hx hb hK (va_P_l hP) 34 22 rfl rfl (by unfold vp_in; decide) d_Law_law_794 ?_
      refine lv_iload hx hb d_Law_law_795 (lv_at hl 0 rfl) ?_
      refine lv_i2l hx hb d_Law_law_797 rfl ?_
      refine W.lcmp hx hb d_Law_law_798 ?_
      refine lv_if_eq (tgt := 804) hx hb d_Law_law_799 (by decide) (fun c_3 => ?_) (fun c_3 => ?_)
      · skip
        refine lv_goto (tgt := 1024) hx hb d_Law_law_804 (by decide) ?_
        exact K _ _ _ hP hD hS (lv_sub hl [2, 3, 4, 5, 6] rfl)
      · skip
        exact (hc1 c_1 c_2 c_3).elim
  · skip
    exact (hc2 c_1).elim
set_option maxHeartbeats 4000000 in
set_option maxRecDepth 100000 in
theorem kc_feed_C {p : Program} {l : Launch} {e : Env} {s : State} {m : MethodId} {args : Array Value} {below : List Frame} {meth : Method} {c : Code} {H : Heap} {locs : List Loc} {cells slots : Nat} {Q : State → Prop} {A : Nat → Prop} {b N : Nat} {xs : Nat → Int32} {dC : Nat → ClassId} {dI : Nat → Nat → Nat} {a : TA} {z z1 : TS} {d : MA} {y y1 : MS} {i : Int32} {ls : Array Slot} {k : Int32} {q : Int32} {t : Int32} (C0 : LX p l s m c args A b N xs) (hK : va_K (dC, dI) CL (KC a) s) (hKM : va_K (dC, dI) CL (KM d) s) (hP : va_P (dC, dI) CL (WC a z ++ WM d y) H) (hD : va_D A (WC a z ++ WM d y)) (hS : va_S A s.heap H locs) (hl : lv_has ls 7 [(0, .ref b), (1, .ref a.tr), (2, .ref d.mo), (3, .ref a.out), (4, .int i)]) (h1 : vp_in (i + (1 : Int32)) N) (h2 : vp_in (i + (2 : Int32)) N) (h3 : vp_in (i + (3 : Int32)) N) (h4 : vp_in (i + (4 : Int32)) N) (hf : cells + 2 ≤ room_1.cells ∧ slots + 12 ≤ room_1.slots) (hT : T_feed z (xs (i + (1 : Int32)).toNatClampNeg) = some (k, z1)) (hM : M_feed y (xs (i + (1 : Int32)).toNatClampNeg) = some (q, y1)) (hth : M_thrown y1  = some t) (hc1 : t = k → k = 0 → ¬ (lg_cmp (z1.out (0 : Int32).toNatClampNeg) q.toInt64) = 0 → False) (hc2 : ¬ t = k → False) (K : ∀ (H1 : Heap) (locs1 : List Loc) (ls1 : Array Slot), va_P (dC, dI) CL (WC a z1 ++ WM d y1) H1 → va_D A (WC a z1 ++ WM d y1) → va_S A s.heap H1 locs1 → lv_has ls1 7 [(0, .ref b), (1, .ref a.tr), (2, .ref d.mo), (3, .ref a.out), (4, .int i)] → W p l e room_1 s m args below meth c H1 locs1 (cells + 1) (slots + 6) Q (F0 m 1024 ls1 [])) : W p l e room_1 s m args below meth c H locs cells slots Q (F0 m 807 ls []) := by
  obtain ⟨hx, hb, hml, hown, hB, hnw, hxw, hxn, hst, hA, hAn, hlt, hX, hbl⟩ := id C0
  obtain ⟨hf1, hf2⟩ := hf
  refine lv_aload_n hx hb d_Law_law_807 rfl (lv_at hl 1 rfl) ?_
  refine lv_aload_n hx hb d_Law_law_808 rfl (lv_at hl 0 rfl) ?_
  refine lv_iload hx hb d_Law_law_809 (lv_at hl 4 rfl) ?_
  refine lv_iconst (v := 1) hx hb d_Law_law_811 (by decide) ?_
  refine lv_iadd hx hb d_Law_law_812 ?_
  refine va_sld hx hb hX hbl (hAn _ hbl) hS h1 d_Law_law_813 ?_
  refine lv_aload_n hx hb d_Law_law_814 rfl (lv_at hl 3 rfl) ?_
  refine kT_feed_C C0 hK hP hD hS hl.1 hT d_Law_law_815 ⟨by omega, by omega⟩ (fun H locs hP hD hS => ?_)
  refine lv_istore (lv' := [(5, .int k), (0, .ref b), (1, .ref a.tr), (2, .ref d.mo), (3, .ref a.out), (4, .int i)]) hx hb d_Law_law_818 hl (by decide) rfl (fun ls hl => ?_)
  refine lv_aload_n hx hb d_Law_law_820 rfl (lv_at hl 3 rfl) ?_
  refine lv_aload_n hx hb d_Law_law_821 rfl (lv_at hl 1 rfl) ?_
  refine lv_iload hx hb d_Law_law_822 (lv_at hl 5 rfl) ?_
  refine lv_iconst (v := 1) hx hb d_Law_law_824 (by decide) ?_
  refine lv_iadd hx hb d_Law_law_825 ?_
  refine va_sld hx hb hX hbl (hAn _ hbl) hS h1 d_Law_law_826 ?_
  refine kM_feed C0 hKM (va_P_c hP) (va_D_c hD) hS hl.1 hM d_Law_law_827 ⟨by omega, by omega⟩ (fun H locs hP hD hS => ?_)
  have hP := va_P_c hP
  have hD := va_D_c hD
  refine lv_istore (lv' := [(6, .int q), (5, .int k), (0, .ref b), (1, .ref a.tr), (2, .ref d.mo), (3, .ref a.out), (4, .int i)]) hx hb d_Law_law_830 hl (by decide) rfl (fun ls hl => ?_)
  refine lv_aload_n hx hb d_Law_law_832 rfl (lv_at hl 4 rfl) ?_
  refine kM_thrown C0 hKM (va_P_c hP) (va_D_c hD) hS hl.1 hth d_Law_law_833 ⟨by omega, by omega⟩ ?_
  refine lv_iload hx hb d_Law_law_836 (lv_at hl 1 rfl) ?_
  refine lv_icmp_eq (tgt := 843) hx hb d_Law_law_838 (by decide) (fun c_1 => ?_) (fun c_1 => ?_)
  · skip
    refine lv_iload hx hb d_Law_law_843 (lv_at hl 1 rfl) ?_
    refine lv_if_ne (tgt := 860) hx hb d_Law_law_845 (by decide) (fun c_2 => ?_) (fun c_2 => ?_)
    · skip
      refine lv_goto (tgt := 1024) hx hb d_Law_law_860 (by decide) ?_
      exact K _ _ _ hP hD hS (lv_sub hl [2, 3, 4, 5, 6] rfl)
    · skip
      refine lv_aload_n hx hb d_Law_law_848 rfl (lv_at hl 5 rfl) ?_
      refine lv_iconst (v := 0) hx hb d_Law_law_849 (by decide) ?_
      refine va_lald hx hb hK (va_P_l hP) 34 22 rfl rfl (by unfold vp_in; decide) d_Law_law_850 ?_
      refine lv_iload hx hb d_Law_law_851 (lv_at hl 0 rfl) ?_
      refine lv_i2l hx hb d_Law_law_853 rfl ?_
      refine W.lcmp hx hb d_Law_law_854 ?_
      refine lv_if_eq (tgt := 860) hx hb d_Law_law_855 (by decide) (fun c_3 => ?_) (fun c_3 => ?_)
      · skip
        refine lv_goto (tgt := 1024) hx hb d_Law_law_860 (by decide) ?_
        exact K _ _ _ hP hD hS (lv_sub hl [2, 3, 4, 5, 6] rfl)
      · skip
        exact (hc1 c_1 c_2 c_3).elim
  · skip
    exact (hc2 c_1).elim
set_option maxHeartbeats 4000000 in
set_option maxRecDepth 100000 in
theorem kc_pass_C {p : Program} {l : Launch} {e : Env} {s : State} {m : MethodId} {args : Array Value} {below : List Frame} {meth : Method} {c : Code} {H : Heap} {locs : List Loc} {cells slots : Nat} {Q : State → Prop} {A : Nat → Prop} {b N : Nat} {xs : Nat → Int32} {dC : Nat → ClassId} {dI : Nat → Nat → Nat} {a : TA} {z z1 : TS} {d : MA} {y y1 : MS} {i : Int32} {ls : Array Slot} {k : Int32} {q : Int32} {t : Int32} (C0 : LX p l s m c args A b N xs) (hK : va_K (dC, dI) CL (KC a) s) (hKM : va_K (dC, dI) CL (KM d) s) (hP : va_P (dC, dI) CL (WC a z ++ WM d y) H) (hD : va_D A (WC a z ++ WM d y)) (hS : va_S A s.heap H locs) (hl : lv_has ls 7 [(0, .ref b), (1, .ref a.tr), (2, .ref d.mo), (3, .ref a.out), (4, .int i)]) (h1 : vp_in (i + (1 : Int32)) N) (h2 : vp_in (i + (2 : Int32)) N) (h3 : vp_in (i + (3 : Int32)) N) (h4 : vp_in (i + (4 : Int32)) N) (hf : cells + 2 ≤ room_1.cells ∧ slots + 12 ≤ room_1.slots) (hT : T_pass z  = some (k, z1)) (hM : M_pass y  = some (q, y1)) (hth : M_thrown y1  = some t) (hc1 : t = k → k = 0 → ¬ (lg_cmp (z1.out (0 : Int32).toNatClampNeg) q.toInt64) = 0 → False) (hc2 : ¬ t = k → False) (K : ∀ (H1 : Heap) (locs1 : List Loc) (ls1 : Array Slot), va_P (dC, dI) CL (WC a z1 ++ WM d y1) H1 → va_D A (WC a z1 ++ WM d y1) → va_S A s.heap H1 locs1 → lv_has ls1 7 [(0, .ref b), (1, .ref a.tr), (2, .ref d.mo), (3, .ref a.out), (4, .int i)] → W p l e room_1 s m args below meth c H1 locs1 (cells + 1) (slots + 6) Q (F0 m 1024 ls1 [])) : W p l e room_1 s m args below meth c H locs cells slots Q (F0 m 863 ls []) := by
  obtain ⟨hx, hb, hml, hown, hB, hnw, hxw, hxn, hst, hA, hAn, hlt, hX, hbl⟩ := id C0
  obtain ⟨hf1, hf2⟩ := hf
  refine lv_aload_n hx hb d_Law_law_863 rfl (lv_at hl 1 rfl) ?_
  refine lv_aload_n hx hb d_Law_law_864 rfl (lv_at hl 3 rfl) ?_
  refine kT_pass_C C0 hK hP hD hS hl.1 hT d_Law_law_865 ⟨by omega, by omega⟩ (fun H locs hP hD hS => ?_)
  refine lv_istore (lv' := [(5, .int k), (0, .ref b), (1, .ref a.tr), (2, .ref d.mo), (3, .ref a.out), (4, .int i)]) hx hb d_Law_law_868 hl (by decide) rfl (fun ls hl => ?_)
  refine lv_aload_n hx hb d_Law_law_870 rfl (lv_at hl 3 rfl) ?_
  refine kM_pass C0 hKM (va_P_c hP) (va_D_c hD) hS hl.1 hM d_Law_law_871 ⟨by omega, by omega⟩ (fun H locs hP hD hS => ?_)
  have hP := va_P_c hP
  have hD := va_D_c hD
  refine lv_istore (lv' := [(6, .int q), (5, .int k), (0, .ref b), (1, .ref a.tr), (2, .ref d.mo), (3, .ref a.out), (4, .int i)]) hx hb d_Law_law_874 hl (by decide) rfl (fun ls hl => ?_)
  refine lv_aload_n hx hb d_Law_law_876 rfl (lv_at hl 4 rfl) ?_
  refine kM_thrown C0 hKM (va_P_c hP) (va_D_c hD) hS hl.1 hth d_Law_law_877 ⟨by omega, by omega⟩ ?_
  refine lv_iload hx hb d_Law_law_880 (lv_at hl 1 rfl) ?_
  refine lv_icmp_eq (tgt := 887) hx hb d_Law_law_882 (by decide) (fun c_1 => ?_) (fun c_1 => ?_)
  · skip
    refine lv_iload hx hb d_Law_law_887 (lv_at hl 1 rfl) ?_
    refine lv_if_ne (tgt := 904) hx hb d_Law_law_889 (by decide) (fun c_2 => ?_) (fun c_2 => ?_)
    · skip
      refine lv_goto (tgt := 1024) hx hb d_Law_law_904 (by decide) ?_
      exact K _ _ _ hP hD hS (lv_sub hl [2, 3, 4, 5, 6] rfl)
    · skip
      refine lv_aload_n hx hb d_Law_law_892 rfl (lv_at hl 5 rfl) ?_
      refine lv_iconst (v := 0) hx hb d_Law_law_893 (by decide) ?_
      refine va_lald hx hb hK (va_P_l hP) 34 22 rfl rfl (by unfold vp_in; decide) d_Law_law_894 ?_
      refine lv_iload hx hb d_Law_law_895 (lv_at hl 0 rfl) ?_
      refine lv_i2l hx hb d_Law_law_897 rfl ?_
      refine W.lcmp hx hb d_Law_law_898 ?_
      refine lv_if_eq (tgt := 904) hx hb d_Law_law_899 (by decide) (fun c_3 => ?_) (fun c_3 => ?_)
      · skip
        refine lv_goto (tgt := 1024) hx hb d_Law_law_904 (by decide) ?_
        exact K _ _ _ hP hD hS (lv_sub hl [2, 3, 4, 5, 6] rfl)
      · skip
        exact (hc1 c_1 c_2 c_3).elim
  · skip
    exact (hc2 c_1).elim
set_option maxHeartbeats 4000000 in
set_option maxRecDepth 100000 in
theorem kc_read_C {p : Program} {l : Launch} {e : Env} {s : State} {m : MethodId} {args : Array Value} {below : List Frame} {meth : Method} {c : Code} {H : Heap} {locs : List Loc} {cells slots : Nat} {Q : State → Prop} {A : Nat → Prop} {b N : Nat} {xs : Nat → Int32} {dC : Nat → ClassId} {dI : Nat → Nat → Nat} {a : TA} {z z1 : TS} {d : MA} {y y1 : MS} {i : Int32} {ls : Array Slot} {k : Int32} {sw : Nat} {q : Int32} (C0 : LX p l s m c args A b N xs) (hK : va_K (dC, dI) CL (KC a) s) (hKM : va_K (dC, dI) CL (KM d) s) (hP : va_P (dC, dI) CL (WC a z ++ WM d y) H) (hD : va_D A (WC a z ++ WM d y)) (hS : va_S A s.heap H locs) (hl : lv_has ls 7 [(0, .ref b), (1, .ref a.tr), (2, .ref d.mo), (3, .ref a.out), (4, .int i)]) (h1 : vp_in (i + (1 : Int32)) N) (h2 : vp_in (i + (2 : Int32)) N) (h3 : vp_in (i + (3 : Int32)) N) (h4 : vp_in (i + (4 : Int32)) N) (hf : cells + 2 ≤ room_1.cells ∧ slots + 12 ≤ room_1.slots) (hT : T_read_C z = some (k, sw, z1)) (hM : M_read y  = some (q, y1)) (hc1 : ¬ k = q → False) (K : ∀ (a1 : TA) (z2 : TS) (H1 : Heap) (locs1 : List Loc) (ls1 : Array Slot), ((a1 = a ∧ z2 = z1 ∧ sw = 0) ∨ (a1 = a.swap ∧ z2 = z1.swap ∧ sw = 1)) → va_K (dC, dI) CL (KC a1) s → va_P (dC, dI) CL (WC a1 z2 ++ WM d y1) H1 → va_D A (WC a1 z2 ++ WM d y1) → va_S A s.heap H1 locs1 → lv_has ls1 7 [(0, .ref b), (1, .ref a1.tr), (2, .ref d.mo), (3, .ref a1.out), (4, .int i)] → W p l e room_1 s m args below meth c H1 locs1 (cells + 1) (slots + 6) Q (F0 m 1024 ls1 [])) : W p l e room_1 s m args below meth c H locs cells slots Q (F0 m 907 ls []) := by
  obtain ⟨hx, hb, hml, hown, hB, hnw, hxw, hxn, hst, hA, hAn, hlt, hX, hbl⟩ := id C0
  obtain ⟨hf1, hf2⟩ := hf
  refine lv_aload_n hx hb d_Law_law_907 rfl (lv_at hl 1 rfl) ?_
  refine kT_read_C C0 hK hP hD hS hl.1 hT d_Law_law_908 ⟨by omega, by omega⟩ (fun a1 z2 H locs hrel hK hP hD hS => ?_)
  refine lv_aload_n hx hb d_Law_law_911 rfl (lv_at hl 2 rfl) ?_
  refine kM_read C0 hKM (va_P_c hP) (va_D_c hD) hS hl.1 hM d_Law_law_912 ⟨by omega, by omega⟩ (fun H locs hP hD hS => ?_)
  have hP := va_P_c hP
  have hD := va_D_c hD
  refine lv_icmp_eq (tgt := 1024) hx hb d_Law_law_915 (by decide) (fun c_1 => ?_) (fun c_1 => ?_)
  · skip
    refine W.widen (k := cells + 1) (n := slots + 6) (by omega) (by omega) ?_
    exact K _ _ _ _ _ hrel hK hP hD hS (by rcases hrel with ⟨rfl, -⟩ | ⟨rfl, -⟩ <;> exact lv_sub hl [0, 1, 2, 3, 4] rfl)
  · skip
    exact (hc1 c_1).elim
set_option maxHeartbeats 4000000 in
set_option maxRecDepth 100000 in
theorem kc_place_C {p : Program} {l : Launch} {e : Env} {s : State} {m : MethodId} {args : Array Value} {below : List Frame} {meth : Method} {c : Code} {H : Heap} {locs : List Loc} {cells slots : Nat} {Q : State → Prop} {A : Nat → Prop} {b N : Nat} {xs : Nat → Int32} {dC : Nat → ClassId} {dI : Nat → Nat → Nat} {a : TA} {z z1 : TS} {d : MA} {y y1 : MS} {i : Int32} {ls : Array Slot} {k : Int32} {q : Int32} {t : Int32} (C0 : LX p l s m c args A b N xs) (hK : va_K (dC, dI) CL (KC a) s) (hKM : va_K (dC, dI) CL (KM d) s) (hP : va_P (dC, dI) CL (WC a z ++ WM d y) H) (hD : va_D A (WC a z ++ WM d y)) (hS : va_S A s.heap H locs) (hl : lv_has ls 7 [(0, .ref b), (1, .ref a.tr), (2, .ref d.mo), (3, .ref a.out), (4, .int i)]) (h1 : vp_in (i + (1 : Int32)) N) (h2 : vp_in (i + (2 : Int32)) N) (h3 : vp_in (i + (3 : Int32)) N) (h4 : vp_in (i + (4 : Int32)) N) (hf : cells + 2 ≤ room_1.cells ∧ slots + 12 ≤ room_1.slots) (hT : T_place z (xs (i + (1 : Int32)).toNatClampNeg) (xs (i + (2 : Int32)).toNatClampNeg) = some (k, z1)) (hM : M_place y (xs (i + (1 : Int32)).toNatClampNeg) (xs (i + (2 : Int32)).toNatClampNeg) = some (q, y1)) (hth : M_thrown y1  = some t) (hc1 : t = k → k = 0 → ¬ (lg_cmp (z1.out (0 : Int32).toNatClampNeg) q.toInt64) = 0 → False) (hc2 : ¬ t = k → False) (K : ∀ (H1 : Heap) (locs1 : List Loc) (ls1 : Array Slot), va_P (dC, dI) CL (WC a z1 ++ WM d y1) H1 → va_D A (WC a z1 ++ WM d y1) → va_S A s.heap H1 locs1 → lv_has ls1 7 [(0, .ref b), (1, .ref a.tr), (2, .ref d.mo), (3, .ref a.out), (4, .int i)] → W p l e room_1 s m args below meth c H1 locs1 (cells + 1) (slots + 6) Q (F0 m 1024 ls1 [])) : W p l e room_1 s m args below meth c H locs cells slots Q (F0 m 920 ls []) := by
  obtain ⟨hx, hb, hml, hown, hB, hnw, hxw, hxn, hst, hA, hAn, hlt, hX, hbl⟩ := id C0
  obtain ⟨hf1, hf2⟩ := hf
  refine lv_aload_n hx hb d_Law_law_920 rfl (lv_at hl 1 rfl) ?_
  refine lv_aload_n hx hb d_Law_law_921 rfl (lv_at hl 0 rfl) ?_
  refine lv_iload hx hb d_Law_law_922 (lv_at hl 4 rfl) ?_
  refine lv_iconst (v := 1) hx hb d_Law_law_924 (by decide) ?_
  refine lv_iadd hx hb d_Law_law_925 ?_
  refine va_sld hx hb hX hbl (hAn _ hbl) hS h1 d_Law_law_926 ?_
  refine lv_aload_n hx hb d_Law_law_927 rfl (lv_at hl 0 rfl) ?_
  refine lv_iload hx hb d_Law_law_928 (lv_at hl 4 rfl) ?_
  refine lv_iconst (v := 2) hx hb d_Law_law_930 (by decide) ?_
  refine lv_iadd hx hb d_Law_law_931 ?_
  refine va_sld hx hb hX hbl (hAn _ hbl) hS h2 d_Law_law_932 ?_
  refine lv_aload_n hx hb d_Law_law_933 rfl (lv_at hl 3 rfl) ?_
  refine kT_place_C C0 hK hP hD hS hl.1 hT d_Law_law_934 ⟨by omega, by omega⟩ (fun H locs hP hD hS => ?_)
  refine lv_istore (lv' := [(5, .int k), (0, .ref b), (1, .ref a.tr), (2, .ref d.mo), (3, .ref a.out), (4, .int i)]) hx hb d_Law_law_937 hl (by decide) rfl (fun ls hl => ?_)
  refine lv_aload_n hx hb d_Law_law_939 rfl (lv_at hl 3 rfl) ?_
  refine lv_aload_n hx hb d_Law_law_940 rfl (lv_at hl 1 rfl) ?_
  refine lv_iload hx hb d_Law_law_941 (lv_at hl 5 rfl) ?_
  refine lv_iconst (v := 1) hx hb d_Law_law_943 (by decide) ?_
  refine lv_iadd hx hb d_Law_law_944 ?_
  refine va_sld hx hb hX hbl (hAn _ hbl) hS h1 d_Law_law_945 ?_
  refine lv_aload_n hx hb d_Law_law_946 rfl (lv_at hl 1 rfl) ?_
  refine lv_iload hx hb d_Law_law_947 (lv_at hl 5 rfl) ?_
  refine lv_iconst (v := 2) hx hb d_Law_law_949 (by decide) ?_
  refine lv_iadd hx hb d_Law_law_950 ?_
  refine va_sld hx hb hX hbl (hAn _ hbl) hS h2 d_Law_law_951 ?_
  refine kM_place C0 hKM (va_P_c hP) (va_D_c hD) hS hl.1 hM d_Law_law_952 ⟨by omega, by omega⟩ (fun H locs hP hD hS => ?_)
  have hP := va_P_c hP
  have hD := va_D_c hD
  refine lv_istore (lv' := [(6, .int q), (5, .int k), (0, .ref b), (1, .ref a.tr), (2, .ref d.mo), (3, .ref a.out), (4, .int i)]) hx hb d_Law_law_955 hl (by decide) rfl (fun ls hl => ?_)
  refine lv_aload_n hx hb d_Law_law_957 rfl (lv_at hl 4 rfl) ?_
  refine kM_thrown C0 hKM (va_P_c hP) (va_D_c hD) hS hl.1 hth d_Law_law_958 ⟨by omega, by omega⟩ ?_
  refine lv_iload hx hb d_Law_law_961 (lv_at hl 1 rfl) ?_
  refine lv_icmp_eq (tgt := 968) hx hb d_Law_law_963 (by decide) (fun c_1 => ?_) (fun c_1 => ?_)
  · skip
    refine lv_iload hx hb d_Law_law_968 (lv_at hl 1 rfl) ?_
    refine lv_if_ne (tgt := 985) hx hb d_Law_law_970 (by decide) (fun c_2 => ?_) (fun c_2 => ?_)
    · skip
      refine lv_goto (tgt := 1024) hx hb d_Law_law_985 (by decide) ?_
      exact K _ _ _ hP hD hS (lv_sub hl [2, 3, 4, 5, 6] rfl)
    · skip
      refine lv_aload_n hx hb d_Law_law_973 rfl (lv_at hl 5 rfl) ?_
      refine lv_iconst (v := 0) hx hb d_Law_law_974 (by decide) ?_
      refine va_lald hx hb hK (va_P_l hP) 34 22 rfl rfl (by unfold vp_in; decide) d_Law_law_975 ?_
      refine lv_iload hx hb d_Law_law_976 (lv_at hl 0 rfl) ?_
      refine lv_i2l hx hb d_Law_law_978 rfl ?_
      refine W.lcmp hx hb d_Law_law_979 ?_
      refine lv_if_eq (tgt := 985) hx hb d_Law_law_980 (by decide) (fun c_3 => ?_) (fun c_3 => ?_)
      · skip
        refine lv_goto (tgt := 1024) hx hb d_Law_law_985 (by decide) ?_
        exact K _ _ _ hP hD hS (lv_sub hl [2, 3, 4, 5, 6] rfl)
      · skip
        exact (hc1 c_1 c_2 c_3).elim
  · skip
    exact (hc2 c_1).elim
set_option maxHeartbeats 4000000 in
set_option maxRecDepth 100000 in
theorem kc_told_C {p : Program} {l : Launch} {e : Env} {s : State} {m : MethodId} {args : Array Value} {below : List Frame} {meth : Method} {c : Code} {H : Heap} {locs : List Loc} {cells slots : Nat} {Q : State → Prop} {A : Nat → Prop} {b N : Nat} {xs : Nat → Int32} {dC : Nat → ClassId} {dI : Nat → Nat → Nat} {a : TA} {z z1 : TS} {d : MA} {y y1 : MS} {i : Int32} {ls : Array Slot} {k : Int32} {q : Int32} (C0 : LX p l s m c args A b N xs) (hK : va_K (dC, dI) CL (KC a) s) (hKM : va_K (dC, dI) CL (KM d) s) (hP : va_P (dC, dI) CL (WC a z ++ WM d y) H) (hD : va_D A (WC a z ++ WM d y)) (hS : va_S A s.heap H locs) (hl : lv_has ls 7 [(0, .ref b), (1, .ref a.tr), (2, .ref d.mo), (3, .ref a.out), (4, .int i)]) (h1 : vp_in (i + (1 : Int32)) N) (h2 : vp_in (i + (2 : Int32)) N) (h3 : vp_in (i + (3 : Int32)) N) (h4 : vp_in (i + (4 : Int32)) N) (hf : cells + 2 ≤ room_1.cells ∧ slots + 12 ≤ room_1.slots) (hT : T_told z (xs (i + (1 : Int32)).toNatClampNeg) = some k) (hM : M_told y (xs (i + (1 : Int32)).toNatClampNeg) = some (q, y1)) (hc1 : ¬ k = q → False) (K : ∀ (H1 : Heap) (locs1 : List Loc) (ls1 : Array Slot), va_P (dC, dI) CL (WC a z ++ WM d y1) H1 → va_D A (WC a z ++ WM d y1) → va_S A s.heap H1 locs1 → lv_has ls1 7 [(0, .ref b), (1, .ref a.tr), (2, .ref d.mo), (3, .ref a.out), (4, .int i)] → W p l e room_1 s m args below meth c H1 locs1 (cells + 1) (slots + 6) Q (F0 m 1024 ls1 [])) : W p l e room_1 s m args below meth c H locs cells slots Q (F0 m 988 ls []) := by
  obtain ⟨hx, hb, hml, hown, hB, hnw, hxw, hxn, hst, hA, hAn, hlt, hX, hbl⟩ := id C0
  obtain ⟨hf1, hf2⟩ := hf
  refine lv_aload_n hx hb d_Law_law_988 rfl (lv_at hl 1 rfl) ?_
  refine lv_aload_n hx hb d_Law_law_989 rfl (lv_at hl 0 rfl) ?_
  refine lv_iload hx hb d_Law_law_990 (lv_at hl 4 rfl) ?_
  refine lv_iconst (v := 1) hx hb d_Law_law_992 (by decide) ?_
  refine lv_iadd hx hb d_Law_law_993 ?_
  refine va_sld hx hb hX hbl (hAn _ hbl) hS h1 d_Law_law_994 ?_
  refine kT_told_C C0 hK hP hD hS hl.1 hT d_Law_law_995 ⟨by omega, by omega⟩ ?_
  refine lv_aload_n hx hb d_Law_law_998 rfl (lv_at hl 2 rfl) ?_
  refine lv_aload_n hx hb d_Law_law_999 rfl (lv_at hl 0 rfl) ?_
  refine lv_iload hx hb d_Law_law_1000 (lv_at hl 4 rfl) ?_
  refine lv_iconst (v := 1) hx hb d_Law_law_1002 (by decide) ?_
  refine lv_iadd hx hb d_Law_law_1003 ?_
  refine va_sld hx hb hX hbl (hAn _ hbl) hS h1 d_Law_law_1004 ?_
  refine kM_told C0 hKM (va_P_c hP) (va_D_c hD) hS hl.1 hM d_Law_law_1005 ⟨by omega, by omega⟩ (fun H locs hP hD hS => ?_)
  have hP := va_P_c hP
  have hD := va_D_c hD
  refine lv_icmp_eq (tgt := 1024) hx hb d_Law_law_1008 (by decide) (fun c_1 => ?_) (fun c_1 => ?_)
  · skip
    refine W.widen (k := cells + 1) (n := slots + 6) (by omega) (by omega) ?_
    exact K _ _ _ hP hD hS (lv_sub hl [0, 1, 2, 3, 4] rfl)
  · skip
    exact (hc1 c_1).elim
set_option maxHeartbeats 4000000 in
set_option maxRecDepth 100000 in
theorem kc_clear_C {p : Program} {l : Launch} {e : Env} {s : State} {m : MethodId} {args : Array Value} {below : List Frame} {meth : Method} {c : Code} {H : Heap} {locs : List Loc} {cells slots : Nat} {Q : State → Prop} {A : Nat → Prop} {b N : Nat} {xs : Nat → Int32} {dC : Nat → ClassId} {dI : Nat → Nat → Nat} {a : TA} {z z1 : TS} {d : MA} {y y1 : MS} {i : Int32} {ls : Array Slot}  (C0 : LX p l s m c args A b N xs) (hK : va_K (dC, dI) CL (KC a) s) (hKM : va_K (dC, dI) CL (KM d) s) (hP : va_P (dC, dI) CL (WC a z ++ WM d y) H) (hD : va_D A (WC a z ++ WM d y)) (hS : va_S A s.heap H locs) (hl : lv_has ls 7 [(0, .ref b), (1, .ref a.tr), (2, .ref d.mo), (3, .ref a.out), (4, .int i)]) (h1 : vp_in (i + (1 : Int32)) N) (h2 : vp_in (i + (2 : Int32)) N) (h3 : vp_in (i + (3 : Int32)) N) (h4 : vp_in (i + (4 : Int32)) N) (hf : cells + 2 ≤ room_1.cells ∧ slots + 12 ≤ room_1.slots) (hT : T_clear z  = some z1) (hM : M_clear y  = some y1) (K : ∀ (H1 : Heap) (locs1 : List Loc) (ls1 : Array Slot), va_P (dC, dI) CL (WC a z1 ++ WM d y1) H1 → va_D A (WC a z1 ++ WM d y1) → va_S A s.heap H1 locs1 → lv_has ls1 7 [(0, .ref b), (1, .ref a.tr), (2, .ref d.mo), (3, .ref a.out), (4, .int i)] → W p l e room_1 s m args below meth c H1 locs1 (cells + 1) (slots + 6) Q (F0 m 1024 ls1 [])) : W p l e room_1 s m args below meth c H locs cells slots Q (F0 m 1013 ls []) := by
  obtain ⟨hx, hb, hml, hown, hB, hnw, hxw, hxn, hst, hA, hAn, hlt, hX, hbl⟩ := id C0
  obtain ⟨hf1, hf2⟩ := hf
  refine lv_aload_n hx hb d_Law_law_1013 rfl (lv_at hl 1 rfl) ?_
  refine kT_clear_C C0 hK hP hD hS hl.1 hT d_Law_law_1014 ⟨by omega, by omega⟩ (fun H locs hP hD hS => ?_)
  refine lv_aload_n hx hb d_Law_law_1017 rfl (lv_at hl 2 rfl) ?_
  refine kM_clear C0 hKM (va_P_c hP) (va_D_c hD) hS hl.1 hM d_Law_law_1018 ⟨by omega, by omega⟩ (fun H locs hP hD hS => ?_)
  have hP := va_P_c hP
  have hD := va_D_c hD
  refine lv_goto (tgt := 1024) hx hb d_Law_law_1021 (by decide) ?_
  refine W.widen (k := cells + 1) (n := slots + 6) (by omega) (by omega) ?_
  exact K _ _ _ hP hD hS (lv_sub hl [0, 1, 2, 3, 4] rfl)
set_option maxHeartbeats 4000000 in
set_option maxRecDepth 100000 in
theorem kc_symbol_F {p : Program} {l : Launch} {e : Env} {s : State} {m : MethodId} {args : Array Value} {below : List Frame} {meth : Method} {c : Code} {H : Heap} {locs : List Loc} {cells slots : Nat} {Q : State → Prop} {A : Nat → Prop} {b N : Nat} {xs : Nat → Int32} {dC : Nat → ClassId} {dI : Nat → Nat → Nat} {a : TA} {z z1 : TS} {d : MA} {y y1 : MS} {i : Int32} {ls : Array Slot} {k : Int32} {q : Int32} {t : Int32} (C0 : LX p l s m c args A b N xs) (hK : va_K (dC, dI) CL (KF a) s) (hKM : va_K (dC, dI) CL (KM d) s) (hP : va_P (dC, dI) CL (WF a z ++ WM d y) H) (hD : va_D A (WF a z ++ WM d y)) (hS : va_S A s.heap H locs) (hl : lv_has ls 7 [(0, .ref b), (1, .ref a.tr), (2, .ref d.mo), (3, .ref a.out), (4, .int i)]) (h1 : vp_in (i + (1 : Int32)) N) (h2 : vp_in (i + (2 : Int32)) N) (h3 : vp_in (i + (3 : Int32)) N) (h4 : vp_in (i + (4 : Int32)) N) (hf : cells + 2 ≤ room_1.cells ∧ slots + 12 ≤ room_1.slots) (hT : T_symbol z (xs (i + (1 : Int32)).toNatClampNeg) (xs (i + (2 : Int32)).toNatClampNeg) = some (k, z1)) (hM : M_symbol y (xs (i + (1 : Int32)).toNatClampNeg) (xs (i + (2 : Int32)).toNatClampNeg) = some (q, y1)) (hth : M_thrown y1  = some t) (hc1 : t = k → k = 0 → ¬ (lg_cmp (z1.out (0 : Int32).toNatClampNeg) q.toInt64) = 0 → False) (hc2 : ¬ t = k → False) (K : ∀ (H1 : Heap) (locs1 : List Loc) (ls1 : Array Slot), va_P (dC, dI) CL (WF a z1 ++ WM d y1) H1 → va_D A (WF a z1 ++ WM d y1) → va_S A s.heap H1 locs1 → lv_has ls1 7 [(0, .ref b), (1, .ref a.tr), (2, .ref d.mo), (3, .ref a.out), (4, .int i)] → W p l e room_1 s m args below meth c H1 locs1 (cells + 1) (slots + 6) Q (F0 m 1024 ls1 [])) : W p l e room_1 s m args below meth c H locs cells slots Q (F0 m 148 ls []) := by
  obtain ⟨hx, hb, hml, hown, hB, hnw, hxw, hxn, hst, hA, hAn, hlt, hX, hbl⟩ := id C0
  obtain ⟨hf1, hf2⟩ := hf
  refine lv_aload_n hx hb d_Law_law_148 rfl (lv_at hl 1 rfl) ?_
  refine lv_aload_n hx hb d_Law_law_149 rfl (lv_at hl 0 rfl) ?_
  refine lv_iload hx hb d_Law_law_150 (lv_at hl 4 rfl) ?_
  refine lv_iconst (v := 1) hx hb d_Law_law_152 (by decide) ?_
  refine lv_iadd hx hb d_Law_law_153 ?_
  refine va_sld hx hb hX hbl (hAn _ hbl) hS h1 d_Law_law_154 ?_
  refine lv_aload_n hx hb d_Law_law_155 rfl (lv_at hl 0 rfl) ?_
  refine lv_iload hx hb d_Law_law_156 (lv_at hl 4 rfl) ?_
  refine lv_iconst (v := 2) hx hb d_Law_law_158 (by decide) ?_
  refine lv_iadd hx hb d_Law_law_159 ?_
  refine va_sld hx hb hX hbl (hAn _ hbl) hS h2 d_Law_law_160 ?_
  refine lv_aload_n hx hb d_Law_law_161 rfl (lv_at hl 3 rfl) ?_
  refine kT_symbol_F C0 hK hP hD hS hl.1 hT d_Law_law_162 ⟨by omega, by omega⟩ (fun H locs hP hD hS => ?_)
  refine lv_istore (lv' := [(5, .int k), (0, .ref b), (1, .ref a.tr), (2, .ref d.mo), (3, .ref a.out), (4, .int i)]) hx hb d_Law_law_165 hl (by decide) rfl (fun ls hl => ?_)
  refine lv_aload_n hx hb d_Law_law_167 rfl (lv_at hl 3 rfl) ?_
  refine lv_aload_n hx hb d_Law_law_168 rfl (lv_at hl 1 rfl) ?_
  refine lv_iload hx hb d_Law_law_169 (lv_at hl 5 rfl) ?_
  refine lv_iconst (v := 1) hx hb d_Law_law_171 (by decide) ?_
  refine lv_iadd hx hb d_Law_law_172 ?_
  refine va_sld hx hb hX hbl (hAn _ hbl) hS h1 d_Law_law_173 ?_
  refine lv_aload_n hx hb d_Law_law_174 rfl (lv_at hl 1 rfl) ?_
  refine lv_iload hx hb d_Law_law_175 (lv_at hl 5 rfl) ?_
  refine lv_iconst (v := 2) hx hb d_Law_law_177 (by decide) ?_
  refine lv_iadd hx hb d_Law_law_178 ?_
  refine va_sld hx hb hX hbl (hAn _ hbl) hS h2 d_Law_law_179 ?_
  refine kM_symbol C0 hKM (va_P_c hP) (va_D_c hD) hS hl.1 hM d_Law_law_180 ⟨by omega, by omega⟩ (fun H locs hP hD hS => ?_)
  have hP := va_P_c hP
  have hD := va_D_c hD
  refine lv_istore (lv' := [(6, .int q), (5, .int k), (0, .ref b), (1, .ref a.tr), (2, .ref d.mo), (3, .ref a.out), (4, .int i)]) hx hb d_Law_law_183 hl (by decide) rfl (fun ls hl => ?_)
  refine lv_aload_n hx hb d_Law_law_185 rfl (lv_at hl 4 rfl) ?_
  refine kM_thrown C0 hKM (va_P_c hP) (va_D_c hD) hS hl.1 hth d_Law_law_186 ⟨by omega, by omega⟩ ?_
  refine lv_iload hx hb d_Law_law_189 (lv_at hl 1 rfl) ?_
  refine lv_icmp_eq (tgt := 196) hx hb d_Law_law_191 (by decide) (fun c_1 => ?_) (fun c_1 => ?_)
  · skip
    refine lv_iload hx hb d_Law_law_196 (lv_at hl 1 rfl) ?_
    refine lv_if_ne (tgt := 213) hx hb d_Law_law_198 (by decide) (fun c_2 => ?_) (fun c_2 => ?_)
    · skip
      refine lv_goto (tgt := 1024) hx hb d_Law_law_213 (by decide) ?_
      exact K _ _ _ hP hD hS (lv_sub hl [2, 3, 4, 5, 6] rfl)
    · skip
      refine lv_aload_n hx hb d_Law_law_201 rfl (lv_at hl 5 rfl) ?_
      refine lv_iconst (v := 0) hx hb d_Law_law_202 (by decide) ?_
      refine va_lald hx hb hK (va_P_l hP) 31 19 rfl rfl (by unfold vp_in; decide) d_Law_law_203 ?_
      refine lv_iload hx hb d_Law_law_204 (lv_at hl 0 rfl) ?_
      refine lv_i2l hx hb d_Law_law_206 rfl ?_
      refine W.lcmp hx hb d_Law_law_207 ?_
      refine lv_if_eq (tgt := 213) hx hb d_Law_law_208 (by decide) (fun c_3 => ?_) (fun c_3 => ?_)
      · skip
        refine lv_goto (tgt := 1024) hx hb d_Law_law_213 (by decide) ?_
        exact K _ _ _ hP hD hS (lv_sub hl [2, 3, 4, 5, 6] rfl)
      · skip
        exact (hc1 c_1 c_2 c_3).elim
  · skip
    exact (hc2 c_1).elim
set_option maxHeartbeats 4000000 in
set_option maxRecDepth 100000 in
theorem kc_put_F {p : Program} {l : Launch} {e : Env} {s : State} {m : MethodId} {args : Array Value} {below : List Frame} {meth : Method} {c : Code} {H : Heap} {locs : List Loc} {cells slots : Nat} {Q : State → Prop} {A : Nat → Prop} {b N : Nat} {xs : Nat → Int32} {dC : Nat → ClassId} {dI : Nat → Nat → Nat} {a : TA} {z z1 : TS} {d : MA} {y y1 : MS} {i : Int32} {ls : Array Slot} {k : Int32} {q : Int32} {t : Int32} (C0 : LX p l s m c args A b N xs) (hK : va_K (dC, dI) CL (KF a) s) (hKM : va_K (dC, dI) CL (KM d) s) (hP : va_P (dC, dI) CL (WF a z ++ WM d y) H) (hD : va_D A (WF a z ++ WM d y)) (hS : va_S A s.heap H locs) (hl : lv_has ls 7 [(0, .ref b), (1, .ref a.tr), (2, .ref d.mo), (3, .ref a.out), (4, .int i)]) (h1 : vp_in (i + (1 : Int32)) N) (h2 : vp_in (i + (2 : Int32)) N) (h3 : vp_in (i + (3 : Int32)) N) (h4 : vp_in (i + (4 : Int32)) N) (hf : cells + 2 ≤ room_1.cells ∧ slots + 12 ≤ room_1.slots) (hT : T_put z (xs (i + (1 : Int32)).toNatClampNeg) (xs (i + (2 : Int32)).toNatClampNeg) (xs (i + (3 : Int32)).toNatClampNeg) (if (xs (i + (4 : Int32)).toNatClampNeg) = 0 then (0 : Int32) else 1) = some (k, z1)) (hM : M_put y (xs (i + (1 : Int32)).toNatClampNeg) (xs (i + (2 : Int32)).toNatClampNeg) (xs (i + (3 : Int32)).toNatClampNeg) (if (xs (i + (4 : Int32)).toNatClampNeg) = 0 then (0 : Int32) else 1) = some (q, y1)) (hth : M_thrown y1  = some t) (hc1 : (xs (i + (4 : Int32)).toNatClampNeg) = 0 → (xs (i + (4 : Int32)).toNatClampNeg) = 0 → t = k → k = 0 → q = 0 → ¬ (lg_cmp (z1.out (0 : Int32).toNatClampNeg) (0 : Int64)) = 0 → False) (hc2 : (xs (i + (4 : Int32)).toNatClampNeg) = 0 → (xs (i + (4 : Int32)).toNatClampNeg) = 0 → t = k → k = 0 → ¬ q = 0 → ¬ (lg_cmp (z1.out (0 : Int32).toNatClampNeg) (1 : Int64)) = 0 → False) (hc3 : (xs (i + (4 : Int32)).toNatClampNeg) = 0 → (xs (i + (4 : Int32)).toNatClampNeg) = 0 → ¬ t = k → False) (hc4 : ¬ (xs (i + (4 : Int32)).toNatClampNeg) = 0 → ¬ (xs (i + (4 : Int32)).toNatClampNeg) = 0 → t = k → k = 0 → q = 0 → ¬ (lg_cmp (z1.out (0 : Int32).toNatClampNeg) (0 : Int64)) = 0 → False) (hc5 : ¬ (xs (i + (4 : Int32)).toNatClampNeg) = 0 → ¬ (xs (i + (4 : Int32)).toNatClampNeg) = 0 → t = k → k = 0 → ¬ q = 0 → ¬ (lg_cmp (z1.out (0 : Int32).toNatClampNeg) (1 : Int64)) = 0 → False) (hc6 : ¬ (xs (i + (4 : Int32)).toNatClampNeg) = 0 → ¬ (xs (i + (4 : Int32)).toNatClampNeg) = 0 → ¬ t = k → False) (K : ∀ (H1 : Heap) (locs1 : List Loc) (ls1 : Array Slot), va_P (dC, dI) CL (WF a z1 ++ WM d y1) H1 → va_D A (WF a z1 ++ WM d y1) → va_S A s.heap H1 locs1 → lv_has ls1 7 [(0, .ref b), (1, .ref a.tr), (2, .ref d.mo), (3, .ref a.out), (4, .int i)] → W p l e room_1 s m args below meth c H1 locs1 (cells + 1) (slots + 6) Q (F0 m 1024 ls1 [])) : W p l e room_1 s m args below meth c H locs cells slots Q (F0 m 216 ls []) := by
  obtain ⟨hx, hb, hml, hown, hB, hnw, hxw, hxn, hst, hA, hAn, hlt, hX, hbl⟩ := id C0
  obtain ⟨hf1, hf2⟩ := hf
  refine lv_aload_n hx hb d_Law_law_216 rfl (lv_at hl 1 rfl) ?_
  refine lv_aload_n hx hb d_Law_law_217 rfl (lv_at hl 0 rfl) ?_
  refine lv_iload hx hb d_Law_law_218 (lv_at hl 4 rfl) ?_
  refine lv_iconst (v := 1) hx hb d_Law_law_220 (by decide) ?_
  refine lv_iadd hx hb d_Law_law_221 ?_
  refine va_sld hx hb hX hbl (hAn _ hbl) hS h1 d_Law_law_222 ?_
  refine lv_aload_n hx hb d_Law_law_223 rfl (lv_at hl 0 rfl) ?_
  refine lv_iload hx hb d_Law_law_224 (lv_at hl 4 rfl) ?_
  refine lv_iconst (v := 2) hx hb d_Law_law_226 (by decide) ?_
  refine lv_iadd hx hb d_Law_law_227 ?_
  refine va_sld hx hb hX hbl (hAn _ hbl) hS h2 d_Law_law_228 ?_
  refine lv_aload_n hx hb d_Law_law_229 rfl (lv_at hl 0 rfl) ?_
  refine lv_iload hx hb d_Law_law_230 (lv_at hl 4 rfl) ?_
  refine lv_iconst (v := 3) hx hb d_Law_law_232 (by decide) ?_
  refine lv_iadd hx hb d_Law_law_233 ?_
  refine va_sld hx hb hX hbl (hAn _ hbl) hS h3 d_Law_law_234 ?_
  refine lv_aload_n hx hb d_Law_law_235 rfl (lv_at hl 0 rfl) ?_
  refine lv_iload hx hb d_Law_law_236 (lv_at hl 4 rfl) ?_
  refine lv_iconst (v := 4) hx hb d_Law_law_238 (by decide) ?_
  refine lv_iadd hx hb d_Law_law_239 ?_
  refine va_sld hx hb hX hbl (hAn _ hbl) hS h4 d_Law_law_240 ?_
  refine lv_if_eq (tgt := 248) hx hb d_Law_law_241 (by decide) (fun c_1 => ?_) (fun c_1 => ?_)
  · rw [if_pos c_1] at hT hM
    refine lv_iconst (v := 0) hx hb d_Law_law_248 (by decide) ?_
    refine lv_aload_n hx hb d_Law_law_249 rfl (lv_at hl 3 rfl) ?_
    refine kT_put_F C0 hK hP hD hS hl.1 hT d_Law_law_250 ⟨by omega, by omega⟩ (fun H locs hP hD hS => ?_)
    refine lv_istore (lv' := [(5, .int k), (0, .ref b), (1, .ref a.tr), (2, .ref d.mo), (3, .ref a.out), (4, .int i)]) hx hb d_Law_law_253 hl (by decide) rfl (fun ls hl => ?_)
    refine lv_aload_n hx hb d_Law_law_255 rfl (lv_at hl 3 rfl) ?_
    refine lv_aload_n hx hb d_Law_law_256 rfl (lv_at hl 1 rfl) ?_
    refine lv_iload hx hb d_Law_law_257 (lv_at hl 5 rfl) ?_
    refine lv_iconst (v := 1) hx hb d_Law_law_259 (by decide) ?_
    refine lv_iadd hx hb d_Law_law_260 ?_
    refine va_sld hx hb hX hbl (hAn _ hbl) hS h1 d_Law_law_261 ?_
    refine lv_aload_n hx hb d_Law_law_262 rfl (lv_at hl 1 rfl) ?_
    refine lv_iload hx hb d_Law_law_263 (lv_at hl 5 rfl) ?_
    refine lv_iconst (v := 2) hx hb d_Law_law_265 (by decide) ?_
    refine lv_iadd hx hb d_Law_law_266 ?_
    refine va_sld hx hb hX hbl (hAn _ hbl) hS h2 d_Law_law_267 ?_
    refine lv_aload_n hx hb d_Law_law_268 rfl (lv_at hl 1 rfl) ?_
    refine lv_iload hx hb d_Law_law_269 (lv_at hl 5 rfl) ?_
    refine lv_iconst (v := 3) hx hb d_Law_law_271 (by decide) ?_
    refine lv_iadd hx hb d_Law_law_272 ?_
    refine va_sld hx hb hX hbl (hAn _ hbl) hS h3 d_Law_law_273 ?_
    refine lv_aload_n hx hb d_Law_law_274 rfl (lv_at hl 1 rfl) ?_
    refine lv_iload hx hb d_Law_law_275 (lv_at hl 5 rfl) ?_
    refine lv_iconst (v := 4) hx hb d_Law_law_277 (by decide) ?_
    refine lv_iadd hx hb d_Law_law_278 ?_
    refine va_sld hx hb hX hbl (hAn _ hbl) hS h4 d_Law_law_279 ?_
    refine lv_if_eq (tgt := 287) hx hb d_Law_law_280 (by decide) (fun c_2 => ?_) (fun c_2 => ?_)
    · skip
      refine lv_iconst (v := 0) hx hb d_Law_law_287 (by decide) ?_
      refine kM_put C0 hKM (va_P_c hP) (va_D_c hD) hS hl.1 hM d_Law_law_288 ⟨by omega, by omega⟩ (fun H locs hP hD hS => ?_)
      have hP := va_P_c hP
      have hD := va_D_c hD
      refine lv_istore (lv' := [(6, .int q), (5, .int k), (0, .ref b), (1, .ref a.tr), (2, .ref d.mo), (3, .ref a.out), (4, .int i)]) hx hb d_Law_law_291 hl (by decide) rfl (fun ls hl => ?_)
      refine lv_aload_n hx hb d_Law_law_293 rfl (lv_at hl 4 rfl) ?_
      refine kM_thrown C0 hKM (va_P_c hP) (va_D_c hD) hS hl.1 hth d_Law_law_294 ⟨by omega, by omega⟩ ?_
      refine lv_iload hx hb d_Law_law_297 (lv_at hl 1 rfl) ?_
      refine lv_icmp_eq (tgt := 304) hx hb d_Law_law_299 (by decide) (fun c_3 => ?_) (fun c_3 => ?_)
      · skip
        refine lv_iload hx hb d_Law_law_304 (lv_at hl 1 rfl) ?_
        refine lv_if_ne (tgt := 328) hx hb d_Law_law_306 (by decide) (fun c_4 => ?_) (fun c_4 => ?_)
        · skip
          refine lv_goto (tgt := 1024) hx hb d_Law_law_328 (by decide) ?_
          exact K _ _ _ hP hD hS (lv_sub hl [2, 3, 4, 5, 6] rfl)
        · skip
          refine lv_aload_n hx hb d_Law_law_309 rfl (lv_at hl 5 rfl) ?_
          refine lv_iconst (v := 0) hx hb d_Law_law_310 (by decide) ?_
          refine va_lald hx hb hK (va_P_l hP) 31 19 rfl rfl (by unfold vp_in; decide) d_Law_law_311 ?_
          refine lv_iload hx hb d_Law_law_312 (lv_at hl 0 rfl) ?_
          refine lv_if_eq (tgt := 321) hx hb d_Law_law_314 (by decide) (fun c_5 => ?_) (fun c_5 => ?_)
          · skip
            refine lv_lconst (v := 0) hx hb d_Law_law_321 (by decide) ?_
            refine W.lcmp hx hb d_Law_law_322 ?_
            refine lv_if_eq (tgt := 328) hx hb d_Law_law_323 (by decide) (fun c_6 => ?_) (fun c_6 => ?_)
            · skip
              refine lv_goto (tgt := 1024) hx hb d_Law_law_328 (by decide) ?_
              exact K _ _ _ hP hD hS (lv_sub hl [2, 3, 4, 5, 6] rfl)
            · skip
              exact (hc1 c_1 c_2 c_3 c_4 c_5 c_6).elim
          · skip
            refine lv_lconst (v := 1) hx hb d_Law_law_317 (by decide) ?_
            refine lv_goto (tgt := 322) hx hb d_Law_law_318 (by decide) ?_
            refine W.lcmp hx hb d_Law_law_322 ?_
            refine lv_if_eq (tgt := 328) hx hb d_Law_law_323 (by decide) (fun c_7 => ?_) (fun c_7 => ?_)
            · skip
              refine lv_goto (tgt := 1024) hx hb d_Law_law_328 (by decide) ?_
              exact K _ _ _ hP hD hS (lv_sub hl [2, 3, 4, 5, 6] rfl)
            · skip
              exact (hc2 c_1 c_2 c_3 c_4 c_5 c_7).elim
      · skip
        exact (hc3 c_1 c_2 c_3).elim
    · exact absurd c_1 c_2
  · rw [if_neg c_1] at hT hM
    refine lv_iconst (v := 1) hx hb d_Law_law_244 (by decide) ?_
    refine lv_goto (tgt := 249) hx hb d_Law_law_245 (by decide) ?_
    refine lv_aload_n hx hb d_Law_law_249 rfl (lv_at hl 3 rfl) ?_
    refine kT_put_F C0 hK hP hD hS hl.1 hT d_Law_law_250 ⟨by omega, by omega⟩ (fun H locs hP hD hS => ?_)
    refine lv_istore (lv' := [(5, .int k), (0, .ref b), (1, .ref a.tr), (2, .ref d.mo), (3, .ref a.out), (4, .int i)]) hx hb d_Law_law_253 hl (by decide) rfl (fun ls hl => ?_)
    refine lv_aload_n hx hb d_Law_law_255 rfl (lv_at hl 3 rfl) ?_
    refine lv_aload_n hx hb d_Law_law_256 rfl (lv_at hl 1 rfl) ?_
    refine lv_iload hx hb d_Law_law_257 (lv_at hl 5 rfl) ?_
    refine lv_iconst (v := 1) hx hb d_Law_law_259 (by decide) ?_
    refine lv_iadd hx hb d_Law_law_260 ?_
    refine va_sld hx hb hX hbl (hAn _ hbl) hS h1 d_Law_law_261 ?_
    refine lv_aload_n hx hb d_Law_law_262 rfl (lv_at hl 1 rfl) ?_
    refine lv_iload hx hb d_Law_law_263 (lv_at hl 5 rfl) ?_
    refine lv_iconst (v := 2) hx hb d_Law_law_265 (by decide) ?_
    refine lv_iadd hx hb d_Law_law_266 ?_
    refine va_sld hx hb hX hbl (hAn _ hbl) hS h2 d_Law_law_267 ?_
    refine lv_aload_n hx hb d_Law_law_268 rfl (lv_at hl 1 rfl) ?_
    refine lv_iload hx hb d_Law_law_269 (lv_at hl 5 rfl) ?_
    refine lv_iconst (v := 3) hx hb d_Law_law_271 (by decide) ?_
    refine lv_iadd hx hb d_Law_law_272 ?_
    refine va_sld hx hb hX hbl (hAn _ hbl) hS h3 d_Law_law_273 ?_
    refine lv_aload_n hx hb d_Law_law_274 rfl (lv_at hl 1 rfl) ?_
    refine lv_iload hx hb d_Law_law_275 (lv_at hl 5 rfl) ?_
    refine lv_iconst (v := 4) hx hb d_Law_law_277 (by decide) ?_
    refine lv_iadd hx hb d_Law_law_278 ?_
    refine va_sld hx hb hX hbl (hAn _ hbl) hS h4 d_Law_law_279 ?_
    refine lv_if_eq (tgt := 287) hx hb d_Law_law_280 (by decide) (fun c_8 => ?_) (fun c_8 => ?_)
    · exact absurd c_8 c_1
    · skip
      refine lv_iconst (v := 1) hx hb d_Law_law_283 (by decide) ?_
      refine lv_goto (tgt := 288) hx hb d_Law_law_284 (by decide) ?_
      refine kM_put C0 hKM (va_P_c hP) (va_D_c hD) hS hl.1 hM d_Law_law_288 ⟨by omega, by omega⟩ (fun H locs hP hD hS => ?_)
      have hP := va_P_c hP
      have hD := va_D_c hD
      refine lv_istore (lv' := [(6, .int q), (5, .int k), (0, .ref b), (1, .ref a.tr), (2, .ref d.mo), (3, .ref a.out), (4, .int i)]) hx hb d_Law_law_291 hl (by decide) rfl (fun ls hl => ?_)
      refine lv_aload_n hx hb d_Law_law_293 rfl (lv_at hl 4 rfl) ?_
      refine kM_thrown C0 hKM (va_P_c hP) (va_D_c hD) hS hl.1 hth d_Law_law_294 ⟨by omega, by omega⟩ ?_
      refine lv_iload hx hb d_Law_law_297 (lv_at hl 1 rfl) ?_
      refine lv_icmp_eq (tgt := 304) hx hb d_Law_law_299 (by decide) (fun c_9 => ?_) (fun c_9 => ?_)
      · skip
        refine lv_iload hx hb d_Law_law_304 (lv_at hl 1 rfl) ?_
        refine lv_if_ne (tgt := 328) hx hb d_Law_law_306 (by decide) (fun c_10 => ?_) (fun c_10 => ?_)
        · skip
          refine lv_goto (tgt := 1024) hx hb d_Law_law_328 (by decide) ?_
          exact K _ _ _ hP hD hS (lv_sub hl [2, 3, 4, 5, 6] rfl)
        · skip
          refine lv_aload_n hx hb d_Law_law_309 rfl (lv_at hl 5 rfl) ?_
          refine lv_iconst (v := 0) hx hb d_Law_law_310 (by decide) ?_
          refine va_lald hx hb hK (va_P_l hP) 31 19 rfl rfl (by unfold vp_in; decide) d_Law_law_311 ?_
          refine lv_iload hx hb d_Law_law_312 (lv_at hl 0 rfl) ?_
          refine lv_if_eq (tgt := 321) hx hb d_Law_law_314 (by decide) (fun c_11 => ?_) (fun c_11 => ?_)
          · skip
            refine lv_lconst (v := 0) hx hb d_Law_law_321 (by decide) ?_
            refine W.lcmp hx hb d_Law_law_322 ?_
            refine lv_if_eq (tgt := 328) hx hb d_Law_law_323 (by decide) (fun c_12 => ?_) (fun c_12 => ?_)
            · skip
              refine lv_goto (tgt := 1024) hx hb d_Law_law_328 (by decide) ?_
              exact K _ _ _ hP hD hS (lv_sub hl [2, 3, 4, 5, 6] rfl)
            · skip
              exact (hc4 c_1 c_8 c_9 c_10 c_11 c_12).elim
          · skip
            refine lv_lconst (v := 1) hx hb d_Law_law_317 (by decide) ?_
            refine lv_goto (tgt := 322) hx hb d_Law_law_318 (by decide) ?_
            refine W.lcmp hx hb d_Law_law_322 ?_
            refine lv_if_eq (tgt := 328) hx hb d_Law_law_323 (by decide) (fun c_13 => ?_) (fun c_13 => ?_)
            · skip
              refine lv_goto (tgt := 1024) hx hb d_Law_law_328 (by decide) ?_
              exact K _ _ _ hP hD hS (lv_sub hl [2, 3, 4, 5, 6] rfl)
            · skip
              exact (hc5 c_1 c_8 c_9 c_10 c_11 c_13).elim
      · skip
        exact (hc6 c_1 c_8 c_9).elim
set_option maxHeartbeats 4000000 in
set_option maxRecDepth 100000 in
theorem kc_instance_F {p : Program} {l : Launch} {e : Env} {s : State} {m : MethodId} {args : Array Value} {below : List Frame} {meth : Method} {c : Code} {H : Heap} {locs : List Loc} {cells slots : Nat} {Q : State → Prop} {A : Nat → Prop} {b N : Nat} {xs : Nat → Int32} {dC : Nat → ClassId} {dI : Nat → Nat → Nat} {a : TA} {z z1 : TS} {d : MA} {y y1 : MS} {i : Int32} {ls : Array Slot} {k : Int32} {q : Int32} {t : Int32} (C0 : LX p l s m c args A b N xs) (hK : va_K (dC, dI) CL (KF a) s) (hKM : va_K (dC, dI) CL (KM d) s) (hP : va_P (dC, dI) CL (WF a z ++ WM d y) H) (hD : va_D A (WF a z ++ WM d y)) (hS : va_S A s.heap H locs) (hl : lv_has ls 7 [(0, .ref b), (1, .ref a.tr), (2, .ref d.mo), (3, .ref a.out), (4, .int i)]) (h1 : vp_in (i + (1 : Int32)) N) (h2 : vp_in (i + (2 : Int32)) N) (h3 : vp_in (i + (3 : Int32)) N) (h4 : vp_in (i + (4 : Int32)) N) (hf : cells + 2 ≤ room_1.cells ∧ slots + 12 ≤ room_1.slots) (hT : T_instance z (xs (i + (1 : Int32)).toNatClampNeg) (xs (i + (2 : Int32)).toNatClampNeg) (xs (i + (3 : Int32)).toNatClampNeg) = some (k, z1)) (hM : M_instance y (xs (i + (1 : Int32)).toNatClampNeg) (xs (i + (2 : Int32)).toNatClampNeg) (xs (i + (3 : Int32)).toNatClampNeg) = some (q, y1)) (hth : M_thrown y1  = some t) (hc1 : t = k → k = 0 → ¬ (lg_cmp (z1.out (0 : Int32).toNatClampNeg) q.toInt64) = 0 → False) (hc2 : ¬ t = k → False) (K : ∀ (H1 : Heap) (locs1 : List Loc) (ls1 : Array Slot), va_P (dC, dI) CL (WF a z1 ++ WM d y1) H1 → va_D A (WF a z1 ++ WM d y1) → va_S A s.heap H1 locs1 → lv_has ls1 7 [(0, .ref b), (1, .ref a.tr), (2, .ref d.mo), (3, .ref a.out), (4, .int i)] → W p l e room_1 s m args below meth c H1 locs1 (cells + 1) (slots + 6) Q (F0 m 1024 ls1 [])) : W p l e room_1 s m args below meth c H locs cells slots Q (F0 m 331 ls []) := by
  obtain ⟨hx, hb, hml, hown, hB, hnw, hxw, hxn, hst, hA, hAn, hlt, hX, hbl⟩ := id C0
  obtain ⟨hf1, hf2⟩ := hf
  refine lv_aload_n hx hb d_Law_law_331 rfl (lv_at hl 1 rfl) ?_
  refine lv_aload_n hx hb d_Law_law_332 rfl (lv_at hl 0 rfl) ?_
  refine lv_iload hx hb d_Law_law_333 (lv_at hl 4 rfl) ?_
  refine lv_iconst (v := 1) hx hb d_Law_law_335 (by decide) ?_
  refine lv_iadd hx hb d_Law_law_336 ?_
  refine va_sld hx hb hX hbl (hAn _ hbl) hS h1 d_Law_law_337 ?_
  refine lv_aload_n hx hb d_Law_law_338 rfl (lv_at hl 0 rfl) ?_
  refine lv_iload hx hb d_Law_law_339 (lv_at hl 4 rfl) ?_
  refine lv_iconst (v := 2) hx hb d_Law_law_341 (by decide) ?_
  refine lv_iadd hx hb d_Law_law_342 ?_
  refine va_sld hx hb hX hbl (hAn _ hbl) hS h2 d_Law_law_343 ?_
  refine lv_aload_n hx hb d_Law_law_344 rfl (lv_at hl 0 rfl) ?_
  refine lv_iload hx hb d_Law_law_345 (lv_at hl 4 rfl) ?_
  refine lv_iconst (v := 3) hx hb d_Law_law_347 (by decide) ?_
  refine lv_iadd hx hb d_Law_law_348 ?_
  refine va_sld hx hb hX hbl (hAn _ hbl) hS h3 d_Law_law_349 ?_
  refine lv_aload_n hx hb d_Law_law_350 rfl (lv_at hl 3 rfl) ?_
  refine kT_instance_F C0 hK hP hD hS hl.1 hT d_Law_law_351 ⟨by omega, by omega⟩ (fun H locs hP hD hS => ?_)
  refine lv_istore (lv' := [(5, .int k), (0, .ref b), (1, .ref a.tr), (2, .ref d.mo), (3, .ref a.out), (4, .int i)]) hx hb d_Law_law_354 hl (by decide) rfl (fun ls hl => ?_)
  refine lv_aload_n hx hb d_Law_law_356 rfl (lv_at hl 3 rfl) ?_
  refine lv_aload_n hx hb d_Law_law_357 rfl (lv_at hl 1 rfl) ?_
  refine lv_iload hx hb d_Law_law_358 (lv_at hl 5 rfl) ?_
  refine lv_iconst (v := 1) hx hb d_Law_law_360 (by decide) ?_
  refine lv_iadd hx hb d_Law_law_361 ?_
  refine va_sld hx hb hX hbl (hAn _ hbl) hS h1 d_Law_law_362 ?_
  refine lv_aload_n hx hb d_Law_law_363 rfl (lv_at hl 1 rfl) ?_
  refine lv_iload hx hb d_Law_law_364 (lv_at hl 5 rfl) ?_
  refine lv_iconst (v := 2) hx hb d_Law_law_366 (by decide) ?_
  refine lv_iadd hx hb d_Law_law_367 ?_
  refine va_sld hx hb hX hbl (hAn _ hbl) hS h2 d_Law_law_368 ?_
  refine lv_aload_n hx hb d_Law_law_369 rfl (lv_at hl 1 rfl) ?_
  refine lv_iload hx hb d_Law_law_370 (lv_at hl 5 rfl) ?_
  refine lv_iconst (v := 3) hx hb d_Law_law_372 (by decide) ?_
  refine lv_iadd hx hb d_Law_law_373 ?_
  refine va_sld hx hb hX hbl (hAn _ hbl) hS h3 d_Law_law_374 ?_
  refine kM_instance C0 hKM (va_P_c hP) (va_D_c hD) hS hl.1 hM d_Law_law_375 ⟨by omega, by omega⟩ (fun H locs hP hD hS => ?_)
  have hP := va_P_c hP
  have hD := va_D_c hD
  refine lv_istore (lv' := [(6, .int q), (5, .int k), (0, .ref b), (1, .ref a.tr), (2, .ref d.mo), (3, .ref a.out), (4, .int i)]) hx hb d_Law_law_378 hl (by decide) rfl (fun ls hl => ?_)
  refine lv_aload_n hx hb d_Law_law_380 rfl (lv_at hl 4 rfl) ?_
  refine kM_thrown C0 hKM (va_P_c hP) (va_D_c hD) hS hl.1 hth d_Law_law_381 ⟨by omega, by omega⟩ ?_
  refine lv_iload hx hb d_Law_law_384 (lv_at hl 1 rfl) ?_
  refine lv_icmp_eq (tgt := 391) hx hb d_Law_law_386 (by decide) (fun c_1 => ?_) (fun c_1 => ?_)
  · skip
    refine lv_iload hx hb d_Law_law_391 (lv_at hl 1 rfl) ?_
    refine lv_if_ne (tgt := 408) hx hb d_Law_law_393 (by decide) (fun c_2 => ?_) (fun c_2 => ?_)
    · skip
      refine lv_goto (tgt := 1024) hx hb d_Law_law_408 (by decide) ?_
      exact K _ _ _ hP hD hS (lv_sub hl [2, 3, 4, 5, 6] rfl)
    · skip
      refine lv_aload_n hx hb d_Law_law_396 rfl (lv_at hl 5 rfl) ?_
      refine lv_iconst (v := 0) hx hb d_Law_law_397 (by decide) ?_
      refine va_lald hx hb hK (va_P_l hP) 31 19 rfl rfl (by unfold vp_in; decide) d_Law_law_398 ?_
      refine lv_iload hx hb d_Law_law_399 (lv_at hl 0 rfl) ?_
      refine lv_i2l hx hb d_Law_law_401 rfl ?_
      refine W.lcmp hx hb d_Law_law_402 ?_
      refine lv_if_eq (tgt := 408) hx hb d_Law_law_403 (by decide) (fun c_3 => ?_) (fun c_3 => ?_)
      · skip
        refine lv_goto (tgt := 1024) hx hb d_Law_law_408 (by decide) ?_
        exact K _ _ _ hP hD hS (lv_sub hl [2, 3, 4, 5, 6] rfl)
      · skip
        exact (hc1 c_1 c_2 c_3).elim
  · skip
    exact (hc2 c_1).elim
set_option maxHeartbeats 4000000 in
set_option maxRecDepth 100000 in
theorem kc_refine_F {p : Program} {l : Launch} {e : Env} {s : State} {m : MethodId} {args : Array Value} {below : List Frame} {meth : Method} {c : Code} {H : Heap} {locs : List Loc} {cells slots : Nat} {Q : State → Prop} {A : Nat → Prop} {b N : Nat} {xs : Nat → Int32} {dC : Nat → ClassId} {dI : Nat → Nat → Nat} {a : TA} {z z1 : TS} {d : MA} {y y1 : MS} {i : Int32} {ls : Array Slot} {k : Int32} {q : Int32} {t : Int32} (C0 : LX p l s m c args A b N xs) (hK : va_K (dC, dI) CL (KF a) s) (hKM : va_K (dC, dI) CL (KM d) s) (hP : va_P (dC, dI) CL (WF a z ++ WM d y) H) (hD : va_D A (WF a z ++ WM d y)) (hS : va_S A s.heap H locs) (hl : lv_has ls 7 [(0, .ref b), (1, .ref a.tr), (2, .ref d.mo), (3, .ref a.out), (4, .int i)]) (h1 : vp_in (i + (1 : Int32)) N) (h2 : vp_in (i + (2 : Int32)) N) (h3 : vp_in (i + (3 : Int32)) N) (h4 : vp_in (i + (4 : Int32)) N) (hf : cells + 2 ≤ room_1.cells ∧ slots + 12 ≤ room_1.slots) (hT : T_refine z (xs (i + (1 : Int32)).toNatClampNeg) (xs (i + (2 : Int32)).toNatClampNeg) (xs (i + (3 : Int32)).toNatClampNeg) (if (xs (i + (4 : Int32)).toNatClampNeg) = 0 then (0 : Int32) else 1) = some (k, z1)) (hM : M_refine y (xs (i + (1 : Int32)).toNatClampNeg) (xs (i + (2 : Int32)).toNatClampNeg) (xs (i + (3 : Int32)).toNatClampNeg) (if (xs (i + (4 : Int32)).toNatClampNeg) = 0 then (0 : Int32) else 1) = some (q, y1)) (hth : M_thrown y1  = some t) (hc1 : (xs (i + (4 : Int32)).toNatClampNeg) = 0 → (xs (i + (4 : Int32)).toNatClampNeg) = 0 → t = k → k = 0 → q = 0 → ¬ (lg_cmp (z1.out (0 : Int32).toNatClampNeg) (0 : Int64)) = 0 → False) (hc2 : (xs (i + (4 : Int32)).toNatClampNeg) = 0 → (xs (i + (4 : Int32)).toNatClampNeg) = 0 → t = k → k = 0 → ¬ q = 0 → ¬ (lg_cmp (z1.out (0 : Int32).toNatClampNeg) (1 : Int64)) = 0 → False) (hc3 : (xs (i + (4 : Int32)).toNatClampNeg) = 0 → (xs (i + (4 : Int32)).toNatClampNeg) = 0 → ¬ t = k → False) (hc4 : ¬ (xs (i + (4 : Int32)).toNatClampNeg) = 0 → ¬ (xs (i + (4 : Int32)).toNatClampNeg) = 0 → t = k → k = 0 → q = 0 → ¬ (lg_cmp (z1.out (0 : Int32).toNatClampNeg) (0 : Int64)) = 0 → False) (hc5 : ¬ (xs (i + (4 : Int32)).toNatClampNeg) = 0 → ¬ (xs (i + (4 : Int32)).toNatClampNeg) = 0 → t = k → k = 0 → ¬ q = 0 → ¬ (lg_cmp (z1.out (0 : Int32).toNatClampNeg) (1 : Int64)) = 0 → False) (hc6 : ¬ (xs (i + (4 : Int32)).toNatClampNeg) = 0 → ¬ (xs (i + (4 : Int32)).toNatClampNeg) = 0 → ¬ t = k → False) (K : ∀ (H1 : Heap) (locs1 : List Loc) (ls1 : Array Slot), va_P (dC, dI) CL (WF a z1 ++ WM d y1) H1 → va_D A (WF a z1 ++ WM d y1) → va_S A s.heap H1 locs1 → lv_has ls1 7 [(0, .ref b), (1, .ref a.tr), (2, .ref d.mo), (3, .ref a.out), (4, .int i)] → W p l e room_1 s m args below meth c H1 locs1 (cells + 1) (slots + 6) Q (F0 m 1024 ls1 [])) : W p l e room_1 s m args below meth c H locs cells slots Q (F0 m 411 ls []) := by
  obtain ⟨hx, hb, hml, hown, hB, hnw, hxw, hxn, hst, hA, hAn, hlt, hX, hbl⟩ := id C0
  obtain ⟨hf1, hf2⟩ := hf
  refine lv_aload_n hx hb d_Law_law_411 rfl (lv_at hl 1 rfl) ?_
  refine lv_aload_n hx hb d_Law_law_412 rfl (lv_at hl 0 rfl) ?_
  refine lv_iload hx hb d_Law_law_413 (lv_at hl 4 rfl) ?_
  refine lv_iconst (v := 1) hx hb d_Law_law_415 (by decide) ?_
  refine lv_iadd hx hb d_Law_law_416 ?_
  refine va_sld hx hb hX hbl (hAn _ hbl) hS h1 d_Law_law_417 ?_
  refine lv_aload_n hx hb d_Law_law_418 rfl (lv_at hl 0 rfl) ?_
  refine lv_iload hx hb d_Law_law_419 (lv_at hl 4 rfl) ?_
  refine lv_iconst (v := 2) hx hb d_Law_law_421 (by decide) ?_
  refine lv_iadd hx hb d_Law_law_422 ?_
  refine va_sld hx hb hX hbl (hAn _ hbl) hS h2 d_Law_law_423 ?_
  refine lv_aload_n hx hb d_Law_law_424 rfl (lv_at hl 0 rfl) ?_
  refine lv_iload hx hb d_Law_law_425 (lv_at hl 4 rfl) ?_
  refine lv_iconst (v := 3) hx hb d_Law_law_427 (by decide) ?_
  refine lv_iadd hx hb d_Law_law_428 ?_
  refine va_sld hx hb hX hbl (hAn _ hbl) hS h3 d_Law_law_429 ?_
  refine lv_aload_n hx hb d_Law_law_430 rfl (lv_at hl 0 rfl) ?_
  refine lv_iload hx hb d_Law_law_431 (lv_at hl 4 rfl) ?_
  refine lv_iconst (v := 4) hx hb d_Law_law_433 (by decide) ?_
  refine lv_iadd hx hb d_Law_law_434 ?_
  refine va_sld hx hb hX hbl (hAn _ hbl) hS h4 d_Law_law_435 ?_
  refine lv_if_eq (tgt := 443) hx hb d_Law_law_436 (by decide) (fun c_1 => ?_) (fun c_1 => ?_)
  · rw [if_pos c_1] at hT hM
    refine lv_iconst (v := 0) hx hb d_Law_law_443 (by decide) ?_
    refine lv_aload_n hx hb d_Law_law_444 rfl (lv_at hl 3 rfl) ?_
    refine kT_refine_F C0 hK hP hD hS hl.1 hT d_Law_law_445 ⟨by omega, by omega⟩ (fun H locs hP hD hS => ?_)
    refine lv_istore (lv' := [(5, .int k), (0, .ref b), (1, .ref a.tr), (2, .ref d.mo), (3, .ref a.out), (4, .int i)]) hx hb d_Law_law_448 hl (by decide) rfl (fun ls hl => ?_)
    refine lv_aload_n hx hb d_Law_law_450 rfl (lv_at hl 3 rfl) ?_
    refine lv_aload_n hx hb d_Law_law_451 rfl (lv_at hl 1 rfl) ?_
    refine lv_iload hx hb d_Law_law_452 (lv_at hl 5 rfl) ?_
    refine lv_iconst (v := 1) hx hb d_Law_law_454 (by decide) ?_
    refine lv_iadd hx hb d_Law_law_455 ?_
    refine va_sld hx hb hX hbl (hAn _ hbl) hS h1 d_Law_law_456 ?_
    refine lv_aload_n hx hb d_Law_law_457 rfl (lv_at hl 1 rfl) ?_
    refine lv_iload hx hb d_Law_law_458 (lv_at hl 5 rfl) ?_
    refine lv_iconst (v := 2) hx hb d_Law_law_460 (by decide) ?_
    refine lv_iadd hx hb d_Law_law_461 ?_
    refine va_sld hx hb hX hbl (hAn _ hbl) hS h2 d_Law_law_462 ?_
    refine lv_aload_n hx hb d_Law_law_463 rfl (lv_at hl 1 rfl) ?_
    refine lv_iload hx hb d_Law_law_464 (lv_at hl 5 rfl) ?_
    refine lv_iconst (v := 3) hx hb d_Law_law_466 (by decide) ?_
    refine lv_iadd hx hb d_Law_law_467 ?_
    refine va_sld hx hb hX hbl (hAn _ hbl) hS h3 d_Law_law_468 ?_
    refine lv_aload_n hx hb d_Law_law_469 rfl (lv_at hl 1 rfl) ?_
    refine lv_iload hx hb d_Law_law_470 (lv_at hl 5 rfl) ?_
    refine lv_iconst (v := 4) hx hb d_Law_law_472 (by decide) ?_
    refine lv_iadd hx hb d_Law_law_473 ?_
    refine va_sld hx hb hX hbl (hAn _ hbl) hS h4 d_Law_law_474 ?_
    refine lv_if_eq (tgt := 482) hx hb d_Law_law_475 (by decide) (fun c_2 => ?_) (fun c_2 => ?_)
    · skip
      refine lv_iconst (v := 0) hx hb d_Law_law_482 (by decide) ?_
      refine kM_refine C0 hKM (va_P_c hP) (va_D_c hD) hS hl.1 hM d_Law_law_483 ⟨by omega, by omega⟩ (fun H locs hP hD hS => ?_)
      have hP := va_P_c hP
      have hD := va_D_c hD
      refine lv_istore (lv' := [(6, .int q), (5, .int k), (0, .ref b), (1, .ref a.tr), (2, .ref d.mo), (3, .ref a.out), (4, .int i)]) hx hb d_Law_law_486 hl (by decide) rfl (fun ls hl => ?_)
      refine lv_aload_n hx hb d_Law_law_488 rfl (lv_at hl 4 rfl) ?_
      refine kM_thrown C0 hKM (va_P_c hP) (va_D_c hD) hS hl.1 hth d_Law_law_489 ⟨by omega, by omega⟩ ?_
      refine lv_iload hx hb d_Law_law_492 (lv_at hl 1 rfl) ?_
      refine lv_icmp_eq (tgt := 499) hx hb d_Law_law_494 (by decide) (fun c_3 => ?_) (fun c_3 => ?_)
      · skip
        refine lv_iload hx hb d_Law_law_499 (lv_at hl 1 rfl) ?_
        refine lv_if_ne (tgt := 523) hx hb d_Law_law_501 (by decide) (fun c_4 => ?_) (fun c_4 => ?_)
        · skip
          refine lv_goto (tgt := 1024) hx hb d_Law_law_523 (by decide) ?_
          exact K _ _ _ hP hD hS (lv_sub hl [2, 3, 4, 5, 6] rfl)
        · skip
          refine lv_aload_n hx hb d_Law_law_504 rfl (lv_at hl 5 rfl) ?_
          refine lv_iconst (v := 0) hx hb d_Law_law_505 (by decide) ?_
          refine va_lald hx hb hK (va_P_l hP) 31 19 rfl rfl (by unfold vp_in; decide) d_Law_law_506 ?_
          refine lv_iload hx hb d_Law_law_507 (lv_at hl 0 rfl) ?_
          refine lv_if_eq (tgt := 516) hx hb d_Law_law_509 (by decide) (fun c_5 => ?_) (fun c_5 => ?_)
          · skip
            refine lv_lconst (v := 0) hx hb d_Law_law_516 (by decide) ?_
            refine W.lcmp hx hb d_Law_law_517 ?_
            refine lv_if_eq (tgt := 523) hx hb d_Law_law_518 (by decide) (fun c_6 => ?_) (fun c_6 => ?_)
            · skip
              refine lv_goto (tgt := 1024) hx hb d_Law_law_523 (by decide) ?_
              exact K _ _ _ hP hD hS (lv_sub hl [2, 3, 4, 5, 6] rfl)
            · skip
              exact (hc1 c_1 c_2 c_3 c_4 c_5 c_6).elim
          · skip
            refine lv_lconst (v := 1) hx hb d_Law_law_512 (by decide) ?_
            refine lv_goto (tgt := 517) hx hb d_Law_law_513 (by decide) ?_
            refine W.lcmp hx hb d_Law_law_517 ?_
            refine lv_if_eq (tgt := 523) hx hb d_Law_law_518 (by decide) (fun c_7 => ?_) (fun c_7 => ?_)
            · skip
              refine lv_goto (tgt := 1024) hx hb d_Law_law_523 (by decide) ?_
              exact K _ _ _ hP hD hS (lv_sub hl [2, 3, 4, 5, 6] rfl)
            · skip
              exact (hc2 c_1 c_2 c_3 c_4 c_5 c_7).elim
      · skip
        exact (hc3 c_1 c_2 c_3).elim
    · exact absurd c_1 c_2
  · rw [if_neg c_1] at hT hM
    refine lv_iconst (v := 1) hx hb d_Law_law_439 (by decide) ?_
    refine lv_goto (tgt := 444) hx hb d_Law_law_440 (by decide) ?_
    refine lv_aload_n hx hb d_Law_law_444 rfl (lv_at hl 3 rfl) ?_
    refine kT_refine_F C0 hK hP hD hS hl.1 hT d_Law_law_445 ⟨by omega, by omega⟩ (fun H locs hP hD hS => ?_)
    refine lv_istore (lv' := [(5, .int k), (0, .ref b), (1, .ref a.tr), (2, .ref d.mo), (3, .ref a.out), (4, .int i)]) hx hb d_Law_law_448 hl (by decide) rfl (fun ls hl => ?_)
    refine lv_aload_n hx hb d_Law_law_450 rfl (lv_at hl 3 rfl) ?_
    refine lv_aload_n hx hb d_Law_law_451 rfl (lv_at hl 1 rfl) ?_
    refine lv_iload hx hb d_Law_law_452 (lv_at hl 5 rfl) ?_
    refine lv_iconst (v := 1) hx hb d_Law_law_454 (by decide) ?_
    refine lv_iadd hx hb d_Law_law_455 ?_
    refine va_sld hx hb hX hbl (hAn _ hbl) hS h1 d_Law_law_456 ?_
    refine lv_aload_n hx hb d_Law_law_457 rfl (lv_at hl 1 rfl) ?_
    refine lv_iload hx hb d_Law_law_458 (lv_at hl 5 rfl) ?_
    refine lv_iconst (v := 2) hx hb d_Law_law_460 (by decide) ?_
    refine lv_iadd hx hb d_Law_law_461 ?_
    refine va_sld hx hb hX hbl (hAn _ hbl) hS h2 d_Law_law_462 ?_
    refine lv_aload_n hx hb d_Law_law_463 rfl (lv_at hl 1 rfl) ?_
    refine lv_iload hx hb d_Law_law_464 (lv_at hl 5 rfl) ?_
    refine lv_iconst (v := 3) hx hb d_Law_law_466 (by decide) ?_
    refine lv_iadd hx hb d_Law_law_467 ?_
    refine va_sld hx hb hX hbl (hAn _ hbl) hS h3 d_Law_law_468 ?_
    refine lv_aload_n hx hb d_Law_law_469 rfl (lv_at hl 1 rfl) ?_
    refine lv_iload hx hb d_Law_law_470 (lv_at hl 5 rfl) ?_
    refine lv_iconst (v := 4) hx hb d_Law_law_472 (by decide) ?_
    refine lv_iadd hx hb d_Law_law_473 ?_
    refine va_sld hx hb hX hbl (hAn _ hbl) hS h4 d_Law_law_474 ?_
    refine lv_if_eq (tgt := 482) hx hb d_Law_law_475 (by decide) (fun c_8 => ?_) (fun c_8 => ?_)
    · exact absurd c_8 c_1
    · skip
      refine lv_iconst (v := 1) hx hb d_Law_law_478 (by decide) ?_
      refine lv_goto (tgt := 483) hx hb d_Law_law_479 (by decide) ?_
      refine kM_refine C0 hKM (va_P_c hP) (va_D_c hD) hS hl.1 hM d_Law_law_483 ⟨by omega, by omega⟩ (fun H locs hP hD hS => ?_)
      have hP := va_P_c hP
      have hD := va_D_c hD
      refine lv_istore (lv' := [(6, .int q), (5, .int k), (0, .ref b), (1, .ref a.tr), (2, .ref d.mo), (3, .ref a.out), (4, .int i)]) hx hb d_Law_law_486 hl (by decide) rfl (fun ls hl => ?_)
      refine lv_aload_n hx hb d_Law_law_488 rfl (lv_at hl 4 rfl) ?_
      refine kM_thrown C0 hKM (va_P_c hP) (va_D_c hD) hS hl.1 hth d_Law_law_489 ⟨by omega, by omega⟩ ?_
      refine lv_iload hx hb d_Law_law_492 (lv_at hl 1 rfl) ?_
      refine lv_icmp_eq (tgt := 499) hx hb d_Law_law_494 (by decide) (fun c_9 => ?_) (fun c_9 => ?_)
      · skip
        refine lv_iload hx hb d_Law_law_499 (lv_at hl 1 rfl) ?_
        refine lv_if_ne (tgt := 523) hx hb d_Law_law_501 (by decide) (fun c_10 => ?_) (fun c_10 => ?_)
        · skip
          refine lv_goto (tgt := 1024) hx hb d_Law_law_523 (by decide) ?_
          exact K _ _ _ hP hD hS (lv_sub hl [2, 3, 4, 5, 6] rfl)
        · skip
          refine lv_aload_n hx hb d_Law_law_504 rfl (lv_at hl 5 rfl) ?_
          refine lv_iconst (v := 0) hx hb d_Law_law_505 (by decide) ?_
          refine va_lald hx hb hK (va_P_l hP) 31 19 rfl rfl (by unfold vp_in; decide) d_Law_law_506 ?_
          refine lv_iload hx hb d_Law_law_507 (lv_at hl 0 rfl) ?_
          refine lv_if_eq (tgt := 516) hx hb d_Law_law_509 (by decide) (fun c_11 => ?_) (fun c_11 => ?_)
          · skip
            refine lv_lconst (v := 0) hx hb d_Law_law_516 (by decide) ?_
            refine W.lcmp hx hb d_Law_law_517 ?_
            refine lv_if_eq (tgt := 523) hx hb d_Law_law_518 (by decide) (fun c_12 => ?_) (fun c_12 => ?_)
            · skip
              refine lv_goto (tgt := 1024) hx hb d_Law_law_523 (by decide) ?_
              exact K _ _ _ hP hD hS (lv_sub hl [2, 3, 4, 5, 6] rfl)
            · skip
              exact (hc4 c_1 c_8 c_9 c_10 c_11 c_12).elim
          · skip
            refine lv_lconst (v := 1) hx hb d_Law_law_512 (by decide) ?_
            refine lv_goto (tgt := 517) hx hb d_Law_law_513 (by decide) ?_
            refine W.lcmp hx hb d_Law_law_517 ?_
            refine lv_if_eq (tgt := 523) hx hb d_Law_law_518 (by decide) (fun c_13 => ?_) (fun c_13 => ?_)
            · skip
              refine lv_goto (tgt := 1024) hx hb d_Law_law_523 (by decide) ?_
              exact K _ _ _ hP hD hS (lv_sub hl [2, 3, 4, 5, 6] rfl)
            · skip
              exact (hc5 c_1 c_8 c_9 c_10 c_11 c_13).elim
      · skip
        exact (hc6 c_1 c_8 c_9).elim
set_option maxHeartbeats 4000000 in
set_option maxRecDepth 100000 in
theorem kc_way_F {p : Program} {l : Launch} {e : Env} {s : State} {m : MethodId} {args : Array Value} {below : List Frame} {meth : Method} {c : Code} {H : Heap} {locs : List Loc} {cells slots : Nat} {Q : State → Prop} {A : Nat → Prop} {b N : Nat} {xs : Nat → Int32} {dC : Nat → ClassId} {dI : Nat → Nat → Nat} {a : TA} {z z1 : TS} {d : MA} {y y1 : MS} {i : Int32} {ls : Array Slot} {k : Int32} {q : Int32} {t : Int32} (C0 : LX p l s m c args A b N xs) (hK : va_K (dC, dI) CL (KF a) s) (hKM : va_K (dC, dI) CL (KM d) s) (hP : va_P (dC, dI) CL (WF a z ++ WM d y) H) (hD : va_D A (WF a z ++ WM d y)) (hS : va_S A s.heap H locs) (hl : lv_has ls 7 [(0, .ref b), (1, .ref a.tr), (2, .ref d.mo), (3, .ref a.out), (4, .int i)]) (h1 : vp_in (i + (1 : Int32)) N) (h2 : vp_in (i + (2 : Int32)) N) (h3 : vp_in (i + (3 : Int32)) N) (h4 : vp_in (i + (4 : Int32)) N) (hf : cells + 2 ≤ room_1.cells ∧ slots + 12 ≤ room_1.slots) (hT : T_way z (xs (i + (1 : Int32)).toNatClampNeg) (xs (i + (2 : Int32)).toNatClampNeg) = some (k, z1)) (hM : M_way y (xs (i + (1 : Int32)).toNatClampNeg) (xs (i + (2 : Int32)).toNatClampNeg) = some (q, y1)) (hth : M_thrown y1  = some t) (hc1 : t = k → k = 0 → ¬ (lg_cmp (z1.out (0 : Int32).toNatClampNeg) q.toInt64) = 0 → False) (hc2 : ¬ t = k → False) (K : ∀ (H1 : Heap) (locs1 : List Loc) (ls1 : Array Slot), va_P (dC, dI) CL (WF a z1 ++ WM d y1) H1 → va_D A (WF a z1 ++ WM d y1) → va_S A s.heap H1 locs1 → lv_has ls1 7 [(0, .ref b), (1, .ref a.tr), (2, .ref d.mo), (3, .ref a.out), (4, .int i)] → W p l e room_1 s m args below meth c H1 locs1 (cells + 1) (slots + 6) Q (F0 m 1024 ls1 [])) : W p l e room_1 s m args below meth c H locs cells slots Q (F0 m 526 ls []) := by
  obtain ⟨hx, hb, hml, hown, hB, hnw, hxw, hxn, hst, hA, hAn, hlt, hX, hbl⟩ := id C0
  obtain ⟨hf1, hf2⟩ := hf
  refine lv_aload_n hx hb d_Law_law_526 rfl (lv_at hl 1 rfl) ?_
  refine lv_aload_n hx hb d_Law_law_527 rfl (lv_at hl 0 rfl) ?_
  refine lv_iload hx hb d_Law_law_528 (lv_at hl 4 rfl) ?_
  refine lv_iconst (v := 1) hx hb d_Law_law_530 (by decide) ?_
  refine lv_iadd hx hb d_Law_law_531 ?_
  refine va_sld hx hb hX hbl (hAn _ hbl) hS h1 d_Law_law_532 ?_
  refine lv_aload_n hx hb d_Law_law_533 rfl (lv_at hl 0 rfl) ?_
  refine lv_iload hx hb d_Law_law_534 (lv_at hl 4 rfl) ?_
  refine lv_iconst (v := 2) hx hb d_Law_law_536 (by decide) ?_
  refine lv_iadd hx hb d_Law_law_537 ?_
  refine va_sld hx hb hX hbl (hAn _ hbl) hS h2 d_Law_law_538 ?_
  refine lv_aload_n hx hb d_Law_law_539 rfl (lv_at hl 3 rfl) ?_
  refine kT_way_F C0 hK hP hD hS hl.1 hT d_Law_law_540 ⟨by omega, by omega⟩ (fun H locs hP hD hS => ?_)
  refine lv_istore (lv' := [(5, .int k), (0, .ref b), (1, .ref a.tr), (2, .ref d.mo), (3, .ref a.out), (4, .int i)]) hx hb d_Law_law_543 hl (by decide) rfl (fun ls hl => ?_)
  refine lv_aload_n hx hb d_Law_law_545 rfl (lv_at hl 3 rfl) ?_
  refine lv_aload_n hx hb d_Law_law_546 rfl (lv_at hl 1 rfl) ?_
  refine lv_iload hx hb d_Law_law_547 (lv_at hl 5 rfl) ?_
  refine lv_iconst (v := 1) hx hb d_Law_law_549 (by decide) ?_
  refine lv_iadd hx hb d_Law_law_550 ?_
  refine va_sld hx hb hX hbl (hAn _ hbl) hS h1 d_Law_law_551 ?_
  refine lv_aload_n hx hb d_Law_law_552 rfl (lv_at hl 1 rfl) ?_
  refine lv_iload hx hb d_Law_law_553 (lv_at hl 5 rfl) ?_
  refine lv_iconst (v := 2) hx hb d_Law_law_555 (by decide) ?_
  refine lv_iadd hx hb d_Law_law_556 ?_
  refine va_sld hx hb hX hbl (hAn _ hbl) hS h2 d_Law_law_557 ?_
  refine kM_way C0 hKM (va_P_c hP) (va_D_c hD) hS hl.1 hM d_Law_law_558 ⟨by omega, by omega⟩ (fun H locs hP hD hS => ?_)
  have hP := va_P_c hP
  have hD := va_D_c hD
  refine lv_istore (lv' := [(6, .int q), (5, .int k), (0, .ref b), (1, .ref a.tr), (2, .ref d.mo), (3, .ref a.out), (4, .int i)]) hx hb d_Law_law_561 hl (by decide) rfl (fun ls hl => ?_)
  refine lv_aload_n hx hb d_Law_law_563 rfl (lv_at hl 4 rfl) ?_
  refine kM_thrown C0 hKM (va_P_c hP) (va_D_c hD) hS hl.1 hth d_Law_law_564 ⟨by omega, by omega⟩ ?_
  refine lv_iload hx hb d_Law_law_567 (lv_at hl 1 rfl) ?_
  refine lv_icmp_eq (tgt := 574) hx hb d_Law_law_569 (by decide) (fun c_1 => ?_) (fun c_1 => ?_)
  · skip
    refine lv_iload hx hb d_Law_law_574 (lv_at hl 1 rfl) ?_
    refine lv_if_ne (tgt := 591) hx hb d_Law_law_576 (by decide) (fun c_2 => ?_) (fun c_2 => ?_)
    · skip
      refine lv_goto (tgt := 1024) hx hb d_Law_law_591 (by decide) ?_
      exact K _ _ _ hP hD hS (lv_sub hl [2, 3, 4, 5, 6] rfl)
    · skip
      refine lv_aload_n hx hb d_Law_law_579 rfl (lv_at hl 5 rfl) ?_
      refine lv_iconst (v := 0) hx hb d_Law_law_580 (by decide) ?_
      refine va_lald hx hb hK (va_P_l hP) 31 19 rfl rfl (by unfold vp_in; decide) d_Law_law_581 ?_
      refine lv_iload hx hb d_Law_law_582 (lv_at hl 0 rfl) ?_
      refine lv_i2l hx hb d_Law_law_584 rfl ?_
      refine W.lcmp hx hb d_Law_law_585 ?_
      refine lv_if_eq (tgt := 591) hx hb d_Law_law_586 (by decide) (fun c_3 => ?_) (fun c_3 => ?_)
      · skip
        refine lv_goto (tgt := 1024) hx hb d_Law_law_591 (by decide) ?_
        exact K _ _ _ hP hD hS (lv_sub hl [2, 3, 4, 5, 6] rfl)
      · skip
        exact (hc1 c_1 c_2 c_3).elim
  · skip
    exact (hc2 c_1).elim
set_option maxHeartbeats 4000000 in
set_option maxRecDepth 100000 in
theorem kc_order_F {p : Program} {l : Launch} {e : Env} {s : State} {m : MethodId} {args : Array Value} {below : List Frame} {meth : Method} {c : Code} {H : Heap} {locs : List Loc} {cells slots : Nat} {Q : State → Prop} {A : Nat → Prop} {b N : Nat} {xs : Nat → Int32} {dC : Nat → ClassId} {dI : Nat → Nat → Nat} {a : TA} {z z1 : TS} {d : MA} {y y1 : MS} {i : Int32} {ls : Array Slot} {k : Int32} {q : Int32} {t : Int32} (C0 : LX p l s m c args A b N xs) (hK : va_K (dC, dI) CL (KF a) s) (hKM : va_K (dC, dI) CL (KM d) s) (hP : va_P (dC, dI) CL (WF a z ++ WM d y) H) (hD : va_D A (WF a z ++ WM d y)) (hS : va_S A s.heap H locs) (hl : lv_has ls 7 [(0, .ref b), (1, .ref a.tr), (2, .ref d.mo), (3, .ref a.out), (4, .int i)]) (h1 : vp_in (i + (1 : Int32)) N) (h2 : vp_in (i + (2 : Int32)) N) (h3 : vp_in (i + (3 : Int32)) N) (h4 : vp_in (i + (4 : Int32)) N) (hf : cells + 2 ≤ room_1.cells ∧ slots + 12 ≤ room_1.slots) (hT : T_order_F z (xs (i + (1 : Int32)).toNatClampNeg) = some (k, z1)) (hM : M_order y (xs (i + (1 : Int32)).toNatClampNeg) = some (q, y1)) (hth : M_thrown y1  = some t) (hc1 : t = k → k = 0 → ¬ (lg_cmp (z1.out (0 : Int32).toNatClampNeg) q.toInt64) = 0 → False) (hc2 : ¬ t = k → False) (K : ∀ (H1 : Heap) (locs1 : List Loc) (ls1 : Array Slot), va_P (dC, dI) CL (WF a z1 ++ WM d y1) H1 → va_D A (WF a z1 ++ WM d y1) → va_S A s.heap H1 locs1 → lv_has ls1 7 [(0, .ref b), (1, .ref a.tr), (2, .ref d.mo), (3, .ref a.out), (4, .int i)] → W p l e room_1 s m args below meth c H1 locs1 (cells + 1) (slots + 6) Q (F0 m 1024 ls1 [])) : W p l e room_1 s m args below meth c H locs cells slots Q (F0 m 594 ls []) := by
  obtain ⟨hx, hb, hml, hown, hB, hnw, hxw, hxn, hst, hA, hAn, hlt, hX, hbl⟩ := id C0
  obtain ⟨hf1, hf2⟩ := hf
  refine lv_aload_n hx hb d_Law_law_594 rfl (lv_at hl 1 rfl) ?_
  refine lv_aload_n hx hb d_Law_law_595 rfl (lv_at hl 0 rfl) ?_
  refine lv_iload hx hb d_Law_law_596 (lv_at hl 4 rfl) ?_
  refine lv_iconst (v := 1) hx hb d_Law_law_598 (by decide) ?_
  refine lv_iadd hx hb d_Law_law_599 ?_
  refine va_sld hx hb hX hbl (hAn _ hbl) hS h1 d_Law_law_600 ?_
  refine lv_aload_n hx hb d_Law_law_601 rfl (lv_at hl 3 rfl) ?_
  refine kT_order_F C0 hK hP hD hS hl.1 hT d_Law_law_602 ⟨by omega, by omega⟩ (fun H locs hP hD hS => ?_)
  refine lv_istore (lv' := [(5, .int k), (0, .ref b), (1, .ref a.tr), (2, .ref d.mo), (3, .ref a.out), (4, .int i)]) hx hb d_Law_law_605 hl (by decide) rfl (fun ls hl => ?_)
  refine lv_aload_n hx hb d_Law_law_607 rfl (lv_at hl 3 rfl) ?_
  refine lv_aload_n hx hb d_Law_law_608 rfl (lv_at hl 1 rfl) ?_
  refine lv_iload hx hb d_Law_law_609 (lv_at hl 5 rfl) ?_
  refine lv_iconst (v := 1) hx hb d_Law_law_611 (by decide) ?_
  refine lv_iadd hx hb d_Law_law_612 ?_
  refine va_sld hx hb hX hbl (hAn _ hbl) hS h1 d_Law_law_613 ?_
  refine kM_order C0 hKM (va_P_c hP) (va_D_c hD) hS hl.1 hM d_Law_law_614 ⟨by omega, by omega⟩ (fun H locs hP hD hS => ?_)
  have hP := va_P_c hP
  have hD := va_D_c hD
  refine lv_istore (lv' := [(6, .int q), (5, .int k), (0, .ref b), (1, .ref a.tr), (2, .ref d.mo), (3, .ref a.out), (4, .int i)]) hx hb d_Law_law_617 hl (by decide) rfl (fun ls hl => ?_)
  refine lv_aload_n hx hb d_Law_law_619 rfl (lv_at hl 4 rfl) ?_
  refine kM_thrown C0 hKM (va_P_c hP) (va_D_c hD) hS hl.1 hth d_Law_law_620 ⟨by omega, by omega⟩ ?_
  refine lv_iload hx hb d_Law_law_623 (lv_at hl 1 rfl) ?_
  refine lv_icmp_eq (tgt := 630) hx hb d_Law_law_625 (by decide) (fun c_1 => ?_) (fun c_1 => ?_)
  · skip
    refine lv_iload hx hb d_Law_law_630 (lv_at hl 1 rfl) ?_
    refine lv_if_ne (tgt := 647) hx hb d_Law_law_632 (by decide) (fun c_2 => ?_) (fun c_2 => ?_)
    · skip
      refine lv_goto (tgt := 1024) hx hb d_Law_law_647 (by decide) ?_
      exact K _ _ _ hP hD hS (lv_sub hl [2, 3, 4, 5, 6] rfl)
    · skip
      refine lv_aload_n hx hb d_Law_law_635 rfl (lv_at hl 5 rfl) ?_
      refine lv_iconst (v := 0) hx hb d_Law_law_636 (by decide) ?_
      refine va_lald hx hb hK (va_P_l hP) 31 19 rfl rfl (by unfold vp_in; decide) d_Law_law_637 ?_
      refine lv_iload hx hb d_Law_law_638 (lv_at hl 0 rfl) ?_
      refine lv_i2l hx hb d_Law_law_640 rfl ?_
      refine W.lcmp hx hb d_Law_law_641 ?_
      refine lv_if_eq (tgt := 647) hx hb d_Law_law_642 (by decide) (fun c_3 => ?_) (fun c_3 => ?_)
      · skip
        refine lv_goto (tgt := 1024) hx hb d_Law_law_647 (by decide) ?_
        exact K _ _ _ hP hD hS (lv_sub hl [2, 3, 4, 5, 6] rfl)
      · skip
        exact (hc1 c_1 c_2 c_3).elim
  · skip
    exact (hc2 c_1).elim
set_option maxHeartbeats 4000000 in
set_option maxRecDepth 100000 in
theorem kc_compose_F {p : Program} {l : Launch} {e : Env} {s : State} {m : MethodId} {args : Array Value} {below : List Frame} {meth : Method} {c : Code} {H : Heap} {locs : List Loc} {cells slots : Nat} {Q : State → Prop} {A : Nat → Prop} {b N : Nat} {xs : Nat → Int32} {dC : Nat → ClassId} {dI : Nat → Nat → Nat} {a : TA} {z z1 : TS} {d : MA} {y y1 : MS} {i : Int32} {ls : Array Slot} {k : Int32} {q : Int32} (C0 : LX p l s m c args A b N xs) (hK : va_K (dC, dI) CL (KF a) s) (hKM : va_K (dC, dI) CL (KM d) s) (hP : va_P (dC, dI) CL (WF a z ++ WM d y) H) (hD : va_D A (WF a z ++ WM d y)) (hS : va_S A s.heap H locs) (hl : lv_has ls 7 [(0, .ref b), (1, .ref a.tr), (2, .ref d.mo), (3, .ref a.out), (4, .int i)]) (h1 : vp_in (i + (1 : Int32)) N) (h2 : vp_in (i + (2 : Int32)) N) (h3 : vp_in (i + (3 : Int32)) N) (h4 : vp_in (i + (4 : Int32)) N) (hf : cells + 2 ≤ room_1.cells ∧ slots + 12 ≤ room_1.slots) (hT : T_compose z  = some (k, z1)) (hM : M_compose y  = some (q, y1)) (hc1 : ¬ k = q → False) (K : ∀ (H1 : Heap) (locs1 : List Loc) (ls1 : Array Slot), va_P (dC, dI) CL (WF a z1 ++ WM d y1) H1 → va_D A (WF a z1 ++ WM d y1) → va_S A s.heap H1 locs1 → lv_has ls1 7 [(0, .ref b), (1, .ref a.tr), (2, .ref d.mo), (3, .ref a.out), (4, .int i)] → W p l e room_1 s m args below meth c H1 locs1 (cells + 1) (slots + 6) Q (F0 m 1024 ls1 [])) : W p l e room_1 s m args below meth c H locs cells slots Q (F0 m 650 ls []) := by
  obtain ⟨hx, hb, hml, hown, hB, hnw, hxw, hxn, hst, hA, hAn, hlt, hX, hbl⟩ := id C0
  obtain ⟨hf1, hf2⟩ := hf
  refine lv_aload_n hx hb d_Law_law_650 rfl (lv_at hl 1 rfl) ?_
  refine kT_compose_F C0 hK hP hD hS hl.1 hT d_Law_law_651 ⟨by omega, by omega⟩ (fun H locs hP hD hS => ?_)
  refine lv_aload_n hx hb d_Law_law_654 rfl (lv_at hl 2 rfl) ?_
  refine kM_compose C0 hKM (va_P_c hP) (va_D_c hD) hS hl.1 hM d_Law_law_655 ⟨by omega, by omega⟩ (fun H locs hP hD hS => ?_)
  have hP := va_P_c hP
  have hD := va_D_c hD
  refine lv_icmp_eq (tgt := 1024) hx hb d_Law_law_658 (by decide) (fun c_1 => ?_) (fun c_1 => ?_)
  · skip
    refine W.widen (k := cells + 1) (n := slots + 6) (by omega) (by omega) ?_
    exact K _ _ _ hP hD hS (lv_sub hl [0, 1, 2, 3, 4] rfl)
  · skip
    exact (hc1 c_1).elim
set_option maxHeartbeats 4000000 in
set_option maxRecDepth 100000 in
theorem kc_at_F {p : Program} {l : Launch} {e : Env} {s : State} {m : MethodId} {args : Array Value} {below : List Frame} {meth : Method} {c : Code} {H : Heap} {locs : List Loc} {cells slots : Nat} {Q : State → Prop} {A : Nat → Prop} {b N : Nat} {xs : Nat → Int32} {dC : Nat → ClassId} {dI : Nat → Nat → Nat} {a : TA} {z z1 : TS} {d : MA} {y y1 : MS} {i : Int32} {ls : Array Slot} {k : Int32} {q : Int32} {t : Int32} (C0 : LX p l s m c args A b N xs) (hK : va_K (dC, dI) CL (KF a) s) (hKM : va_K (dC, dI) CL (KM d) s) (hP : va_P (dC, dI) CL (WF a z ++ WM d y) H) (hD : va_D A (WF a z ++ WM d y)) (hS : va_S A s.heap H locs) (hl : lv_has ls 7 [(0, .ref b), (1, .ref a.tr), (2, .ref d.mo), (3, .ref a.out), (4, .int i)]) (h1 : vp_in (i + (1 : Int32)) N) (h2 : vp_in (i + (2 : Int32)) N) (h3 : vp_in (i + (3 : Int32)) N) (h4 : vp_in (i + (4 : Int32)) N) (hf : cells + 2 ≤ room_1.cells ∧ slots + 12 ≤ room_1.slots) (hT : T_at z (xs (i + (1 : Int32)).toNatClampNeg) (xs (i + (2 : Int32)).toNatClampNeg) = some (k, z1)) (hM : M_at y (xs (i + (1 : Int32)).toNatClampNeg) (xs (i + (2 : Int32)).toNatClampNeg) = some (q, y1)) (hth : M_thrown y1  = some t) (hc1 : t = k → k = 0 → q = 0 → ¬ (lg_cmp (z1.out (0 : Int32).toNatClampNeg) (0 : Int64)) = 0 → False) (hc2 : t = k → k = 0 → ¬ q = 0 → ¬ (lg_cmp (z1.out (0 : Int32).toNatClampNeg) (1 : Int64)) = 0 → False) (hc3 : ¬ t = k → False) (K : ∀ (H1 : Heap) (locs1 : List Loc) (ls1 : Array Slot), va_P (dC, dI) CL (WF a z1 ++ WM d y1) H1 → va_D A (WF a z1 ++ WM d y1) → va_S A s.heap H1 locs1 → lv_has ls1 7 [(0, .ref b), (1, .ref a.tr), (2, .ref d.mo), (3, .ref a.out), (4, .int i)] → W p l e room_1 s m args below meth c H1 locs1 (cells + 1) (slots + 6) Q (F0 m 1024 ls1 [])) : W p l e room_1 s m args below meth c H locs cells slots Q (F0 m 663 ls []) := by
  obtain ⟨hx, hb, hml, hown, hB, hnw, hxw, hxn, hst, hA, hAn, hlt, hX, hbl⟩ := id C0
  obtain ⟨hf1, hf2⟩ := hf
  refine lv_aload_n hx hb d_Law_law_663 rfl (lv_at hl 1 rfl) ?_
  refine lv_aload_n hx hb d_Law_law_664 rfl (lv_at hl 0 rfl) ?_
  refine lv_iload hx hb d_Law_law_665 (lv_at hl 4 rfl) ?_
  refine lv_iconst (v := 1) hx hb d_Law_law_667 (by decide) ?_
  refine lv_iadd hx hb d_Law_law_668 ?_
  refine va_sld hx hb hX hbl (hAn _ hbl) hS h1 d_Law_law_669 ?_
  refine lv_aload_n hx hb d_Law_law_670 rfl (lv_at hl 0 rfl) ?_
  refine lv_iload hx hb d_Law_law_671 (lv_at hl 4 rfl) ?_
  refine lv_iconst (v := 2) hx hb d_Law_law_673 (by decide) ?_
  refine lv_iadd hx hb d_Law_law_674 ?_
  refine va_sld hx hb hX hbl (hAn _ hbl) hS h2 d_Law_law_675 ?_
  refine lv_aload_n hx hb d_Law_law_676 rfl (lv_at hl 3 rfl) ?_
  refine kT_at_F C0 hK hP hD hS hl.1 hT d_Law_law_677 ⟨by omega, by omega⟩ (fun H locs hP hD hS => ?_)
  refine lv_istore (lv' := [(5, .int k), (0, .ref b), (1, .ref a.tr), (2, .ref d.mo), (3, .ref a.out), (4, .int i)]) hx hb d_Law_law_680 hl (by decide) rfl (fun ls hl => ?_)
  refine lv_aload_n hx hb d_Law_law_682 rfl (lv_at hl 3 rfl) ?_
  refine lv_aload_n hx hb d_Law_law_683 rfl (lv_at hl 1 rfl) ?_
  refine lv_iload hx hb d_Law_law_684 (lv_at hl 5 rfl) ?_
  refine lv_iconst (v := 1) hx hb d_Law_law_686 (by decide) ?_
  refine lv_iadd hx hb d_Law_law_687 ?_
  refine va_sld hx hb hX hbl (hAn _ hbl) hS h1 d_Law_law_688 ?_
  refine lv_aload_n hx hb d_Law_law_689 rfl (lv_at hl 1 rfl) ?_
  refine lv_iload hx hb d_Law_law_690 (lv_at hl 5 rfl) ?_
  refine lv_iconst (v := 2) hx hb d_Law_law_692 (by decide) ?_
  refine lv_iadd hx hb d_Law_law_693 ?_
  refine va_sld hx hb hX hbl (hAn _ hbl) hS h2 d_Law_law_694 ?_
  refine kM_at C0 hKM (va_P_c hP) (va_D_c hD) hS hl.1 hM d_Law_law_695 ⟨by omega, by omega⟩ (fun H locs hP hD hS => ?_)
  have hP := va_P_c hP
  have hD := va_D_c hD
  refine lv_istore (lv' := [(6, .int q), (5, .int k), (0, .ref b), (1, .ref a.tr), (2, .ref d.mo), (3, .ref a.out), (4, .int i)]) hx hb d_Law_law_698 hl (by decide) rfl (fun ls hl => ?_)
  refine lv_aload_n hx hb d_Law_law_700 rfl (lv_at hl 4 rfl) ?_
  refine kM_thrown C0 hKM (va_P_c hP) (va_D_c hD) hS hl.1 hth d_Law_law_701 ⟨by omega, by omega⟩ ?_
  refine lv_iload hx hb d_Law_law_704 (lv_at hl 1 rfl) ?_
  refine lv_icmp_eq (tgt := 711) hx hb d_Law_law_706 (by decide) (fun c_1 => ?_) (fun c_1 => ?_)
  · skip
    refine lv_iload hx hb d_Law_law_711 (lv_at hl 1 rfl) ?_
    refine lv_if_ne (tgt := 735) hx hb d_Law_law_713 (by decide) (fun c_2 => ?_) (fun c_2 => ?_)
    · skip
      refine lv_goto (tgt := 1024) hx hb d_Law_law_735 (by decide) ?_
      exact K _ _ _ hP hD hS (lv_sub hl [2, 3, 4, 5, 6] rfl)
    · skip
      refine lv_aload_n hx hb d_Law_law_716 rfl (lv_at hl 5 rfl) ?_
      refine lv_iconst (v := 0) hx hb d_Law_law_717 (by decide) ?_
      refine va_lald hx hb hK (va_P_l hP) 31 19 rfl rfl (by unfold vp_in; decide) d_Law_law_718 ?_
      refine lv_iload hx hb d_Law_law_719 (lv_at hl 0 rfl) ?_
      refine lv_if_eq (tgt := 728) hx hb d_Law_law_721 (by decide) (fun c_3 => ?_) (fun c_3 => ?_)
      · skip
        refine lv_lconst (v := 0) hx hb d_Law_law_728 (by decide) ?_
        refine W.lcmp hx hb d_Law_law_729 ?_
        refine lv_if_eq (tgt := 735) hx hb d_Law_law_730 (by decide) (fun c_4 => ?_) (fun c_4 => ?_)
        · skip
          refine lv_goto (tgt := 1024) hx hb d_Law_law_735 (by decide) ?_
          exact K _ _ _ hP hD hS (lv_sub hl [2, 3, 4, 5, 6] rfl)
        · skip
          exact (hc1 c_1 c_2 c_3 c_4).elim
      · skip
        refine lv_lconst (v := 1) hx hb d_Law_law_724 (by decide) ?_
        refine lv_goto (tgt := 729) hx hb d_Law_law_725 (by decide) ?_
        refine W.lcmp hx hb d_Law_law_729 ?_
        refine lv_if_eq (tgt := 735) hx hb d_Law_law_730 (by decide) (fun c_5 => ?_) (fun c_5 => ?_)
        · skip
          refine lv_goto (tgt := 1024) hx hb d_Law_law_735 (by decide) ?_
          exact K _ _ _ hP hD hS (lv_sub hl [2, 3, 4, 5, 6] rfl)
        · skip
          exact (hc2 c_1 c_2 c_3 c_5).elim
  · skip
    exact (hc3 c_1).elim
set_option maxHeartbeats 4000000 in
set_option maxRecDepth 100000 in
theorem kc_write_F {p : Program} {l : Launch} {e : Env} {s : State} {m : MethodId} {args : Array Value} {below : List Frame} {meth : Method} {c : Code} {H : Heap} {locs : List Loc} {cells slots : Nat} {Q : State → Prop} {A : Nat → Prop} {b N : Nat} {xs : Nat → Int32} {dC : Nat → ClassId} {dI : Nat → Nat → Nat} {a : TA} {z z1 : TS} {d : MA} {y y1 : MS} {i : Int32} {ls : Array Slot} {k : Int32} {q : Int32} (C0 : LX p l s m c args A b N xs) (hK : va_K (dC, dI) CL (KF a) s) (hKM : va_K (dC, dI) CL (KM d) s) (hP : va_P (dC, dI) CL (WF a z ++ WM d y) H) (hD : va_D A (WF a z ++ WM d y)) (hS : va_S A s.heap H locs) (hl : lv_has ls 7 [(0, .ref b), (1, .ref a.tr), (2, .ref d.mo), (3, .ref a.out), (4, .int i)]) (h1 : vp_in (i + (1 : Int32)) N) (h2 : vp_in (i + (2 : Int32)) N) (h3 : vp_in (i + (3 : Int32)) N) (h4 : vp_in (i + (4 : Int32)) N) (hf : cells + 2 ≤ room_1.cells ∧ slots + 12 ≤ room_1.slots) (hT : T_write_F z  = some (k, z1)) (hM : M_write y  = some (q, y1)) (hc1 : ¬ k = q → False) (K : ∀ (H1 : Heap) (locs1 : List Loc) (ls1 : Array Slot), va_P (dC, dI) CL (WF a z1 ++ WM d y1) H1 → va_D A (WF a z1 ++ WM d y1) → va_S A s.heap H1 locs1 → lv_has ls1 7 [(0, .ref b), (1, .ref a.tr), (2, .ref d.mo), (3, .ref a.out), (4, .int i)] → W p l e room_1 s m args below meth c H1 locs1 (cells + 1) (slots + 6) Q (F0 m 1024 ls1 [])) : W p l e room_1 s m args below meth c H locs cells slots Q (F0 m 738 ls []) := by
  obtain ⟨hx, hb, hml, hown, hB, hnw, hxw, hxn, hst, hA, hAn, hlt, hX, hbl⟩ := id C0
  obtain ⟨hf1, hf2⟩ := hf
  refine lv_aload_n hx hb d_Law_law_738 rfl (lv_at hl 1 rfl) ?_
  refine kT_write_F C0 hK hP hD hS hl.1 hT d_Law_law_739 ⟨by omega, by omega⟩ (fun H locs hP hD hS => ?_)
  refine lv_aload_n hx hb d_Law_law_742 rfl (lv_at hl 2 rfl) ?_
  refine kM_write C0 hKM (va_P_c hP) (va_D_c hD) hS hl.1 hM d_Law_law_743 ⟨by omega, by omega⟩ (fun H locs hP hD hS => ?_)
  have hP := va_P_c hP
  have hD := va_D_c hD
  refine lv_icmp_eq (tgt := 1024) hx hb d_Law_law_746 (by decide) (fun c_1 => ?_) (fun c_1 => ?_)
  · skip
    refine W.widen (k := cells + 1) (n := slots + 6) (by omega) (by omega) ?_
    exact K _ _ _ hP hD hS (lv_sub hl [0, 1, 2, 3, 4] rfl)
  · skip
    exact (hc1 c_1).elim
set_option maxHeartbeats 4000000 in
set_option maxRecDepth 100000 in
theorem kc_byteAt_F {p : Program} {l : Launch} {e : Env} {s : State} {m : MethodId} {args : Array Value} {below : List Frame} {meth : Method} {c : Code} {H : Heap} {locs : List Loc} {cells slots : Nat} {Q : State → Prop} {A : Nat → Prop} {b N : Nat} {xs : Nat → Int32} {dC : Nat → ClassId} {dI : Nat → Nat → Nat} {a : TA} {z z1 : TS} {d : MA} {y y1 : MS} {i : Int32} {ls : Array Slot} {k : Int32} {q : Int32} {t : Int32} (C0 : LX p l s m c args A b N xs) (hK : va_K (dC, dI) CL (KF a) s) (hKM : va_K (dC, dI) CL (KM d) s) (hP : va_P (dC, dI) CL (WF a z ++ WM d y) H) (hD : va_D A (WF a z ++ WM d y)) (hS : va_S A s.heap H locs) (hl : lv_has ls 7 [(0, .ref b), (1, .ref a.tr), (2, .ref d.mo), (3, .ref a.out), (4, .int i)]) (h1 : vp_in (i + (1 : Int32)) N) (h2 : vp_in (i + (2 : Int32)) N) (h3 : vp_in (i + (3 : Int32)) N) (h4 : vp_in (i + (4 : Int32)) N) (hf : cells + 2 ≤ room_1.cells ∧ slots + 12 ≤ room_1.slots) (hT : T_byteAt z (xs (i + (1 : Int32)).toNatClampNeg) = some (k, z1)) (hM : M_byteAt y (xs (i + (1 : Int32)).toNatClampNeg) = some (q, y1)) (hth : M_thrown y1  = some t) (hc1 : t = k → k = 0 → ¬ (lg_cmp (z1.out (0 : Int32).toNatClampNeg) q.toInt64) = 0 → False) (hc2 : ¬ t = k → False) (K : ∀ (H1 : Heap) (locs1 : List Loc) (ls1 : Array Slot), va_P (dC, dI) CL (WF a z1 ++ WM d y1) H1 → va_D A (WF a z1 ++ WM d y1) → va_S A s.heap H1 locs1 → lv_has ls1 7 [(0, .ref b), (1, .ref a.tr), (2, .ref d.mo), (3, .ref a.out), (4, .int i)] → W p l e room_1 s m args below meth c H1 locs1 (cells + 1) (slots + 6) Q (F0 m 1024 ls1 [])) : W p l e room_1 s m args below meth c H locs cells slots Q (F0 m 751 ls []) := by
  obtain ⟨hx, hb, hml, hown, hB, hnw, hxw, hxn, hst, hA, hAn, hlt, hX, hbl⟩ := id C0
  obtain ⟨hf1, hf2⟩ := hf
  refine lv_aload_n hx hb d_Law_law_751 rfl (lv_at hl 1 rfl) ?_
  refine lv_aload_n hx hb d_Law_law_752 rfl (lv_at hl 0 rfl) ?_
  refine lv_iload hx hb d_Law_law_753 (lv_at hl 4 rfl) ?_
  refine lv_iconst (v := 1) hx hb d_Law_law_755 (by decide) ?_
  refine lv_iadd hx hb d_Law_law_756 ?_
  refine va_sld hx hb hX hbl (hAn _ hbl) hS h1 d_Law_law_757 ?_
  refine lv_aload_n hx hb d_Law_law_758 rfl (lv_at hl 3 rfl) ?_
  refine kT_byteAt_F C0 hK hP hD hS hl.1 hT d_Law_law_759 ⟨by omega, by omega⟩ (fun H locs hP hD hS => ?_)
  refine lv_istore (lv' := [(5, .int k), (0, .ref b), (1, .ref a.tr), (2, .ref d.mo), (3, .ref a.out), (4, .int i)]) hx hb d_Law_law_762 hl (by decide) rfl (fun ls hl => ?_)
  refine lv_aload_n hx hb d_Law_law_764 rfl (lv_at hl 3 rfl) ?_
  refine lv_aload_n hx hb d_Law_law_765 rfl (lv_at hl 1 rfl) ?_
  refine lv_iload hx hb d_Law_law_766 (lv_at hl 5 rfl) ?_
  refine lv_iconst (v := 1) hx hb d_Law_law_768 (by decide) ?_
  refine lv_iadd hx hb d_Law_law_769 ?_
  refine va_sld hx hb hX hbl (hAn _ hbl) hS h1 d_Law_law_770 ?_
  refine kM_byteAt C0 hKM (va_P_c hP) (va_D_c hD) hS hl.1 hM d_Law_law_771 ⟨by omega, by omega⟩ (fun H locs hP hD hS => ?_)
  have hP := va_P_c hP
  have hD := va_D_c hD
  refine lv_istore (lv' := [(6, .int q), (5, .int k), (0, .ref b), (1, .ref a.tr), (2, .ref d.mo), (3, .ref a.out), (4, .int i)]) hx hb d_Law_law_774 hl (by decide) rfl (fun ls hl => ?_)
  refine lv_aload_n hx hb d_Law_law_776 rfl (lv_at hl 4 rfl) ?_
  refine kM_thrown C0 hKM (va_P_c hP) (va_D_c hD) hS hl.1 hth d_Law_law_777 ⟨by omega, by omega⟩ ?_
  refine lv_iload hx hb d_Law_law_780 (lv_at hl 1 rfl) ?_
  refine lv_icmp_eq (tgt := 787) hx hb d_Law_law_782 (by decide) (fun c_1 => ?_) (fun c_1 => ?_)
  · skip
    refine lv_iload hx hb d_Law_law_787 (lv_at hl 1 rfl) ?_
    refine lv_if_ne (tgt := 804) hx hb d_Law_law_789 (by decide) (fun c_2 => ?_) (fun c_2 => ?_)
    · skip
      refine lv_goto (tgt := 1024) hx hb d_Law_law_804 (by decide) ?_
      exact K _ _ _ hP hD hS (lv_sub hl [2, 3, 4, 5, 6] rfl)
    · skip
      refine lv_aload_n hx hb d_Law_law_792 rfl (lv_at hl 5 rfl) ?_
      refine lv_iconst (v := 0) hx hb d_Law_law_793 (by decide) ?_
      refine va_lald hx hb hK (va_P_l hP) 31 19 rfl rfl (by unfold vp_in; decide) d_Law_law_794 ?_
      refine lv_iload hx hb d_Law_law_795 (lv_at hl 0 rfl) ?_
      refine lv_i2l hx hb d_Law_law_797 rfl ?_
      refine W.lcmp hx hb d_Law_law_798 ?_
      refine lv_if_eq (tgt := 804) hx hb d_Law_law_799 (by decide) (fun c_3 => ?_) (fun c_3 => ?_)
      · skip
        refine lv_goto (tgt := 1024) hx hb d_Law_law_804 (by decide) ?_
        exact K _ _ _ hP hD hS (lv_sub hl [2, 3, 4, 5, 6] rfl)
      · skip
        exact (hc1 c_1 c_2 c_3).elim
  · skip
    exact (hc2 c_1).elim
set_option maxHeartbeats 4000000 in
set_option maxRecDepth 100000 in
theorem kc_feed_F {p : Program} {l : Launch} {e : Env} {s : State} {m : MethodId} {args : Array Value} {below : List Frame} {meth : Method} {c : Code} {H : Heap} {locs : List Loc} {cells slots : Nat} {Q : State → Prop} {A : Nat → Prop} {b N : Nat} {xs : Nat → Int32} {dC : Nat → ClassId} {dI : Nat → Nat → Nat} {a : TA} {z z1 : TS} {d : MA} {y y1 : MS} {i : Int32} {ls : Array Slot} {k : Int32} {q : Int32} {t : Int32} (C0 : LX p l s m c args A b N xs) (hK : va_K (dC, dI) CL (KF a) s) (hKM : va_K (dC, dI) CL (KM d) s) (hP : va_P (dC, dI) CL (WF a z ++ WM d y) H) (hD : va_D A (WF a z ++ WM d y)) (hS : va_S A s.heap H locs) (hl : lv_has ls 7 [(0, .ref b), (1, .ref a.tr), (2, .ref d.mo), (3, .ref a.out), (4, .int i)]) (h1 : vp_in (i + (1 : Int32)) N) (h2 : vp_in (i + (2 : Int32)) N) (h3 : vp_in (i + (3 : Int32)) N) (h4 : vp_in (i + (4 : Int32)) N) (hf : cells + 2 ≤ room_1.cells ∧ slots + 12 ≤ room_1.slots) (hT : T_feed z (xs (i + (1 : Int32)).toNatClampNeg) = some (k, z1)) (hM : M_feed y (xs (i + (1 : Int32)).toNatClampNeg) = some (q, y1)) (hth : M_thrown y1  = some t) (hc1 : t = k → k = 0 → ¬ (lg_cmp (z1.out (0 : Int32).toNatClampNeg) q.toInt64) = 0 → False) (hc2 : ¬ t = k → False) (K : ∀ (H1 : Heap) (locs1 : List Loc) (ls1 : Array Slot), va_P (dC, dI) CL (WF a z1 ++ WM d y1) H1 → va_D A (WF a z1 ++ WM d y1) → va_S A s.heap H1 locs1 → lv_has ls1 7 [(0, .ref b), (1, .ref a.tr), (2, .ref d.mo), (3, .ref a.out), (4, .int i)] → W p l e room_1 s m args below meth c H1 locs1 (cells + 1) (slots + 6) Q (F0 m 1024 ls1 [])) : W p l e room_1 s m args below meth c H locs cells slots Q (F0 m 807 ls []) := by
  obtain ⟨hx, hb, hml, hown, hB, hnw, hxw, hxn, hst, hA, hAn, hlt, hX, hbl⟩ := id C0
  obtain ⟨hf1, hf2⟩ := hf
  refine lv_aload_n hx hb d_Law_law_807 rfl (lv_at hl 1 rfl) ?_
  refine lv_aload_n hx hb d_Law_law_808 rfl (lv_at hl 0 rfl) ?_
  refine lv_iload hx hb d_Law_law_809 (lv_at hl 4 rfl) ?_
  refine lv_iconst (v := 1) hx hb d_Law_law_811 (by decide) ?_
  refine lv_iadd hx hb d_Law_law_812 ?_
  refine va_sld hx hb hX hbl (hAn _ hbl) hS h1 d_Law_law_813 ?_
  refine lv_aload_n hx hb d_Law_law_814 rfl (lv_at hl 3 rfl) ?_
  refine kT_feed_F C0 hK hP hD hS hl.1 hT d_Law_law_815 ⟨by omega, by omega⟩ (fun H locs hP hD hS => ?_)
  refine lv_istore (lv' := [(5, .int k), (0, .ref b), (1, .ref a.tr), (2, .ref d.mo), (3, .ref a.out), (4, .int i)]) hx hb d_Law_law_818 hl (by decide) rfl (fun ls hl => ?_)
  refine lv_aload_n hx hb d_Law_law_820 rfl (lv_at hl 3 rfl) ?_
  refine lv_aload_n hx hb d_Law_law_821 rfl (lv_at hl 1 rfl) ?_
  refine lv_iload hx hb d_Law_law_822 (lv_at hl 5 rfl) ?_
  refine lv_iconst (v := 1) hx hb d_Law_law_824 (by decide) ?_
  refine lv_iadd hx hb d_Law_law_825 ?_
  refine va_sld hx hb hX hbl (hAn _ hbl) hS h1 d_Law_law_826 ?_
  refine kM_feed C0 hKM (va_P_c hP) (va_D_c hD) hS hl.1 hM d_Law_law_827 ⟨by omega, by omega⟩ (fun H locs hP hD hS => ?_)
  have hP := va_P_c hP
  have hD := va_D_c hD
  refine lv_istore (lv' := [(6, .int q), (5, .int k), (0, .ref b), (1, .ref a.tr), (2, .ref d.mo), (3, .ref a.out), (4, .int i)]) hx hb d_Law_law_830 hl (by decide) rfl (fun ls hl => ?_)
  refine lv_aload_n hx hb d_Law_law_832 rfl (lv_at hl 4 rfl) ?_
  refine kM_thrown C0 hKM (va_P_c hP) (va_D_c hD) hS hl.1 hth d_Law_law_833 ⟨by omega, by omega⟩ ?_
  refine lv_iload hx hb d_Law_law_836 (lv_at hl 1 rfl) ?_
  refine lv_icmp_eq (tgt := 843) hx hb d_Law_law_838 (by decide) (fun c_1 => ?_) (fun c_1 => ?_)
  · skip
    refine lv_iload hx hb d_Law_law_843 (lv_at hl 1 rfl) ?_
    refine lv_if_ne (tgt := 860) hx hb d_Law_law_845 (by decide) (fun c_2 => ?_) (fun c_2 => ?_)
    · skip
      refine lv_goto (tgt := 1024) hx hb d_Law_law_860 (by decide) ?_
      exact K _ _ _ hP hD hS (lv_sub hl [2, 3, 4, 5, 6] rfl)
    · skip
      refine lv_aload_n hx hb d_Law_law_848 rfl (lv_at hl 5 rfl) ?_
      refine lv_iconst (v := 0) hx hb d_Law_law_849 (by decide) ?_
      refine va_lald hx hb hK (va_P_l hP) 31 19 rfl rfl (by unfold vp_in; decide) d_Law_law_850 ?_
      refine lv_iload hx hb d_Law_law_851 (lv_at hl 0 rfl) ?_
      refine lv_i2l hx hb d_Law_law_853 rfl ?_
      refine W.lcmp hx hb d_Law_law_854 ?_
      refine lv_if_eq (tgt := 860) hx hb d_Law_law_855 (by decide) (fun c_3 => ?_) (fun c_3 => ?_)
      · skip
        refine lv_goto (tgt := 1024) hx hb d_Law_law_860 (by decide) ?_
        exact K _ _ _ hP hD hS (lv_sub hl [2, 3, 4, 5, 6] rfl)
      · skip
        exact (hc1 c_1 c_2 c_3).elim
  · skip
    exact (hc2 c_1).elim
set_option maxHeartbeats 4000000 in
set_option maxRecDepth 100000 in
theorem kc_pass_F {p : Program} {l : Launch} {e : Env} {s : State} {m : MethodId} {args : Array Value} {below : List Frame} {meth : Method} {c : Code} {H : Heap} {locs : List Loc} {cells slots : Nat} {Q : State → Prop} {A : Nat → Prop} {b N : Nat} {xs : Nat → Int32} {dC : Nat → ClassId} {dI : Nat → Nat → Nat} {a : TA} {z z1 : TS} {d : MA} {y y1 : MS} {i : Int32} {ls : Array Slot} {k : Int32} {q : Int32} {t : Int32} (C0 : LX p l s m c args A b N xs) (hK : va_K (dC, dI) CL (KF a) s) (hKM : va_K (dC, dI) CL (KM d) s) (hP : va_P (dC, dI) CL (WF a z ++ WM d y) H) (hD : va_D A (WF a z ++ WM d y)) (hS : va_S A s.heap H locs) (hl : lv_has ls 7 [(0, .ref b), (1, .ref a.tr), (2, .ref d.mo), (3, .ref a.out), (4, .int i)]) (h1 : vp_in (i + (1 : Int32)) N) (h2 : vp_in (i + (2 : Int32)) N) (h3 : vp_in (i + (3 : Int32)) N) (h4 : vp_in (i + (4 : Int32)) N) (hf : cells + 2 ≤ room_1.cells ∧ slots + 12 ≤ room_1.slots) (hT : T_pass z  = some (k, z1)) (hM : M_pass y  = some (q, y1)) (hth : M_thrown y1  = some t) (hc1 : t = k → k = 0 → ¬ (lg_cmp (z1.out (0 : Int32).toNatClampNeg) q.toInt64) = 0 → False) (hc2 : ¬ t = k → False) (K : ∀ (H1 : Heap) (locs1 : List Loc) (ls1 : Array Slot), va_P (dC, dI) CL (WF a z1 ++ WM d y1) H1 → va_D A (WF a z1 ++ WM d y1) → va_S A s.heap H1 locs1 → lv_has ls1 7 [(0, .ref b), (1, .ref a.tr), (2, .ref d.mo), (3, .ref a.out), (4, .int i)] → W p l e room_1 s m args below meth c H1 locs1 (cells + 1) (slots + 6) Q (F0 m 1024 ls1 [])) : W p l e room_1 s m args below meth c H locs cells slots Q (F0 m 863 ls []) := by
  obtain ⟨hx, hb, hml, hown, hB, hnw, hxw, hxn, hst, hA, hAn, hlt, hX, hbl⟩ := id C0
  obtain ⟨hf1, hf2⟩ := hf
  refine lv_aload_n hx hb d_Law_law_863 rfl (lv_at hl 1 rfl) ?_
  refine lv_aload_n hx hb d_Law_law_864 rfl (lv_at hl 3 rfl) ?_
  refine kT_pass_F C0 hK hP hD hS hl.1 hT d_Law_law_865 ⟨by omega, by omega⟩ (fun H locs hP hD hS => ?_)
  refine lv_istore (lv' := [(5, .int k), (0, .ref b), (1, .ref a.tr), (2, .ref d.mo), (3, .ref a.out), (4, .int i)]) hx hb d_Law_law_868 hl (by decide) rfl (fun ls hl => ?_)
  refine lv_aload_n hx hb d_Law_law_870 rfl (lv_at hl 3 rfl) ?_
  refine kM_pass C0 hKM (va_P_c hP) (va_D_c hD) hS hl.1 hM d_Law_law_871 ⟨by omega, by omega⟩ (fun H locs hP hD hS => ?_)
  have hP := va_P_c hP
  have hD := va_D_c hD
  refine lv_istore (lv' := [(6, .int q), (5, .int k), (0, .ref b), (1, .ref a.tr), (2, .ref d.mo), (3, .ref a.out), (4, .int i)]) hx hb d_Law_law_874 hl (by decide) rfl (fun ls hl => ?_)
  refine lv_aload_n hx hb d_Law_law_876 rfl (lv_at hl 4 rfl) ?_
  refine kM_thrown C0 hKM (va_P_c hP) (va_D_c hD) hS hl.1 hth d_Law_law_877 ⟨by omega, by omega⟩ ?_
  refine lv_iload hx hb d_Law_law_880 (lv_at hl 1 rfl) ?_
  refine lv_icmp_eq (tgt := 887) hx hb d_Law_law_882 (by decide) (fun c_1 => ?_) (fun c_1 => ?_)
  · skip
    refine lv_iload hx hb d_Law_law_887 (lv_at hl 1 rfl) ?_
    refine lv_if_ne (tgt := 904) hx hb d_Law_law_889 (by decide) (fun c_2 => ?_) (fun c_2 => ?_)
    · skip
      refine lv_goto (tgt := 1024) hx hb d_Law_law_904 (by decide) ?_
      exact K _ _ _ hP hD hS (lv_sub hl [2, 3, 4, 5, 6] rfl)
    · skip
      refine lv_aload_n hx hb d_Law_law_892 rfl (lv_at hl 5 rfl) ?_
      refine lv_iconst (v := 0) hx hb d_Law_law_893 (by decide) ?_
      refine va_lald hx hb hK (va_P_l hP) 31 19 rfl rfl (by unfold vp_in; decide) d_Law_law_894 ?_
      refine lv_iload hx hb d_Law_law_895 (lv_at hl 0 rfl) ?_
      refine lv_i2l hx hb d_Law_law_897 rfl ?_
      refine W.lcmp hx hb d_Law_law_898 ?_
      refine lv_if_eq (tgt := 904) hx hb d_Law_law_899 (by decide) (fun c_3 => ?_) (fun c_3 => ?_)
      · skip
        refine lv_goto (tgt := 1024) hx hb d_Law_law_904 (by decide) ?_
        exact K _ _ _ hP hD hS (lv_sub hl [2, 3, 4, 5, 6] rfl)
      · skip
        exact (hc1 c_1 c_2 c_3).elim
  · skip
    exact (hc2 c_1).elim
set_option maxHeartbeats 4000000 in
set_option maxRecDepth 100000 in
theorem kc_read_F {p : Program} {l : Launch} {e : Env} {s : State} {m : MethodId} {args : Array Value} {below : List Frame} {meth : Method} {c : Code} {H : Heap} {locs : List Loc} {cells slots : Nat} {Q : State → Prop} {A : Nat → Prop} {b N : Nat} {xs : Nat → Int32} {dC : Nat → ClassId} {dI : Nat → Nat → Nat} {a : TA} {z z1 : TS} {d : MA} {y y1 : MS} {i : Int32} {ls : Array Slot} {k : Int32} {sw : Nat} {q : Int32} (C0 : LX p l s m c args A b N xs) (hK : va_K (dC, dI) CL (KF a) s) (hKM : va_K (dC, dI) CL (KM d) s) (hP : va_P (dC, dI) CL (WF a z ++ WM d y) H) (hD : va_D A (WF a z ++ WM d y)) (hS : va_S A s.heap H locs) (hl : lv_has ls 7 [(0, .ref b), (1, .ref a.tr), (2, .ref d.mo), (3, .ref a.out), (4, .int i)]) (h1 : vp_in (i + (1 : Int32)) N) (h2 : vp_in (i + (2 : Int32)) N) (h3 : vp_in (i + (3 : Int32)) N) (h4 : vp_in (i + (4 : Int32)) N) (hf : cells + 2 ≤ room_1.cells ∧ slots + 12 ≤ room_1.slots) (hT : T_read_F z = some (k, sw, z1)) (hM : M_read y  = some (q, y1)) (hc1 : ¬ k = q → False) (K : ∀ (a1 : TA) (z2 : TS) (H1 : Heap) (locs1 : List Loc) (ls1 : Array Slot), ((a1 = a ∧ z2 = z1 ∧ sw = 0) ∨ (a1 = a.swap ∧ z2 = z1.swap ∧ sw = 1)) → va_K (dC, dI) CL (KF a1) s → va_P (dC, dI) CL (WF a1 z2 ++ WM d y1) H1 → va_D A (WF a1 z2 ++ WM d y1) → va_S A s.heap H1 locs1 → lv_has ls1 7 [(0, .ref b), (1, .ref a1.tr), (2, .ref d.mo), (3, .ref a1.out), (4, .int i)] → W p l e room_1 s m args below meth c H1 locs1 (cells + 1) (slots + 6) Q (F0 m 1024 ls1 [])) : W p l e room_1 s m args below meth c H locs cells slots Q (F0 m 907 ls []) := by
  obtain ⟨hx, hb, hml, hown, hB, hnw, hxw, hxn, hst, hA, hAn, hlt, hX, hbl⟩ := id C0
  obtain ⟨hf1, hf2⟩ := hf
  refine lv_aload_n hx hb d_Law_law_907 rfl (lv_at hl 1 rfl) ?_
  refine kT_read_F C0 hK hP hD hS hl.1 hT d_Law_law_908 ⟨by omega, by omega⟩ (fun a1 z2 H locs hrel hK hP hD hS => ?_)
  refine lv_aload_n hx hb d_Law_law_911 rfl (lv_at hl 2 rfl) ?_
  refine kM_read C0 hKM (va_P_c hP) (va_D_c hD) hS hl.1 hM d_Law_law_912 ⟨by omega, by omega⟩ (fun H locs hP hD hS => ?_)
  have hP := va_P_c hP
  have hD := va_D_c hD
  refine lv_icmp_eq (tgt := 1024) hx hb d_Law_law_915 (by decide) (fun c_1 => ?_) (fun c_1 => ?_)
  · skip
    refine W.widen (k := cells + 1) (n := slots + 6) (by omega) (by omega) ?_
    exact K _ _ _ _ _ hrel hK hP hD hS (by rcases hrel with ⟨rfl, -⟩ | ⟨rfl, -⟩ <;> exact lv_sub hl [0, 1, 2, 3, 4] rfl)
  · skip
    exact (hc1 c_1).elim
set_option maxHeartbeats 4000000 in
set_option maxRecDepth 100000 in
theorem kc_place_F {p : Program} {l : Launch} {e : Env} {s : State} {m : MethodId} {args : Array Value} {below : List Frame} {meth : Method} {c : Code} {H : Heap} {locs : List Loc} {cells slots : Nat} {Q : State → Prop} {A : Nat → Prop} {b N : Nat} {xs : Nat → Int32} {dC : Nat → ClassId} {dI : Nat → Nat → Nat} {a : TA} {z z1 : TS} {d : MA} {y y1 : MS} {i : Int32} {ls : Array Slot} {k : Int32} {q : Int32} {t : Int32} (C0 : LX p l s m c args A b N xs) (hK : va_K (dC, dI) CL (KF a) s) (hKM : va_K (dC, dI) CL (KM d) s) (hP : va_P (dC, dI) CL (WF a z ++ WM d y) H) (hD : va_D A (WF a z ++ WM d y)) (hS : va_S A s.heap H locs) (hl : lv_has ls 7 [(0, .ref b), (1, .ref a.tr), (2, .ref d.mo), (3, .ref a.out), (4, .int i)]) (h1 : vp_in (i + (1 : Int32)) N) (h2 : vp_in (i + (2 : Int32)) N) (h3 : vp_in (i + (3 : Int32)) N) (h4 : vp_in (i + (4 : Int32)) N) (hf : cells + 2 ≤ room_1.cells ∧ slots + 12 ≤ room_1.slots) (hT : T_place z (xs (i + (1 : Int32)).toNatClampNeg) (xs (i + (2 : Int32)).toNatClampNeg) = some (k, z1)) (hM : M_place y (xs (i + (1 : Int32)).toNatClampNeg) (xs (i + (2 : Int32)).toNatClampNeg) = some (q, y1)) (hth : M_thrown y1  = some t) (hc1 : t = k → k = 0 → ¬ (lg_cmp (z1.out (0 : Int32).toNatClampNeg) q.toInt64) = 0 → False) (hc2 : ¬ t = k → False) (K : ∀ (H1 : Heap) (locs1 : List Loc) (ls1 : Array Slot), va_P (dC, dI) CL (WF a z1 ++ WM d y1) H1 → va_D A (WF a z1 ++ WM d y1) → va_S A s.heap H1 locs1 → lv_has ls1 7 [(0, .ref b), (1, .ref a.tr), (2, .ref d.mo), (3, .ref a.out), (4, .int i)] → W p l e room_1 s m args below meth c H1 locs1 (cells + 1) (slots + 6) Q (F0 m 1024 ls1 [])) : W p l e room_1 s m args below meth c H locs cells slots Q (F0 m 920 ls []) := by
  obtain ⟨hx, hb, hml, hown, hB, hnw, hxw, hxn, hst, hA, hAn, hlt, hX, hbl⟩ := id C0
  obtain ⟨hf1, hf2⟩ := hf
  refine lv_aload_n hx hb d_Law_law_920 rfl (lv_at hl 1 rfl) ?_
  refine lv_aload_n hx hb d_Law_law_921 rfl (lv_at hl 0 rfl) ?_
  refine lv_iload hx hb d_Law_law_922 (lv_at hl 4 rfl) ?_
  refine lv_iconst (v := 1) hx hb d_Law_law_924 (by decide) ?_
  refine lv_iadd hx hb d_Law_law_925 ?_
  refine va_sld hx hb hX hbl (hAn _ hbl) hS h1 d_Law_law_926 ?_
  refine lv_aload_n hx hb d_Law_law_927 rfl (lv_at hl 0 rfl) ?_
  refine lv_iload hx hb d_Law_law_928 (lv_at hl 4 rfl) ?_
  refine lv_iconst (v := 2) hx hb d_Law_law_930 (by decide) ?_
  refine lv_iadd hx hb d_Law_law_931 ?_
  refine va_sld hx hb hX hbl (hAn _ hbl) hS h2 d_Law_law_932 ?_
  refine lv_aload_n hx hb d_Law_law_933 rfl (lv_at hl 3 rfl) ?_
  refine kT_place_F C0 hK hP hD hS hl.1 hT d_Law_law_934 ⟨by omega, by omega⟩ (fun H locs hP hD hS => ?_)
  refine lv_istore (lv' := [(5, .int k), (0, .ref b), (1, .ref a.tr), (2, .ref d.mo), (3, .ref a.out), (4, .int i)]) hx hb d_Law_law_937 hl (by decide) rfl (fun ls hl => ?_)
  refine lv_aload_n hx hb d_Law_law_939 rfl (lv_at hl 3 rfl) ?_
  refine lv_aload_n hx hb d_Law_law_940 rfl (lv_at hl 1 rfl) ?_
  refine lv_iload hx hb d_Law_law_941 (lv_at hl 5 rfl) ?_
  refine lv_iconst (v := 1) hx hb d_Law_law_943 (by decide) ?_
  refine lv_iadd hx hb d_Law_law_944 ?_
  refine va_sld hx hb hX hbl (hAn _ hbl) hS h1 d_Law_law_945 ?_
  refine lv_aload_n hx hb d_Law_law_946 rfl (lv_at hl 1 rfl) ?_
  refine lv_iload hx hb d_Law_law_947 (lv_at hl 5 rfl) ?_
  refine lv_iconst (v := 2) hx hb d_Law_law_949 (by decide) ?_
  refine lv_iadd hx hb d_Law_law_950 ?_
  refine va_sld hx hb hX hbl (hAn _ hbl) hS h2 d_Law_law_951 ?_
  refine kM_place C0 hKM (va_P_c hP) (va_D_c hD) hS hl.1 hM d_Law_law_952 ⟨by omega, by omega⟩ (fun H locs hP hD hS => ?_)
  have hP := va_P_c hP
  have hD := va_D_c hD
  refine lv_istore (lv' := [(6, .int q), (5, .int k), (0, .ref b), (1, .ref a.tr), (2, .ref d.mo), (3, .ref a.out), (4, .int i)]) hx hb d_Law_law_955 hl (by decide) rfl (fun ls hl => ?_)
  refine lv_aload_n hx hb d_Law_law_957 rfl (lv_at hl 4 rfl) ?_
  refine kM_thrown C0 hKM (va_P_c hP) (va_D_c hD) hS hl.1 hth d_Law_law_958 ⟨by omega, by omega⟩ ?_
  refine lv_iload hx hb d_Law_law_961 (lv_at hl 1 rfl) ?_
  refine lv_icmp_eq (tgt := 968) hx hb d_Law_law_963 (by decide) (fun c_1 => ?_) (fun c_1 => ?_)
  · skip
    refine lv_iload hx hb d_Law_law_968 (lv_at hl 1 rfl) ?_
    refine lv_if_ne (tgt := 985) hx hb d_Law_law_970 (by decide) (fun c_2 => ?_) (fun c_2 => ?_)
    · skip
      refine lv_goto (tgt := 1024) hx hb d_Law_law_985 (by decide) ?_
      exact K _ _ _ hP hD hS (lv_sub hl [2, 3, 4, 5, 6] rfl)
    · skip
      refine lv_aload_n hx hb d_Law_law_973 rfl (lv_at hl 5 rfl) ?_
      refine lv_iconst (v := 0) hx hb d_Law_law_974 (by decide) ?_
      refine va_lald hx hb hK (va_P_l hP) 31 19 rfl rfl (by unfold vp_in; decide) d_Law_law_975 ?_
      refine lv_iload hx hb d_Law_law_976 (lv_at hl 0 rfl) ?_
      refine lv_i2l hx hb d_Law_law_978 rfl ?_
      refine W.lcmp hx hb d_Law_law_979 ?_
      refine lv_if_eq (tgt := 985) hx hb d_Law_law_980 (by decide) (fun c_3 => ?_) (fun c_3 => ?_)
      · skip
        refine lv_goto (tgt := 1024) hx hb d_Law_law_985 (by decide) ?_
        exact K _ _ _ hP hD hS (lv_sub hl [2, 3, 4, 5, 6] rfl)
      · skip
        exact (hc1 c_1 c_2 c_3).elim
  · skip
    exact (hc2 c_1).elim
set_option maxHeartbeats 4000000 in
set_option maxRecDepth 100000 in
theorem kc_told_F {p : Program} {l : Launch} {e : Env} {s : State} {m : MethodId} {args : Array Value} {below : List Frame} {meth : Method} {c : Code} {H : Heap} {locs : List Loc} {cells slots : Nat} {Q : State → Prop} {A : Nat → Prop} {b N : Nat} {xs : Nat → Int32} {dC : Nat → ClassId} {dI : Nat → Nat → Nat} {a : TA} {z z1 : TS} {d : MA} {y y1 : MS} {i : Int32} {ls : Array Slot} {k : Int32} {q : Int32} (C0 : LX p l s m c args A b N xs) (hK : va_K (dC, dI) CL (KF a) s) (hKM : va_K (dC, dI) CL (KM d) s) (hP : va_P (dC, dI) CL (WF a z ++ WM d y) H) (hD : va_D A (WF a z ++ WM d y)) (hS : va_S A s.heap H locs) (hl : lv_has ls 7 [(0, .ref b), (1, .ref a.tr), (2, .ref d.mo), (3, .ref a.out), (4, .int i)]) (h1 : vp_in (i + (1 : Int32)) N) (h2 : vp_in (i + (2 : Int32)) N) (h3 : vp_in (i + (3 : Int32)) N) (h4 : vp_in (i + (4 : Int32)) N) (hf : cells + 2 ≤ room_1.cells ∧ slots + 12 ≤ room_1.slots) (hT : T_told z (xs (i + (1 : Int32)).toNatClampNeg) = some k) (hM : M_told y (xs (i + (1 : Int32)).toNatClampNeg) = some (q, y1)) (hc1 : ¬ k = q → False) (K : ∀ (H1 : Heap) (locs1 : List Loc) (ls1 : Array Slot), va_P (dC, dI) CL (WF a z ++ WM d y1) H1 → va_D A (WF a z ++ WM d y1) → va_S A s.heap H1 locs1 → lv_has ls1 7 [(0, .ref b), (1, .ref a.tr), (2, .ref d.mo), (3, .ref a.out), (4, .int i)] → W p l e room_1 s m args below meth c H1 locs1 (cells + 1) (slots + 6) Q (F0 m 1024 ls1 [])) : W p l e room_1 s m args below meth c H locs cells slots Q (F0 m 988 ls []) := by
  obtain ⟨hx, hb, hml, hown, hB, hnw, hxw, hxn, hst, hA, hAn, hlt, hX, hbl⟩ := id C0
  obtain ⟨hf1, hf2⟩ := hf
  refine lv_aload_n hx hb d_Law_law_988 rfl (lv_at hl 1 rfl) ?_
  refine lv_aload_n hx hb d_Law_law_989 rfl (lv_at hl 0 rfl) ?_
  refine lv_iload hx hb d_Law_law_990 (lv_at hl 4 rfl) ?_
  refine lv_iconst (v := 1) hx hb d_Law_law_992 (by decide) ?_
  refine lv_iadd hx hb d_Law_law_993 ?_
  refine va_sld hx hb hX hbl (hAn _ hbl) hS h1 d_Law_law_994 ?_
  refine kT_told_F C0 hK hP hD hS hl.1 hT d_Law_law_995 ⟨by omega, by omega⟩ ?_
  refine lv_aload_n hx hb d_Law_law_998 rfl (lv_at hl 2 rfl) ?_
  refine lv_aload_n hx hb d_Law_law_999 rfl (lv_at hl 0 rfl) ?_
  refine lv_iload hx hb d_Law_law_1000 (lv_at hl 4 rfl) ?_
  refine lv_iconst (v := 1) hx hb d_Law_law_1002 (by decide) ?_
  refine lv_iadd hx hb d_Law_law_1003 ?_
  refine va_sld hx hb hX hbl (hAn _ hbl) hS h1 d_Law_law_1004 ?_
  refine kM_told C0 hKM (va_P_c hP) (va_D_c hD) hS hl.1 hM d_Law_law_1005 ⟨by omega, by omega⟩ (fun H locs hP hD hS => ?_)
  have hP := va_P_c hP
  have hD := va_D_c hD
  refine lv_icmp_eq (tgt := 1024) hx hb d_Law_law_1008 (by decide) (fun c_1 => ?_) (fun c_1 => ?_)
  · skip
    refine W.widen (k := cells + 1) (n := slots + 6) (by omega) (by omega) ?_
    exact K _ _ _ hP hD hS (lv_sub hl [0, 1, 2, 3, 4] rfl)
  · skip
    exact (hc1 c_1).elim
set_option maxHeartbeats 4000000 in
set_option maxRecDepth 100000 in
theorem kc_clear_F {p : Program} {l : Launch} {e : Env} {s : State} {m : MethodId} {args : Array Value} {below : List Frame} {meth : Method} {c : Code} {H : Heap} {locs : List Loc} {cells slots : Nat} {Q : State → Prop} {A : Nat → Prop} {b N : Nat} {xs : Nat → Int32} {dC : Nat → ClassId} {dI : Nat → Nat → Nat} {a : TA} {z z1 : TS} {d : MA} {y y1 : MS} {i : Int32} {ls : Array Slot}  (C0 : LX p l s m c args A b N xs) (hK : va_K (dC, dI) CL (KF a) s) (hKM : va_K (dC, dI) CL (KM d) s) (hP : va_P (dC, dI) CL (WF a z ++ WM d y) H) (hD : va_D A (WF a z ++ WM d y)) (hS : va_S A s.heap H locs) (hl : lv_has ls 7 [(0, .ref b), (1, .ref a.tr), (2, .ref d.mo), (3, .ref a.out), (4, .int i)]) (h1 : vp_in (i + (1 : Int32)) N) (h2 : vp_in (i + (2 : Int32)) N) (h3 : vp_in (i + (3 : Int32)) N) (h4 : vp_in (i + (4 : Int32)) N) (hf : cells + 2 ≤ room_1.cells ∧ slots + 12 ≤ room_1.slots) (hT : T_clear z  = some z1) (hM : M_clear y  = some y1) (K : ∀ (H1 : Heap) (locs1 : List Loc) (ls1 : Array Slot), va_P (dC, dI) CL (WF a z1 ++ WM d y1) H1 → va_D A (WF a z1 ++ WM d y1) → va_S A s.heap H1 locs1 → lv_has ls1 7 [(0, .ref b), (1, .ref a.tr), (2, .ref d.mo), (3, .ref a.out), (4, .int i)] → W p l e room_1 s m args below meth c H1 locs1 (cells + 1) (slots + 6) Q (F0 m 1024 ls1 [])) : W p l e room_1 s m args below meth c H locs cells slots Q (F0 m 1013 ls []) := by
  obtain ⟨hx, hb, hml, hown, hB, hnw, hxw, hxn, hst, hA, hAn, hlt, hX, hbl⟩ := id C0
  obtain ⟨hf1, hf2⟩ := hf
  refine lv_aload_n hx hb d_Law_law_1013 rfl (lv_at hl 1 rfl) ?_
  refine kT_clear_F C0 hK hP hD hS hl.1 hT d_Law_law_1014 ⟨by omega, by omega⟩ (fun H locs hP hD hS => ?_)
  refine lv_aload_n hx hb d_Law_law_1017 rfl (lv_at hl 2 rfl) ?_
  refine kM_clear C0 hKM (va_P_c hP) (va_D_c hD) hS hl.1 hM d_Law_law_1018 ⟨by omega, by omega⟩ (fun H locs hP hD hS => ?_)
  have hP := va_P_c hP
  have hD := va_D_c hD
  refine lv_goto (tgt := 1024) hx hb d_Law_law_1021 (by decide) ?_
  refine W.widen (k := cells + 1) (n := slots + 6) (by omega) (by omega) ?_
  exact K _ _ _ hP hD hS (lv_sub hl [0, 1, 2, 3, 4] rfl)
