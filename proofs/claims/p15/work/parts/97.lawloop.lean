theorem lw_room {a b : Nat} (h1 : a + 2 ≤ 601024) (h2 : b + 12 ≤ 7293000) : a + 2 ≤ room_1.cells ∧ b + 12 ≤ room_1.slots := ⟨h1, h2⟩
theorem lw_ofNat {N : Nat} (hN : N ≤ 2563) : (Int32.ofNat N).toInt = (N : Int) := Int32.toInt_ofNat_of_lt (by omega)
theorem lw_le {N : Nat} {i : Int32} (hN : N ≤ 2563) (h : ¬ Int32.ofNat N - 5 < i) : i.toInt + 5 ≤ (N : Int) := by
  have h1 := Int32.le_iff_toInt_le.mp (Int32.not_lt.mp h)
  rw [Int32.toInt_sub, lw_ofNat hN] at h1
  have h2 : (5 : Int32).toInt = 5 := rfl
  rw [h2] at h1
  have h3 : ((N : Int) - 5).bmod (2 ^ 32) = (N : Int) - 5 := by
    apply Int.bmod_eq_of_le <;> omega
  rw [h3] at h1
  omega
theorem lw_vp {i : Int32} {N : Nat} (h0 : 0 ≤ i.toInt) (h1 : i.toInt < (N : Int)) : vp_in i N := by
  rintro (h | h)
  · have := Int32.lt_iff_toInt_lt.mp h
    have h2 : (0 : Int32).toInt = 0 := rfl
    omega
  · have : (i.toNatClampNeg : Int) = i.toInt := by
      show ((i.toInt.toNat : Nat) : Int) = i.toInt
      omega
    omega
theorem lw_in0 {i : Int32} {N : Nat} (h0 : 0 ≤ i.toInt) (h5 : i.toInt + 5 ≤ (N : Int)) (hN : N ≤ 2563) : vp_in i N := lw_vp h0 (by omega)
theorem lw_toAdd {i k : Int32} {N : Nat} (h0 : 0 ≤ i.toInt) (h5 : i.toInt + 5 ≤ (N : Int)) (hN : N ≤ 2563) (k0 : 0 ≤ k.toInt) (k1 : k.toInt ≤ 5) : (i + k).toInt = i.toInt + k.toInt := by
  rw [Int32.toInt_add]
  apply Int.bmod_eq_of_le <;> omega
theorem lw_in {i k : Int32} {N : Nat} (h0 : 0 ≤ i.toInt) (h5 : i.toInt + 5 ≤ (N : Int)) (hN : N ≤ 2563) (k0 : 0 ≤ k.toInt) (k1 : k.toInt < 5) : vp_in (i + k) N := by
  have := lw_toAdd h0 h5 hN k0 (Int.le_of_lt k1)
  exact lw_vp (by omega) (by omega)
theorem lw_add {i j : Int32} {N : Nat} (h0 : 0 ≤ i.toInt) (h5 : i.toInt + 5 ≤ (N : Int)) (hN : N ≤ 2563) (e : j = i + (5 : Int32)) : j.toInt = i.toInt + 5 := by
  subst e
  exact lw_toAdd (k := 5) h0 h5 hN (by decide) (by decide)

def StepsC (I : TS → MS → Prop) : Prop := (∀ (z : TS) (y : MS) (p1 p2 p3 p4 : Int32), I z y → ∃ (z1 : TS) (y1 : MS) (k : Int32) (q : Int32), T_symbol z p1 p2 = some (k, z1) ∧ M_symbol y p1 p2 = some (q, y1) ∧ I z1 y1) ∧ (∀ (z : TS) (y : MS) (p1 p2 p3 p4 : Int32), I z y → ∃ (z1 : TS) (y1 : MS) (k : Int32) (q : Int32), T_put z p1 p2 p3 (if p4 = 0 then (0 : Int32) else 1) = some (k, z1) ∧ M_put y p1 p2 p3 (if p4 = 0 then (0 : Int32) else 1) = some (q, y1) ∧ I z1 y1) ∧ (∀ (z : TS) (y : MS) (p1 p2 p3 p4 : Int32), I z y → ∃ (z1 : TS) (y1 : MS) (k : Int32) (q : Int32), T_instance z p1 p2 p3 = some (k, z1) ∧ M_instance y p1 p2 p3 = some (q, y1) ∧ I z1 y1) ∧ (∀ (z : TS) (y : MS) (p1 p2 p3 p4 : Int32), I z y → ∃ (z1 : TS) (y1 : MS) (k : Int32) (q : Int32), T_refine z p1 p2 p3 (if p4 = 0 then (0 : Int32) else 1) = some (k, z1) ∧ M_refine y p1 p2 p3 (if p4 = 0 then (0 : Int32) else 1) = some (q, y1) ∧ I z1 y1) ∧ (∀ (z : TS) (y : MS) (p1 p2 p3 p4 : Int32), I z y → ∃ (z1 : TS) (y1 : MS) (k : Int32) (q : Int32), T_way z p1 p2 = some (k, z1) ∧ M_way y p1 p2 = some (q, y1) ∧ I z1 y1) ∧ (∀ (z : TS) (y : MS) (p1 p2 p3 p4 : Int32), I z y → ∃ (z1 : TS) (y1 : MS) (k : Int32) (q : Int32), T_order_C z p1 = some (k, z1) ∧ M_order y p1 = some (q, y1) ∧ I z1 y1) ∧ (∀ (z : TS) (y : MS) (p1 p2 p3 p4 : Int32), I z y → ∃ (z1 : TS) (y1 : MS) (k : Int32) (q : Int32), T_compose z  = some (k, z1) ∧ M_compose y  = some (q, y1) ∧ I z1 y1) ∧ (∀ (z : TS) (y : MS) (p1 p2 p3 p4 : Int32), I z y → ∃ (z1 : TS) (y1 : MS) (k : Int32) (q : Int32), T_at z p1 p2 = some (k, z1) ∧ M_at y p1 p2 = some (q, y1) ∧ I z1 y1) ∧ (∀ (z : TS) (y : MS) (p1 p2 p3 p4 : Int32), I z y → ∃ (z1 : TS) (y1 : MS) (k : Int32) (q : Int32), T_write_C z  = some (k, z1) ∧ M_write y  = some (q, y1) ∧ I z1 y1) ∧ (∀ (z : TS) (y : MS) (p1 p2 p3 p4 : Int32), I z y → ∃ (z1 : TS) (y1 : MS) (k : Int32) (q : Int32), T_byteAt z p1 = some (k, z1) ∧ M_byteAt y p1 = some (q, y1) ∧ I z1 y1) ∧ (∀ (z : TS) (y : MS) (p1 p2 p3 p4 : Int32), I z y → ∃ (z1 : TS) (y1 : MS) (k : Int32) (q : Int32), T_feed z p1 = some (k, z1) ∧ M_feed y p1 = some (q, y1) ∧ I z1 y1) ∧ (∀ (z : TS) (y : MS) (p1 p2 p3 p4 : Int32), I z y → ∃ (z1 : TS) (y1 : MS) (k : Int32) (q : Int32), T_pass z  = some (k, z1) ∧ M_pass y  = some (q, y1) ∧ I z1 y1) ∧ (∀ (z : TS) (y : MS) (p1 p2 p3 p4 : Int32), I z y → ∃ (z1 : TS) (y1 : MS) (k : Int32) (sw : Nat) (q : Int32), T_read_C z = some (k, sw, z1) ∧ M_read y  = some (q, y1) ∧ I (if sw = 0 then z1 else z1.swap) y1) ∧ (∀ (z : TS) (y : MS) (p1 p2 p3 p4 : Int32), I z y → ∃ (z1 : TS) (y1 : MS) (k : Int32) (q : Int32) (t : Int32), T_place z p1 p2 = some (k, z1) ∧ M_place y p1 p2 = some (q, y1) ∧ M_thrown y1  = some t ∧ (t = k → k = 0 → ¬ (lg_cmp (z1.out (0 : Int32).toNatClampNeg) q.toInt64) = 0 → False) ∧ (¬ t = k → False) ∧ I z1 y1) ∧ (∀ (z : TS) (y : MS) (p1 p2 p3 p4 : Int32), I z y → ∃ (y1 : MS) (k : Int32) (q : Int32), T_told z p1 = some k ∧ M_told y p1 = some (q, y1) ∧ I z y1) ∧ (∀ (z : TS) (y : MS) (p1 p2 p3 p4 : Int32), I z y → ∃ (z1 : TS) (y1 : MS) , T_clear z  = some z1 ∧ M_clear y  = some y1 ∧ I z1 y1)
def StepsF (I : TS → MS → Prop) : Prop := (∀ (z : TS) (y : MS) (p1 p2 p3 p4 : Int32), I z y → ∃ (z1 : TS) (y1 : MS) (k : Int32) (q : Int32), T_symbol z p1 p2 = some (k, z1) ∧ M_symbol y p1 p2 = some (q, y1) ∧ I z1 y1) ∧ (∀ (z : TS) (y : MS) (p1 p2 p3 p4 : Int32), I z y → ∃ (z1 : TS) (y1 : MS) (k : Int32) (q : Int32), T_put z p1 p2 p3 (if p4 = 0 then (0 : Int32) else 1) = some (k, z1) ∧ M_put y p1 p2 p3 (if p4 = 0 then (0 : Int32) else 1) = some (q, y1) ∧ I z1 y1) ∧ (∀ (z : TS) (y : MS) (p1 p2 p3 p4 : Int32), I z y → ∃ (z1 : TS) (y1 : MS) (k : Int32) (q : Int32), T_instance z p1 p2 p3 = some (k, z1) ∧ M_instance y p1 p2 p3 = some (q, y1) ∧ I z1 y1) ∧ (∀ (z : TS) (y : MS) (p1 p2 p3 p4 : Int32), I z y → ∃ (z1 : TS) (y1 : MS) (k : Int32) (q : Int32), T_refine z p1 p2 p3 (if p4 = 0 then (0 : Int32) else 1) = some (k, z1) ∧ M_refine y p1 p2 p3 (if p4 = 0 then (0 : Int32) else 1) = some (q, y1) ∧ I z1 y1) ∧ (∀ (z : TS) (y : MS) (p1 p2 p3 p4 : Int32), I z y → ∃ (z1 : TS) (y1 : MS) (k : Int32) (q : Int32), T_way z p1 p2 = some (k, z1) ∧ M_way y p1 p2 = some (q, y1) ∧ I z1 y1) ∧ (∀ (z : TS) (y : MS) (p1 p2 p3 p4 : Int32), I z y → ∃ (z1 : TS) (y1 : MS) (k : Int32) (q : Int32), T_order_F z p1 = some (k, z1) ∧ M_order y p1 = some (q, y1) ∧ I z1 y1) ∧ (∀ (z : TS) (y : MS) (p1 p2 p3 p4 : Int32), I z y → ∃ (z1 : TS) (y1 : MS) (k : Int32) (q : Int32), T_compose z  = some (k, z1) ∧ M_compose y  = some (q, y1) ∧ I z1 y1) ∧ (∀ (z : TS) (y : MS) (p1 p2 p3 p4 : Int32), I z y → ∃ (z1 : TS) (y1 : MS) (k : Int32) (q : Int32), T_at z p1 p2 = some (k, z1) ∧ M_at y p1 p2 = some (q, y1) ∧ I z1 y1) ∧ (∀ (z : TS) (y : MS) (p1 p2 p3 p4 : Int32), I z y → ∃ (z1 : TS) (y1 : MS) (k : Int32) (q : Int32), T_write_F z  = some (k, z1) ∧ M_write y  = some (q, y1) ∧ I z1 y1) ∧ (∀ (z : TS) (y : MS) (p1 p2 p3 p4 : Int32), I z y → ∃ (z1 : TS) (y1 : MS) (k : Int32) (q : Int32), T_byteAt z p1 = some (k, z1) ∧ M_byteAt y p1 = some (q, y1) ∧ I z1 y1) ∧ (∀ (z : TS) (y : MS) (p1 p2 p3 p4 : Int32), I z y → ∃ (z1 : TS) (y1 : MS) (k : Int32) (q : Int32), T_feed z p1 = some (k, z1) ∧ M_feed y p1 = some (q, y1) ∧ I z1 y1) ∧ (∀ (z : TS) (y : MS) (p1 p2 p3 p4 : Int32), I z y → ∃ (z1 : TS) (y1 : MS) (k : Int32) (q : Int32), T_pass z  = some (k, z1) ∧ M_pass y  = some (q, y1) ∧ I z1 y1) ∧ (∀ (z : TS) (y : MS) (p1 p2 p3 p4 : Int32), I z y → ∃ (z1 : TS) (y1 : MS) (k : Int32) (sw : Nat) (q : Int32), T_read_F z = some (k, sw, z1) ∧ M_read y  = some (q, y1) ∧ I (if sw = 0 then z1 else z1.swap) y1) ∧ (∀ (z : TS) (y : MS) (p1 p2 p3 p4 : Int32), I z y → ∃ (z1 : TS) (y1 : MS) (k : Int32) (q : Int32) (t : Int32), T_place z p1 p2 = some (k, z1) ∧ M_place y p1 p2 = some (q, y1) ∧ M_thrown y1  = some t ∧ (t = k → k = 0 → ¬ (lg_cmp (z1.out (0 : Int32).toNatClampNeg) q.toInt64) = 0 → False) ∧ (¬ t = k → False) ∧ I z1 y1) ∧ (∀ (z : TS) (y : MS) (p1 p2 p3 p4 : Int32), I z y → ∃ (y1 : MS) (k : Int32) (q : Int32), T_told z p1 = some k ∧ M_told y p1 = some (q, y1) ∧ I z y1) ∧ (∀ (z : TS) (y : MS) (p1 p2 p3 p4 : Int32), I z y → ∃ (z1 : TS) (y1 : MS) , T_clear z  = some z1 ∧ M_clear y  = some y1 ∧ I z1 y1)
set_option maxHeartbeats 4000000 in
set_option maxRecDepth 100000 in
theorem law_loop_C {p : Program} {l : Launch} {e : Env} {s : State} {m : MethodId} {below : List Frame} {meth : Method} {c : Code} {b N : Nat} {xs : Nat → Int32} {dC : Nat → ClassId} {dI : Nat → Nat → Nat} {d : MA} (I : TS → MS → Prop) (hI : StepsC I) (hN : N ≤ 2563) (hr : meth.sig.returnType = ret) (hlocks : meth.locks = false) (C0 : LX p l s m c #[Value.ref b] (fun q : Nat => s.heap.size ≤ q) b N xs) (hKM : va_K (dC, dI) CL (KM d) s) :
    ∀ (n : Nat) (i : Int32) (a : TA) (z : TS) (y : MS) (H : Heap) (locs : List Loc) (ls : Array Slot) (cells slots : Nat), I z y → 0 ≤ i.toInt → (N : Int) < i.toInt + 5 * ((n : Int) + 1) → i.toInt ≤ 100000 → cells + n + 2 ≤ 601024 → slots + 6 * n + 12 ≤ 7293000 → va_K (dC, dI) CL (KC a) s → va_P (dC, dI) CL (WC a z ++ WM d y) H → va_D (fun q : Nat => s.heap.size ≤ q) (WC a z ++ WM d y) → va_S (fun q : Nat => s.heap.size ≤ q) s.heap H locs → lv_has ls 7 [(0, .ref b), (1, .ref a.tr), (2, .ref d.mo), (3, .ref a.out), (4, .int i)] → W p l e room_1 s m #[Value.ref b] below meth c H locs cells slots (lw_Z below #[Value.ref b] s) (F0 m 53 ls []) := by
  obtain ⟨hx, hb, hml, hown, hB, hnw, hxw, hxn, hst, hA, hAn, hlt, hX, hbl⟩ := id C0
  obtain ⟨s_symbol, s_put, s_instance, s_refine, s_way, s_order, s_compose, s_at, s_write, s_byteAt, s_feed, s_pass, s_read, s_place, s_told, s_clear⟩ := hI
  intro n
  induction n with
  | zero =>
    intro i a z y H locs ls cells slots hIz h0 hn hi hc hs hK hP hD hS hl
    refine lv_iload hx hb d_Law_law_53 (lv_at hl 4 rfl) ?_
    refine lv_aload_n hx hb d_Law_law_55 rfl (lv_at hl 0 rfl) ?_
    refine va_slen hx hb hX hbl (hAn _ hbl) hS d_Law_law_56 ?_
    refine lv_iconst (v := 5) hx hb d_Law_law_57 (by decide) ?_
    refine lv_isub hx hb d_Law_law_58 ?_
    refine lv_icmp_gt (tgt := 729) hx hb d_Law_law_59 (by decide) (fun c_1 => ?_) (fun c_1 => ?_)
    · refine lv_iconst (v := 1) hx hb d_Law_law_729 (by decide) ?_
      refine va_forget (fun q hq => hS.2.2 q hq) ?_
      refine W.widen (k := 601024) (n := 7293000) (by omega) (by omega) ?_
      exact lw_ret hx hb hr hlocks d_Law_law_730
    · have h5 := lw_le hN c_1
      omega
  | succ n ih =>
    intro i a z y H locs ls cells slots hIz h0 hn hi hc hs hK hP hD hS hl
    refine lv_iload hx hb d_Law_law_53 (lv_at hl 4 rfl) ?_
    refine lv_aload_n hx hb d_Law_law_55 rfl (lv_at hl 0 rfl) ?_
    refine va_slen hx hb hX hbl (hAn _ hbl) hS d_Law_law_56 ?_
    refine lv_iconst (v := 5) hx hb d_Law_law_57 (by decide) ?_
    refine lv_isub hx hb d_Law_law_58 ?_
    refine lv_icmp_gt (tgt := 729) hx hb d_Law_law_59 (by decide) (fun c_1 => ?_) (fun c_1 => ?_)
    · refine lv_iconst (v := 1) hx hb d_Law_law_729 (by decide) ?_
      refine va_forget (fun q hq => hS.2.2 q hq) ?_
      refine W.widen (k := 601024) (n := 7293000) (by omega) (by omega) ?_
      exact lw_ret hx hb hr hlocks d_Law_law_730
    have h5 := lw_le hN c_1
    clear c_1
    have q0 : vp_in i N := lw_in0 h0 h5 hN
    have q1 := lw_in (k := 1) h0 h5 hN (by decide) (by decide)
    have q2 := lw_in (k := 2) h0 h5 hN (by decide) (by decide)
    have q3 := lw_in (k := 3) h0 h5 hN (by decide) (by decide)
    have q4 := lw_in (k := 4) h0 h5 hN (by decide) (by decide)
    have K : ∀ (a : TA) (z : TS) (y : MS) (H : Heap) (locs : List Loc) (ls : Array Slot), I z y → va_K (dC, dI) CL (KC a) s → va_P (dC, dI) CL (WC a z ++ WM d y) H → va_D (fun q : Nat => s.heap.size ≤ q) (WC a z ++ WM d y) → va_S (fun q : Nat => s.heap.size ≤ q) s.heap H locs → lv_has ls 7 [(0, .ref b), (1, .ref a.tr), (2, .ref d.mo), (3, .ref a.out), (4, .int i)] → W p l e room_1 s m #[Value.ref b] below meth c H locs (cells + 1) (slots + 6) (lw_Z below #[Value.ref b] s) (F0 m 723 ls []) := by
      intro a z y H locs ls hIz hK hP hD hS hl
      obtain ⟨i5, e5⟩ : ∃ y9 : Int32, y9 = i + (5 : Int32) := ⟨_, rfl⟩
      have h55 := lw_add h0 h5 hN e5
      refine lv_iinc (v := i5) (lv' := [(4, .int i5), (0, .ref b), (1, .ref a.tr), (2, .ref d.mo), (3, .ref a.out)]) hx hb d_Law_law_723 hl (k := 4) rfl (by rw [e5]; rfl) (by decide) rfl (fun ls hl => ?_)
      refine lv_goto (tgt := 53) hx hb d_Law_law_726 (by decide) ?_
      exact ih i5 a z y H locs ls (cells + 1) (slots + 6) hIz (by omega) (by omega) (by omega) (by omega) (by omega) hK hP hD hS (lv_sub hl [1, 2, 3, 4, 0] rfl)
    refine lv_aload_n hx hb d_Law_law_62 rfl (lv_at hl 0 rfl) ?_
    refine lv_iload hx hb d_Law_law_63 (lv_at hl 4 rfl) ?_
    refine va_sld hx hb hX hbl (hAn _ hbl) hS q0 d_Law_law_65 ?_
    refine lv_bipush (v := 15) hx hb d_Law_law_66 (by decide) ?_
    refine lv_iand hx hb d_Law_law_68 ?_
    generalize hop : (xs i.toNatClampNeg &&& 15) = op
    by_cases g_0 : op = (0 : Int32)
    · refine lv_tableIn (tgt := 148) (off := 79) hx hb d_Law_law_69 (by rw [g_0]; decide) (by rw [g_0]; decide) (by rw [g_0]; rfl) (by decide) ?_
      obtain ⟨z1, y1, k, q, hT, hM, hI1⟩ := s_symbol z y (xs (i + (1 : Int32)).toNatClampNeg) (xs (i + (2 : Int32)).toNatClampNeg) (xs (i + (3 : Int32)).toNatClampNeg) (xs (i + (4 : Int32)).toNatClampNeg) hIz
      exact kc_symbol_C C0 hK hKM hP hD hS hl q1 q2 q3 q4 (lw_room (by omega) (by omega)) hT hM (fun H1 locs1 ls1 hP hD hS hl => K a _ _ H1 locs1 ls1 hI1 hK hP hD hS hl)
    by_cases g_1 : op = (1 : Int32)
    · refine lv_tableIn (tgt := 188) (off := 119) hx hb d_Law_law_69 (by rw [g_1]; decide) (by rw [g_1]; decide) (by rw [g_1]; rfl) (by decide) ?_
      obtain ⟨z1, y1, k, q, hT, hM, hI1⟩ := s_put z y (xs (i + (1 : Int32)).toNatClampNeg) (xs (i + (2 : Int32)).toNatClampNeg) (xs (i + (3 : Int32)).toNatClampNeg) (xs (i + (4 : Int32)).toNatClampNeg) hIz
      exact kc_put_C C0 hK hKM hP hD hS hl q1 q2 q3 q4 (lw_room (by omega) (by omega)) hT hM (fun H1 locs1 ls1 hP hD hS hl => K a _ _ H1 locs1 ls1 hI1 hK hP hD hS hl)
    by_cases g_2 : op = (2 : Int32)
    · refine lv_tableIn (tgt := 268) (off := 199) hx hb d_Law_law_69 (by rw [g_2]; decide) (by rw [g_2]; decide) (by rw [g_2]; rfl) (by decide) ?_
      obtain ⟨z1, y1, k, q, hT, hM, hI1⟩ := s_instance z y (xs (i + (1 : Int32)).toNatClampNeg) (xs (i + (2 : Int32)).toNatClampNeg) (xs (i + (3 : Int32)).toNatClampNeg) (xs (i + (4 : Int32)).toNatClampNeg) hIz
      exact kc_instance_C C0 hK hKM hP hD hS hl q1 q2 q3 q4 (lw_room (by omega) (by omega)) hT hM (fun H1 locs1 ls1 hP hD hS hl => K a _ _ H1 locs1 ls1 hI1 hK hP hD hS hl)
    by_cases g_3 : op = (3 : Int32)
    · refine lv_tableIn (tgt := 320) (off := 251) hx hb d_Law_law_69 (by rw [g_3]; decide) (by rw [g_3]; decide) (by rw [g_3]; rfl) (by decide) ?_
      obtain ⟨z1, y1, k, q, hT, hM, hI1⟩ := s_refine z y (xs (i + (1 : Int32)).toNatClampNeg) (xs (i + (2 : Int32)).toNatClampNeg) (xs (i + (3 : Int32)).toNatClampNeg) (xs (i + (4 : Int32)).toNatClampNeg) hIz
      exact kc_refine_C C0 hK hKM hP hD hS hl q1 q2 q3 q4 (lw_room (by omega) (by omega)) hT hM (fun H1 locs1 ls1 hP hD hS hl => K a _ _ H1 locs1 ls1 hI1 hK hP hD hS hl)
    by_cases g_4 : op = (4 : Int32)
    · refine lv_tableIn (tgt := 400) (off := 331) hx hb d_Law_law_69 (by rw [g_4]; decide) (by rw [g_4]; decide) (by rw [g_4]; rfl) (by decide) ?_
      obtain ⟨z1, y1, k, q, hT, hM, hI1⟩ := s_way z y (xs (i + (1 : Int32)).toNatClampNeg) (xs (i + (2 : Int32)).toNatClampNeg) (xs (i + (3 : Int32)).toNatClampNeg) (xs (i + (4 : Int32)).toNatClampNeg) hIz
      exact kc_way_C C0 hK hKM hP hD hS hl q1 q2 q3 q4 (lw_room (by omega) (by omega)) hT hM (fun H1 locs1 ls1 hP hD hS hl => K a _ _ H1 locs1 ls1 hI1 hK hP hD hS hl)
    by_cases g_5 : op = (5 : Int32)
    · refine lv_tableIn (tgt := 440) (off := 371) hx hb d_Law_law_69 (by rw [g_5]; decide) (by rw [g_5]; decide) (by rw [g_5]; rfl) (by decide) ?_
      obtain ⟨z1, y1, k, q, hT, hM, hI1⟩ := s_order z y (xs (i + (1 : Int32)).toNatClampNeg) (xs (i + (2 : Int32)).toNatClampNeg) (xs (i + (3 : Int32)).toNatClampNeg) (xs (i + (4 : Int32)).toNatClampNeg) hIz
      exact kc_order_C C0 hK hKM hP hD hS hl q1 q2 q3 q4 (lw_room (by omega) (by omega)) hT hM (fun H1 locs1 ls1 hP hD hS hl => K a _ _ H1 locs1 ls1 hI1 hK hP hD hS hl)
    by_cases g_6 : op = (6 : Int32)
    · refine lv_tableIn (tgt := 468) (off := 399) hx hb d_Law_law_69 (by rw [g_6]; decide) (by rw [g_6]; decide) (by rw [g_6]; rfl) (by decide) ?_
      obtain ⟨z1, y1, k, q, hT, hM, hI1⟩ := s_compose z y (xs (i + (1 : Int32)).toNatClampNeg) (xs (i + (2 : Int32)).toNatClampNeg) (xs (i + (3 : Int32)).toNatClampNeg) (xs (i + (4 : Int32)).toNatClampNeg) hIz
      exact kc_compose_C C0 hK hKM hP hD hS hl q1 q2 q3 q4 (lw_room (by omega) (by omega)) hT hM (fun H1 locs1 ls1 hP hD hS hl => K a _ _ H1 locs1 ls1 hI1 hK hP hD hS hl)
    by_cases g_7 : op = (7 : Int32)
    · refine lv_tableIn (tgt := 481) (off := 412) hx hb d_Law_law_69 (by rw [g_7]; decide) (by rw [g_7]; decide) (by rw [g_7]; rfl) (by decide) ?_
      obtain ⟨z1, y1, k, q, hT, hM, hI1⟩ := s_at z y (xs (i + (1 : Int32)).toNatClampNeg) (xs (i + (2 : Int32)).toNatClampNeg) (xs (i + (3 : Int32)).toNatClampNeg) (xs (i + (4 : Int32)).toNatClampNeg) hIz
      exact kc_at_C C0 hK hKM hP hD hS hl q1 q2 q3 q4 (lw_room (by omega) (by omega)) hT hM (fun H1 locs1 ls1 hP hD hS hl => K a _ _ H1 locs1 ls1 hI1 hK hP hD hS hl)
    by_cases g_8 : op = (8 : Int32)
    · refine lv_tableIn (tgt := 521) (off := 452) hx hb d_Law_law_69 (by rw [g_8]; decide) (by rw [g_8]; decide) (by rw [g_8]; rfl) (by decide) ?_
      obtain ⟨z1, y1, k, q, hT, hM, hI1⟩ := s_write z y (xs (i + (1 : Int32)).toNatClampNeg) (xs (i + (2 : Int32)).toNatClampNeg) (xs (i + (3 : Int32)).toNatClampNeg) (xs (i + (4 : Int32)).toNatClampNeg) hIz
      exact kc_write_C C0 hK hKM hP hD hS hl q1 q2 q3 q4 (lw_room (by omega) (by omega)) hT hM (fun H1 locs1 ls1 hP hD hS hl => K a _ _ H1 locs1 ls1 hI1 hK hP hD hS hl)
    by_cases g_9 : op = (9 : Int32)
    · refine lv_tableIn (tgt := 534) (off := 465) hx hb d_Law_law_69 (by rw [g_9]; decide) (by rw [g_9]; decide) (by rw [g_9]; rfl) (by decide) ?_
      obtain ⟨z1, y1, k, q, hT, hM, hI1⟩ := s_byteAt z y (xs (i + (1 : Int32)).toNatClampNeg) (xs (i + (2 : Int32)).toNatClampNeg) (xs (i + (3 : Int32)).toNatClampNeg) (xs (i + (4 : Int32)).toNatClampNeg) hIz
      exact kc_byteAt_C C0 hK hKM hP hD hS hl q1 q2 q3 q4 (lw_room (by omega) (by omega)) hT hM (fun H1 locs1 ls1 hP hD hS hl => K a _ _ H1 locs1 ls1 hI1 hK hP hD hS hl)
    by_cases g_10 : op = (10 : Int32)
    · refine lv_tableIn (tgt := 562) (off := 493) hx hb d_Law_law_69 (by rw [g_10]; decide) (by rw [g_10]; decide) (by rw [g_10]; rfl) (by decide) ?_
      obtain ⟨z1, y1, k, q, hT, hM, hI1⟩ := s_feed z y (xs (i + (1 : Int32)).toNatClampNeg) (xs (i + (2 : Int32)).toNatClampNeg) (xs (i + (3 : Int32)).toNatClampNeg) (xs (i + (4 : Int32)).toNatClampNeg) hIz
      exact kc_feed_C C0 hK hKM hP hD hS hl q1 q2 q3 q4 (lw_room (by omega) (by omega)) hT hM (fun H1 locs1 ls1 hP hD hS hl => K a _ _ H1 locs1 ls1 hI1 hK hP hD hS hl)
    by_cases g_11 : op = (11 : Int32)
    · refine lv_tableIn (tgt := 590) (off := 521) hx hb d_Law_law_69 (by rw [g_11]; decide) (by rw [g_11]; decide) (by rw [g_11]; rfl) (by decide) ?_
      obtain ⟨z1, y1, k, q, hT, hM, hI1⟩ := s_pass z y (xs (i + (1 : Int32)).toNatClampNeg) (xs (i + (2 : Int32)).toNatClampNeg) (xs (i + (3 : Int32)).toNatClampNeg) (xs (i + (4 : Int32)).toNatClampNeg) hIz
      exact kc_pass_C C0 hK hKM hP hD hS hl q1 q2 q3 q4 (lw_room (by omega) (by omega)) hT hM (fun H1 locs1 ls1 hP hD hS hl => K a _ _ H1 locs1 ls1 hI1 hK hP hD hS hl)
    by_cases g_12 : op = (12 : Int32)
    · refine lv_tableIn (tgt := 606) (off := 537) hx hb d_Law_law_69 (by rw [g_12]; decide) (by rw [g_12]; decide) (by rw [g_12]; rfl) (by decide) ?_
      obtain ⟨z1, y1, k, sw, q, hT, hM, hI1⟩ := s_read z y (xs (i + (1 : Int32)).toNatClampNeg) (xs (i + (2 : Int32)).toNatClampNeg) (xs (i + (3 : Int32)).toNatClampNeg) (xs (i + (4 : Int32)).toNatClampNeg) hIz
      refine kc_read_C C0 hK hKM hP hD hS hl q1 q2 q3 q4 (lw_room (by omega) (by omega)) hT hM (fun a1 z2 H1 locs1 ls1 hrel hK hP hD hS hl => ?_)
      refine K a1 z2 _ H1 locs1 ls1 ?_ hK hP hD hS hl
      rcases hrel with ⟨-, rfl, rfl⟩ | ⟨-, rfl, rfl⟩ <;> exact hI1
    by_cases g_13 : op = (13 : Int32)
    · refine lv_tableIn (tgt := 619) (off := 550) hx hb d_Law_law_69 (by rw [g_13]; decide) (by rw [g_13]; decide) (by rw [g_13]; rfl) (by decide) ?_
      obtain ⟨z1, y1, k, q, t, hT, hM, hth, hc1, hc2, hI1⟩ := s_place z y (xs (i + (1 : Int32)).toNatClampNeg) (xs (i + (2 : Int32)).toNatClampNeg) (xs (i + (3 : Int32)).toNatClampNeg) (xs (i + (4 : Int32)).toNatClampNeg) hIz
      exact kc_place_C C0 hK hKM hP hD hS hl q1 q2 q3 q4 (lw_room (by omega) (by omega)) hT hM hth hc1 hc2 (fun H1 locs1 ls1 hP hD hS hl => K a _ _ H1 locs1 ls1 hI1 hK hP hD hS hl)
    by_cases g_14 : op = (14 : Int32)
    · refine lv_tableIn (tgt := 687) (off := 618) hx hb d_Law_law_69 (by rw [g_14]; decide) (by rw [g_14]; decide) (by rw [g_14]; rfl) (by decide) ?_
      obtain ⟨y1, k, q, hT, hM, hI1⟩ := s_told z y (xs (i + (1 : Int32)).toNatClampNeg) (xs (i + (2 : Int32)).toNatClampNeg) (xs (i + (3 : Int32)).toNatClampNeg) (xs (i + (4 : Int32)).toNatClampNeg) hIz
      exact kc_told_C (z1 := z) C0 hK hKM hP hD hS hl q1 q2 q3 q4 (lw_room (by omega) (by omega)) hT hM (fun H1 locs1 ls1 hP hD hS hl => K a _ _ H1 locs1 ls1 hI1 hK hP hD hS hl)
    by_cases g_15 : op = (15 : Int32)
    · refine lv_tableIn (tgt := 712) (off := 643) hx hb d_Law_law_69 (by rw [g_15]; decide) (by rw [g_15]; decide) (by rw [g_15]; rfl) (by decide) ?_
      obtain ⟨z1, y1, hT, hM, hI1⟩ := s_clear z y (xs (i + (1 : Int32)).toNatClampNeg) (xs (i + (2 : Int32)).toNatClampNeg) (xs (i + (3 : Int32)).toNatClampNeg) (xs (i + (4 : Int32)).toNatClampNeg) hIz
      exact kc_clear_C C0 hK hKM hP hD hS hl q1 q2 q3 q4 (lw_room (by omega) (by omega)) hT hM (fun H1 locs1 ls1 hP hD hS hl => K a _ _ H1 locs1 ls1 hI1 hK hP hD hS hl)
    refine lv_tableOut (tgt := 723) hx hb d_Law_law_69 (by have := nt g_0 (z := 0) rfl; have := nt g_1 (z := 1) rfl; have := nt g_2 (z := 2) rfl; have := nt g_3 (z := 3) rfl; have := nt g_4 (z := 4) rfl; have := nt g_5 (z := 5) rfl; have := nt g_6 (z := 6) rfl; have := nt g_7 (z := 7) rfl; have := nt g_8 (z := 8) rfl; have := nt g_9 (z := 9) rfl; have := nt g_10 (z := 10) rfl; have := nt g_11 (z := 11) rfl; have := nt g_12 (z := 12) rfl; have := nt g_13 (z := 13) rfl; have := nt g_14 (z := 14) rfl; have := nt g_15 (z := 15) rfl; omega) (by decide) ?_
    refine W.widen (k := cells + 1) (n := slots + 6) (by omega) (by omega) ?_
    exact K a z y H locs ls hIz hK hP hD hS hl
set_option maxHeartbeats 4000000 in
set_option maxRecDepth 100000 in
theorem law_loop_F {p : Program} {l : Launch} {e : Env} {s : State} {m : MethodId} {below : List Frame} {meth : Method} {c : Code} {b N : Nat} {xs : Nat → Int32} {dC : Nat → ClassId} {dI : Nat → Nat → Nat} {d : MA} (I : TS → MS → Prop) (hI : StepsF I) (hN : N ≤ 2563) (hr : meth.sig.returnType = ret) (hlocks : meth.locks = false) (C0 : LX p l s m c #[Value.ref b] (fun q : Nat => s.heap.size ≤ q) b N xs) (hKM : va_K (dC, dI) CL (KM d) s) :
    ∀ (n : Nat) (i : Int32) (a : TA) (z : TS) (y : MS) (H : Heap) (locs : List Loc) (ls : Array Slot) (cells slots : Nat), I z y → 0 ≤ i.toInt → (N : Int) < i.toInt + 5 * ((n : Int) + 1) → i.toInt ≤ 100000 → cells + n + 2 ≤ 601024 → slots + 6 * n + 12 ≤ 7293000 → va_K (dC, dI) CL (KF a) s → va_P (dC, dI) CL (WF a z ++ WM d y) H → va_D (fun q : Nat => s.heap.size ≤ q) (WF a z ++ WM d y) → va_S (fun q : Nat => s.heap.size ≤ q) s.heap H locs → lv_has ls 7 [(0, .ref b), (1, .ref a.tr), (2, .ref d.mo), (3, .ref a.out), (4, .int i)] → W p l e room_1 s m #[Value.ref b] below meth c H locs cells slots (lw_Z below #[Value.ref b] s) (F0 m 53 ls []) := by
  obtain ⟨hx, hb, hml, hown, hB, hnw, hxw, hxn, hst, hA, hAn, hlt, hX, hbl⟩ := id C0
  obtain ⟨s_symbol, s_put, s_instance, s_refine, s_way, s_order, s_compose, s_at, s_write, s_byteAt, s_feed, s_pass, s_read, s_place, s_told, s_clear⟩ := hI
  intro n
  induction n with
  | zero =>
    intro i a z y H locs ls cells slots hIz h0 hn hi hc hs hK hP hD hS hl
    refine lv_iload hx hb d_Law_law_53 (lv_at hl 4 rfl) ?_
    refine lv_aload_n hx hb d_Law_law_55 rfl (lv_at hl 0 rfl) ?_
    refine va_slen hx hb hX hbl (hAn _ hbl) hS d_Law_law_56 ?_
    refine lv_iconst (v := 5) hx hb d_Law_law_57 (by decide) ?_
    refine lv_isub hx hb d_Law_law_58 ?_
    refine lv_icmp_gt (tgt := 729) hx hb d_Law_law_59 (by decide) (fun c_1 => ?_) (fun c_1 => ?_)
    · refine lv_iconst (v := 1) hx hb d_Law_law_729 (by decide) ?_
      refine va_forget (fun q hq => hS.2.2 q hq) ?_
      refine W.widen (k := 601024) (n := 7293000) (by omega) (by omega) ?_
      exact lw_ret hx hb hr hlocks d_Law_law_730
    · have h5 := lw_le hN c_1
      omega
  | succ n ih =>
    intro i a z y H locs ls cells slots hIz h0 hn hi hc hs hK hP hD hS hl
    refine lv_iload hx hb d_Law_law_53 (lv_at hl 4 rfl) ?_
    refine lv_aload_n hx hb d_Law_law_55 rfl (lv_at hl 0 rfl) ?_
    refine va_slen hx hb hX hbl (hAn _ hbl) hS d_Law_law_56 ?_
    refine lv_iconst (v := 5) hx hb d_Law_law_57 (by decide) ?_
    refine lv_isub hx hb d_Law_law_58 ?_
    refine lv_icmp_gt (tgt := 729) hx hb d_Law_law_59 (by decide) (fun c_1 => ?_) (fun c_1 => ?_)
    · refine lv_iconst (v := 1) hx hb d_Law_law_729 (by decide) ?_
      refine va_forget (fun q hq => hS.2.2 q hq) ?_
      refine W.widen (k := 601024) (n := 7293000) (by omega) (by omega) ?_
      exact lw_ret hx hb hr hlocks d_Law_law_730
    have h5 := lw_le hN c_1
    clear c_1
    have q0 : vp_in i N := lw_in0 h0 h5 hN
    have q1 := lw_in (k := 1) h0 h5 hN (by decide) (by decide)
    have q2 := lw_in (k := 2) h0 h5 hN (by decide) (by decide)
    have q3 := lw_in (k := 3) h0 h5 hN (by decide) (by decide)
    have q4 := lw_in (k := 4) h0 h5 hN (by decide) (by decide)
    have K : ∀ (a : TA) (z : TS) (y : MS) (H : Heap) (locs : List Loc) (ls : Array Slot), I z y → va_K (dC, dI) CL (KF a) s → va_P (dC, dI) CL (WF a z ++ WM d y) H → va_D (fun q : Nat => s.heap.size ≤ q) (WF a z ++ WM d y) → va_S (fun q : Nat => s.heap.size ≤ q) s.heap H locs → lv_has ls 7 [(0, .ref b), (1, .ref a.tr), (2, .ref d.mo), (3, .ref a.out), (4, .int i)] → W p l e room_1 s m #[Value.ref b] below meth c H locs (cells + 1) (slots + 6) (lw_Z below #[Value.ref b] s) (F0 m 723 ls []) := by
      intro a z y H locs ls hIz hK hP hD hS hl
      obtain ⟨i5, e5⟩ : ∃ y9 : Int32, y9 = i + (5 : Int32) := ⟨_, rfl⟩
      have h55 := lw_add h0 h5 hN e5
      refine lv_iinc (v := i5) (lv' := [(4, .int i5), (0, .ref b), (1, .ref a.tr), (2, .ref d.mo), (3, .ref a.out)]) hx hb d_Law_law_723 hl (k := 4) rfl (by rw [e5]; rfl) (by decide) rfl (fun ls hl => ?_)
      refine lv_goto (tgt := 53) hx hb d_Law_law_726 (by decide) ?_
      exact ih i5 a z y H locs ls (cells + 1) (slots + 6) hIz (by omega) (by omega) (by omega) (by omega) (by omega) hK hP hD hS (lv_sub hl [1, 2, 3, 4, 0] rfl)
    refine lv_aload_n hx hb d_Law_law_62 rfl (lv_at hl 0 rfl) ?_
    refine lv_iload hx hb d_Law_law_63 (lv_at hl 4 rfl) ?_
    refine va_sld hx hb hX hbl (hAn _ hbl) hS q0 d_Law_law_65 ?_
    refine lv_bipush (v := 15) hx hb d_Law_law_66 (by decide) ?_
    refine lv_iand hx hb d_Law_law_68 ?_
    generalize hop : (xs i.toNatClampNeg &&& 15) = op
    by_cases g_0 : op = (0 : Int32)
    · refine lv_tableIn (tgt := 148) (off := 79) hx hb d_Law_law_69 (by rw [g_0]; decide) (by rw [g_0]; decide) (by rw [g_0]; rfl) (by decide) ?_
      obtain ⟨z1, y1, k, q, hT, hM, hI1⟩ := s_symbol z y (xs (i + (1 : Int32)).toNatClampNeg) (xs (i + (2 : Int32)).toNatClampNeg) (xs (i + (3 : Int32)).toNatClampNeg) (xs (i + (4 : Int32)).toNatClampNeg) hIz
      exact kc_symbol_F C0 hK hKM hP hD hS hl q1 q2 q3 q4 (lw_room (by omega) (by omega)) hT hM (fun H1 locs1 ls1 hP hD hS hl => K a _ _ H1 locs1 ls1 hI1 hK hP hD hS hl)
    by_cases g_1 : op = (1 : Int32)
    · refine lv_tableIn (tgt := 188) (off := 119) hx hb d_Law_law_69 (by rw [g_1]; decide) (by rw [g_1]; decide) (by rw [g_1]; rfl) (by decide) ?_
      obtain ⟨z1, y1, k, q, hT, hM, hI1⟩ := s_put z y (xs (i + (1 : Int32)).toNatClampNeg) (xs (i + (2 : Int32)).toNatClampNeg) (xs (i + (3 : Int32)).toNatClampNeg) (xs (i + (4 : Int32)).toNatClampNeg) hIz
      exact kc_put_F C0 hK hKM hP hD hS hl q1 q2 q3 q4 (lw_room (by omega) (by omega)) hT hM (fun H1 locs1 ls1 hP hD hS hl => K a _ _ H1 locs1 ls1 hI1 hK hP hD hS hl)
    by_cases g_2 : op = (2 : Int32)
    · refine lv_tableIn (tgt := 268) (off := 199) hx hb d_Law_law_69 (by rw [g_2]; decide) (by rw [g_2]; decide) (by rw [g_2]; rfl) (by decide) ?_
      obtain ⟨z1, y1, k, q, hT, hM, hI1⟩ := s_instance z y (xs (i + (1 : Int32)).toNatClampNeg) (xs (i + (2 : Int32)).toNatClampNeg) (xs (i + (3 : Int32)).toNatClampNeg) (xs (i + (4 : Int32)).toNatClampNeg) hIz
      exact kc_instance_F C0 hK hKM hP hD hS hl q1 q2 q3 q4 (lw_room (by omega) (by omega)) hT hM (fun H1 locs1 ls1 hP hD hS hl => K a _ _ H1 locs1 ls1 hI1 hK hP hD hS hl)
    by_cases g_3 : op = (3 : Int32)
    · refine lv_tableIn (tgt := 320) (off := 251) hx hb d_Law_law_69 (by rw [g_3]; decide) (by rw [g_3]; decide) (by rw [g_3]; rfl) (by decide) ?_
      obtain ⟨z1, y1, k, q, hT, hM, hI1⟩ := s_refine z y (xs (i + (1 : Int32)).toNatClampNeg) (xs (i + (2 : Int32)).toNatClampNeg) (xs (i + (3 : Int32)).toNatClampNeg) (xs (i + (4 : Int32)).toNatClampNeg) hIz
      exact kc_refine_F C0 hK hKM hP hD hS hl q1 q2 q3 q4 (lw_room (by omega) (by omega)) hT hM (fun H1 locs1 ls1 hP hD hS hl => K a _ _ H1 locs1 ls1 hI1 hK hP hD hS hl)
    by_cases g_4 : op = (4 : Int32)
    · refine lv_tableIn (tgt := 400) (off := 331) hx hb d_Law_law_69 (by rw [g_4]; decide) (by rw [g_4]; decide) (by rw [g_4]; rfl) (by decide) ?_
      obtain ⟨z1, y1, k, q, hT, hM, hI1⟩ := s_way z y (xs (i + (1 : Int32)).toNatClampNeg) (xs (i + (2 : Int32)).toNatClampNeg) (xs (i + (3 : Int32)).toNatClampNeg) (xs (i + (4 : Int32)).toNatClampNeg) hIz
      exact kc_way_F C0 hK hKM hP hD hS hl q1 q2 q3 q4 (lw_room (by omega) (by omega)) hT hM (fun H1 locs1 ls1 hP hD hS hl => K a _ _ H1 locs1 ls1 hI1 hK hP hD hS hl)
    by_cases g_5 : op = (5 : Int32)
    · refine lv_tableIn (tgt := 440) (off := 371) hx hb d_Law_law_69 (by rw [g_5]; decide) (by rw [g_5]; decide) (by rw [g_5]; rfl) (by decide) ?_
      obtain ⟨z1, y1, k, q, hT, hM, hI1⟩ := s_order z y (xs (i + (1 : Int32)).toNatClampNeg) (xs (i + (2 : Int32)).toNatClampNeg) (xs (i + (3 : Int32)).toNatClampNeg) (xs (i + (4 : Int32)).toNatClampNeg) hIz
      exact kc_order_F C0 hK hKM hP hD hS hl q1 q2 q3 q4 (lw_room (by omega) (by omega)) hT hM (fun H1 locs1 ls1 hP hD hS hl => K a _ _ H1 locs1 ls1 hI1 hK hP hD hS hl)
    by_cases g_6 : op = (6 : Int32)
    · refine lv_tableIn (tgt := 468) (off := 399) hx hb d_Law_law_69 (by rw [g_6]; decide) (by rw [g_6]; decide) (by rw [g_6]; rfl) (by decide) ?_
      obtain ⟨z1, y1, k, q, hT, hM, hI1⟩ := s_compose z y (xs (i + (1 : Int32)).toNatClampNeg) (xs (i + (2 : Int32)).toNatClampNeg) (xs (i + (3 : Int32)).toNatClampNeg) (xs (i + (4 : Int32)).toNatClampNeg) hIz
      exact kc_compose_F C0 hK hKM hP hD hS hl q1 q2 q3 q4 (lw_room (by omega) (by omega)) hT hM (fun H1 locs1 ls1 hP hD hS hl => K a _ _ H1 locs1 ls1 hI1 hK hP hD hS hl)
    by_cases g_7 : op = (7 : Int32)
    · refine lv_tableIn (tgt := 481) (off := 412) hx hb d_Law_law_69 (by rw [g_7]; decide) (by rw [g_7]; decide) (by rw [g_7]; rfl) (by decide) ?_
      obtain ⟨z1, y1, k, q, hT, hM, hI1⟩ := s_at z y (xs (i + (1 : Int32)).toNatClampNeg) (xs (i + (2 : Int32)).toNatClampNeg) (xs (i + (3 : Int32)).toNatClampNeg) (xs (i + (4 : Int32)).toNatClampNeg) hIz
      exact kc_at_F C0 hK hKM hP hD hS hl q1 q2 q3 q4 (lw_room (by omega) (by omega)) hT hM (fun H1 locs1 ls1 hP hD hS hl => K a _ _ H1 locs1 ls1 hI1 hK hP hD hS hl)
    by_cases g_8 : op = (8 : Int32)
    · refine lv_tableIn (tgt := 521) (off := 452) hx hb d_Law_law_69 (by rw [g_8]; decide) (by rw [g_8]; decide) (by rw [g_8]; rfl) (by decide) ?_
      obtain ⟨z1, y1, k, q, hT, hM, hI1⟩ := s_write z y (xs (i + (1 : Int32)).toNatClampNeg) (xs (i + (2 : Int32)).toNatClampNeg) (xs (i + (3 : Int32)).toNatClampNeg) (xs (i + (4 : Int32)).toNatClampNeg) hIz
      exact kc_write_F C0 hK hKM hP hD hS hl q1 q2 q3 q4 (lw_room (by omega) (by omega)) hT hM (fun H1 locs1 ls1 hP hD hS hl => K a _ _ H1 locs1 ls1 hI1 hK hP hD hS hl)
    by_cases g_9 : op = (9 : Int32)
    · refine lv_tableIn (tgt := 534) (off := 465) hx hb d_Law_law_69 (by rw [g_9]; decide) (by rw [g_9]; decide) (by rw [g_9]; rfl) (by decide) ?_
      obtain ⟨z1, y1, k, q, hT, hM, hI1⟩ := s_byteAt z y (xs (i + (1 : Int32)).toNatClampNeg) (xs (i + (2 : Int32)).toNatClampNeg) (xs (i + (3 : Int32)).toNatClampNeg) (xs (i + (4 : Int32)).toNatClampNeg) hIz
      exact kc_byteAt_F C0 hK hKM hP hD hS hl q1 q2 q3 q4 (lw_room (by omega) (by omega)) hT hM (fun H1 locs1 ls1 hP hD hS hl => K a _ _ H1 locs1 ls1 hI1 hK hP hD hS hl)
    by_cases g_10 : op = (10 : Int32)
    · refine lv_tableIn (tgt := 562) (off := 493) hx hb d_Law_law_69 (by rw [g_10]; decide) (by rw [g_10]; decide) (by rw [g_10]; rfl) (by decide) ?_
      obtain ⟨z1, y1, k, q, hT, hM, hI1⟩ := s_feed z y (xs (i + (1 : Int32)).toNatClampNeg) (xs (i + (2 : Int32)).toNatClampNeg) (xs (i + (3 : Int32)).toNatClampNeg) (xs (i + (4 : Int32)).toNatClampNeg) hIz
      exact kc_feed_F C0 hK hKM hP hD hS hl q1 q2 q3 q4 (lw_room (by omega) (by omega)) hT hM (fun H1 locs1 ls1 hP hD hS hl => K a _ _ H1 locs1 ls1 hI1 hK hP hD hS hl)
    by_cases g_11 : op = (11 : Int32)
    · refine lv_tableIn (tgt := 590) (off := 521) hx hb d_Law_law_69 (by rw [g_11]; decide) (by rw [g_11]; decide) (by rw [g_11]; rfl) (by decide) ?_
      obtain ⟨z1, y1, k, q, hT, hM, hI1⟩ := s_pass z y (xs (i + (1 : Int32)).toNatClampNeg) (xs (i + (2 : Int32)).toNatClampNeg) (xs (i + (3 : Int32)).toNatClampNeg) (xs (i + (4 : Int32)).toNatClampNeg) hIz
      exact kc_pass_F C0 hK hKM hP hD hS hl q1 q2 q3 q4 (lw_room (by omega) (by omega)) hT hM (fun H1 locs1 ls1 hP hD hS hl => K a _ _ H1 locs1 ls1 hI1 hK hP hD hS hl)
    by_cases g_12 : op = (12 : Int32)
    · refine lv_tableIn (tgt := 606) (off := 537) hx hb d_Law_law_69 (by rw [g_12]; decide) (by rw [g_12]; decide) (by rw [g_12]; rfl) (by decide) ?_
      obtain ⟨z1, y1, k, sw, q, hT, hM, hI1⟩ := s_read z y (xs (i + (1 : Int32)).toNatClampNeg) (xs (i + (2 : Int32)).toNatClampNeg) (xs (i + (3 : Int32)).toNatClampNeg) (xs (i + (4 : Int32)).toNatClampNeg) hIz
      refine kc_read_F C0 hK hKM hP hD hS hl q1 q2 q3 q4 (lw_room (by omega) (by omega)) hT hM (fun a1 z2 H1 locs1 ls1 hrel hK hP hD hS hl => ?_)
      refine K a1 z2 _ H1 locs1 ls1 ?_ hK hP hD hS hl
      rcases hrel with ⟨-, rfl, rfl⟩ | ⟨-, rfl, rfl⟩ <;> exact hI1
    by_cases g_13 : op = (13 : Int32)
    · refine lv_tableIn (tgt := 619) (off := 550) hx hb d_Law_law_69 (by rw [g_13]; decide) (by rw [g_13]; decide) (by rw [g_13]; rfl) (by decide) ?_
      obtain ⟨z1, y1, k, q, t, hT, hM, hth, hc1, hc2, hI1⟩ := s_place z y (xs (i + (1 : Int32)).toNatClampNeg) (xs (i + (2 : Int32)).toNatClampNeg) (xs (i + (3 : Int32)).toNatClampNeg) (xs (i + (4 : Int32)).toNatClampNeg) hIz
      exact kc_place_F C0 hK hKM hP hD hS hl q1 q2 q3 q4 (lw_room (by omega) (by omega)) hT hM hth hc1 hc2 (fun H1 locs1 ls1 hP hD hS hl => K a _ _ H1 locs1 ls1 hI1 hK hP hD hS hl)
    by_cases g_14 : op = (14 : Int32)
    · refine lv_tableIn (tgt := 687) (off := 618) hx hb d_Law_law_69 (by rw [g_14]; decide) (by rw [g_14]; decide) (by rw [g_14]; rfl) (by decide) ?_
      obtain ⟨y1, k, q, hT, hM, hI1⟩ := s_told z y (xs (i + (1 : Int32)).toNatClampNeg) (xs (i + (2 : Int32)).toNatClampNeg) (xs (i + (3 : Int32)).toNatClampNeg) (xs (i + (4 : Int32)).toNatClampNeg) hIz
      exact kc_told_F (z1 := z) C0 hK hKM hP hD hS hl q1 q2 q3 q4 (lw_room (by omega) (by omega)) hT hM (fun H1 locs1 ls1 hP hD hS hl => K a _ _ H1 locs1 ls1 hI1 hK hP hD hS hl)
    by_cases g_15 : op = (15 : Int32)
    · refine lv_tableIn (tgt := 712) (off := 643) hx hb d_Law_law_69 (by rw [g_15]; decide) (by rw [g_15]; decide) (by rw [g_15]; rfl) (by decide) ?_
      obtain ⟨z1, y1, hT, hM, hI1⟩ := s_clear z y (xs (i + (1 : Int32)).toNatClampNeg) (xs (i + (2 : Int32)).toNatClampNeg) (xs (i + (3 : Int32)).toNatClampNeg) (xs (i + (4 : Int32)).toNatClampNeg) hIz
      exact kc_clear_F C0 hK hKM hP hD hS hl q1 q2 q3 q4 (lw_room (by omega) (by omega)) hT hM (fun H1 locs1 ls1 hP hD hS hl => K a _ _ H1 locs1 ls1 hI1 hK hP hD hS hl)
    refine lv_tableOut (tgt := 723) hx hb d_Law_law_69 (by have := nt g_0 (z := 0) rfl; have := nt g_1 (z := 1) rfl; have := nt g_2 (z := 2) rfl; have := nt g_3 (z := 3) rfl; have := nt g_4 (z := 4) rfl; have := nt g_5 (z := 5) rfl; have := nt g_6 (z := 6) rfl; have := nt g_7 (z := 7) rfl; have := nt g_8 (z := 8) rfl; have := nt g_9 (z := 9) rfl; have := nt g_10 (z := 10) rfl; have := nt g_11 (z := 11) rfl; have := nt g_12 (z := 12) rfl; have := nt g_13 (z := 13) rfl; have := nt g_14 (z := 14) rfl; have := nt g_15 (z := 15) rfl; omega) (by decide) ?_
    refine W.widen (k := cells + 1) (n := slots + 6) (by omega) (by omega) ?_
    exact K a z y H locs ls hIz hK hP hD hS hl
