theorem it0_C {k w g : Int32} (hk : 0 ≤ k ∧ k ≤ 1) (hw : 1 ≤ w ∧ w ≤ 24) (hg : 1 ≤ g ∧ g ≤ 24) : IT (z0C k w g) := ⟨hk, ⟨(by decide : (0 : Int32) ≤ (0 : Int32)), (by decide : (0 : Int32) ≤ (16 : Int32))⟩, hw, hg, ⟨(by decide : (0 : Int32) ≤ (0 : Int32)), (by decide : (0 : Int32) ≤ (2000 : Int32))⟩, ⟨(by decide : (0 : Int32) ≤ (0 : Int32)), (by decide : (0 : Int32) ≤ (2000 : Int32))⟩, ⟨(by decide : (0 : Int32) ≤ (0 : Int32)), (by decide : (0 : Int32) ≤ (40 : Int32))⟩, ⟨(by decide : (0 : Int32) ≤ (0 : Int32)), (by decide : (0 : Int32) ≤ (40 : Int32))⟩, (fun _ => ⟨(by decide : (0 : Int32) ≤ (0 : Int32)), (by decide : (0 : Int32) ≤ (8 : Int32))⟩), (fun _ => ⟨(by decide : (0 : Int32) ≤ (0 : Int32)), (by decide : (0 : Int32) ≤ (8 : Int32))⟩), (fun _ => ⟨(by decide : (0 : Int32) ≤ (0 : Int32)), (by decide : (0 : Int32) ≤ (1 : Int32))⟩), ⟨(by decide : (0 : Int32) ≤ (0 : Int32)), (by decide : (0 : Int32) ≤ (1 : Int32))⟩, ⟨(by decide : (0 : Int32) ≤ (0 : Int32)), (by decide : (0 : Int32) ≤ (1000000 : Int32))⟩, ⟨(by decide : (0 : Int32) ≤ (0 : Int32)), (by decide : (0 : Int32) ≤ (16000 : Int32))⟩, ⟨(by decide : (0 : Int32) ≤ (0 : Int32)), (by decide : (0 : Int32) ≤ (9 : Int32))⟩, (fun _ => ⟨(by decide : (0 : Int32) ≤ (0 : Int32)), (by decide : (0 : Int32) ≤ (7 : Int32))⟩), (fun _ => ⟨(by decide : (0 : Int32) ≤ (0 : Int32)), (by decide : (0 : Int32) ≤ (15 : Int32))⟩), (fun _ => ⟨(by decide : (-8 : Int32) ≤ (0 : Int32)), (by decide : (0 : Int32) ≤ (31 : Int32))⟩), (fun _ => ⟨(by decide : (-8 : Int32) ≤ (0 : Int32)), (by decide : (0 : Int32) ≤ (31 : Int32))⟩), (fun _ => ⟨(by decide : (0 : Int32) ≤ (0 : Int32)), (by decide : (0 : Int32) ≤ (39 : Int32))⟩), (fun _ => ⟨(by decide : (0 : Int32) ≤ (0 : Int32)), (by decide : (0 : Int32) ≤ (7 : Int32))⟩), (fun _ => ⟨(by decide : (0 : Int32) ≤ (0 : Int32)), (by decide : (0 : Int32) ≤ (15 : Int32))⟩), (fun _ => ⟨(by decide : (-8 : Int32) ≤ (0 : Int32)), (by decide : (0 : Int32) ≤ (31 : Int32))⟩), (fun _ => ⟨(by decide : (-8 : Int32) ≤ (0 : Int32)), (by decide : (0 : Int32) ≤ (31 : Int32))⟩), (fun _ => ⟨(by decide : (0 : Int32) ≤ (0 : Int32)), (by decide : (0 : Int32) ≤ (39 : Int32))⟩), (fun _ => ⟨(by decide : (0 : Int32) ≤ (0 : Int32)), (by decide : (0 : Int32) ≤ (15 : Int32))⟩), (fun _ => ⟨(by decide : (-1 : Int32) ≤ (0 : Int32)), (by decide : (0 : Int32) ≤ (31 : Int32))⟩), (fun _ => ⟨(by decide : (0 : Int32) ≤ (0 : Int32)), (by decide : (0 : Int32) ≤ (15 : Int32))⟩)⟩
theorem it0_F {k w g : Int32} (hk : 0 ≤ k ∧ k ≤ 1) (hw : 1 ≤ w ∧ w ≤ 24) (hg : 1 ≤ g ∧ g ≤ 24) : IT (z0F k w g) := ⟨hk, ⟨(by decide : (0 : Int32) ≤ (0 : Int32)), (by decide : (0 : Int32) ≤ (16 : Int32))⟩, hw, hg, ⟨(by decide : (0 : Int32) ≤ (0 : Int32)), (by decide : (0 : Int32) ≤ (2000 : Int32))⟩, ⟨(by decide : (0 : Int32) ≤ (0 : Int32)), (by decide : (0 : Int32) ≤ (2000 : Int32))⟩, ⟨(by decide : (0 : Int32) ≤ (0 : Int32)), (by decide : (0 : Int32) ≤ (40 : Int32))⟩, ⟨(by decide : (0 : Int32) ≤ (0 : Int32)), (by decide : (0 : Int32) ≤ (40 : Int32))⟩, (fun _ => ⟨(by decide : (0 : Int32) ≤ (0 : Int32)), (by decide : (0 : Int32) ≤ (8 : Int32))⟩), (fun _ => ⟨(by decide : (0 : Int32) ≤ (0 : Int32)), (by decide : (0 : Int32) ≤ (8 : Int32))⟩), (fun _ => ⟨(by decide : (0 : Int32) ≤ (0 : Int32)), (by decide : (0 : Int32) ≤ (1 : Int32))⟩), ⟨(by decide : (0 : Int32) ≤ (0 : Int32)), (by decide : (0 : Int32) ≤ (1 : Int32))⟩, ⟨(by decide : (0 : Int32) ≤ (0 : Int32)), (by decide : (0 : Int32) ≤ (1000000 : Int32))⟩, ⟨(by decide : (0 : Int32) ≤ (0 : Int32)), (by decide : (0 : Int32) ≤ (16000 : Int32))⟩, ⟨(by decide : (0 : Int32) ≤ (0 : Int32)), (by decide : (0 : Int32) ≤ (9 : Int32))⟩, (fun _ => ⟨(by decide : (0 : Int32) ≤ (0 : Int32)), (by decide : (0 : Int32) ≤ (7 : Int32))⟩), (fun _ => ⟨(by decide : (0 : Int32) ≤ (0 : Int32)), (by decide : (0 : Int32) ≤ (15 : Int32))⟩), (fun _ => ⟨(by decide : (-8 : Int32) ≤ (0 : Int32)), (by decide : (0 : Int32) ≤ (31 : Int32))⟩), (fun _ => ⟨(by decide : (-8 : Int32) ≤ (0 : Int32)), (by decide : (0 : Int32) ≤ (31 : Int32))⟩), (fun _ => ⟨(by decide : (0 : Int32) ≤ (0 : Int32)), (by decide : (0 : Int32) ≤ (39 : Int32))⟩), (fun _ => ⟨(by decide : (0 : Int32) ≤ (0 : Int32)), (by decide : (0 : Int32) ≤ (7 : Int32))⟩), (fun _ => ⟨(by decide : (0 : Int32) ≤ (0 : Int32)), (by decide : (0 : Int32) ≤ (15 : Int32))⟩), (fun _ => ⟨(by decide : (-8 : Int32) ≤ (0 : Int32)), (by decide : (0 : Int32) ≤ (31 : Int32))⟩), (fun _ => ⟨(by decide : (-8 : Int32) ≤ (0 : Int32)), (by decide : (0 : Int32) ≤ (31 : Int32))⟩), (fun _ => ⟨(by decide : (0 : Int32) ≤ (0 : Int32)), (by decide : (0 : Int32) ≤ (39 : Int32))⟩), (fun _ => ⟨(by decide : (0 : Int32) ≤ (0 : Int32)), (by decide : (0 : Int32) ≤ (15 : Int32))⟩), (fun _ => ⟨(by decide : (-1 : Int32) ≤ (0 : Int32)), (by decide : (0 : Int32) ≤ (31 : Int32))⟩), (fun _ => ⟨(by decide : (0 : Int32) ≤ (0 : Int32)), (by decide : (0 : Int32) ≤ (15 : Int32))⟩)⟩
theorem im0 {w g k : Int32} (hw : 1 ≤ w ∧ w ≤ 24) (hg : 1 ≤ g ∧ g ≤ 24) (hk : 0 ≤ k ∧ k ≤ 1) : IM (y0 w g k) := ⟨hw, hg, hk, ⟨(by decide : (0 : Int32) ≤ (0 : Int32)), (by decide : (0 : Int32) ≤ (16 : Int32))⟩, ⟨(by decide : (0 : Int32) ≤ (0 : Int32)), (by decide : (0 : Int32) ≤ (40 : Int32))⟩, ⟨(by decide : (0 : Int32) ≤ (0 : Int32)), (by decide : (0 : Int32) ≤ (16000 : Int32))⟩, ⟨(by decide : (0 : Int32) ≤ (0 : Int32)), (by decide : (0 : Int32) ≤ (1 : Int32))⟩, ⟨(by decide : (0 : Int32) ≤ (0 : Int32)), (by decide : (0 : Int32) ≤ (2000 : Int32))⟩, ⟨(by decide : (0 : Int32) ≤ (0 : Int32)), (by decide : (0 : Int32) ≤ (2000 : Int32))⟩, ⟨(by decide : (0 : Int32) ≤ (0 : Int32)), (by decide : (0 : Int32) ≤ (16000 : Int32))⟩, ⟨(by decide : (0 : Int32) ≤ (0 : Int32)), (by decide : (0 : Int32) ≤ (9 : Int32))⟩, ⟨(by decide : (0 : Int32) ≤ (0 : Int32)), (by decide : (0 : Int32) ≤ (40 : Int32))⟩, (fun _ => ⟨(by decide : (0 : Int32) ≤ (0 : Int32)), (by decide : (0 : Int32) ≤ (8 : Int32))⟩), (fun _ => ⟨(by decide : (0 : Int32) ≤ (0 : Int32)), (by decide : (0 : Int32) ≤ (8 : Int32))⟩), (fun _ => ⟨(by decide : (0 : Int32) ≤ (0 : Int32)), (by decide : (0 : Int32) ≤ (15 : Int32))⟩), (fun _ => ⟨(by decide : (-8 : Int32) ≤ (0 : Int32)), (by decide : (0 : Int32) ≤ (31 : Int32))⟩), (fun _ => ⟨(by decide : (-8 : Int32) ≤ (0 : Int32)), (by decide : (0 : Int32) ≤ (31 : Int32))⟩), (fun _ => ⟨(by decide : (0 : Int32) ≤ (0 : Int32)), (by decide : (0 : Int32) ≤ (7 : Int32))⟩), (fun _ => ⟨(by decide : (0 : Int32) ≤ (0 : Int32)), (by decide : (0 : Int32) ≤ (39 : Int32))⟩), (fun _ => ⟨(by decide : (0 : Int32) ≤ (0 : Int32)), (by decide : (0 : Int32) ≤ (1 : Int32))⟩), (fun _ => ⟨(by decide : (0 : Int32) ≤ (0 : Int32)), (by decide : (0 : Int32) ≤ (15 : Int32))⟩), (fun _ => ⟨(by decide : (0 : Int32) ≤ (0 : Int32)), (by decide : (0 : Int32) ≤ (1 : Int32))⟩), (fun _ => ⟨(by decide : (0 : Int32) ≤ (0 : Int32)), (by decide : (0 : Int32) ≤ (15 : Int32))⟩), (fun _ => ⟨(by decide : (0 : Int32) ≤ (0 : Int32)), (by decide : (0 : Int32) ≤ (15 : Int32))⟩), (fun _ => ⟨(by decide : (-8 : Int32) ≤ (0 : Int32)), (by decide : (0 : Int32) ≤ (31 : Int32))⟩), (fun _ => ⟨(by decide : (-8 : Int32) ≤ (0 : Int32)), (by decide : (0 : Int32) ≤ (31 : Int32))⟩), (fun _ => ⟨(by decide : (0 : Int32) ≤ (0 : Int32)), (by decide : (0 : Int32) ≤ (7 : Int32))⟩)⟩
theorem PG0 {k w g : Int32} : PG (z0C k w g) (y0 w g k) := ⟨rfl, rfl, pp_z⟩
theorem near9 (p lo hi : Int32) (h : lo ≤ hi) : ok (f_Top_nearest p lo hi) (fun r => lo ≤ r ∧ r ≤ hi) := by
  unfold f_Top_nearest
  refine ok_some ?_
  grind
theorem same_near (p lo hi : Int32) (h : lo ≤ hi) : f_Mo_within p lo hi = f_Top_nearest p lo hi := by
  unfold f_Mo_within f_Top_nearest
  grind
theorem page9 {w g : Int32} (hw : 1 ≤ w ∧ w ≤ 24) (hg : 1 ≤ g ∧ g ≤ 24) : f_Page_init w g = some () := by
  have m := mul24 hw hg
  have n := nat_of m.1
  have b := Int32.le_iff_toInt_le.mp m.2
  have z : (576 : Int32).toInt = 576 := rfl
  unfold f_Page_init ng
  rw [if_neg]
  rintro (q | q)
  · exact absurd m.1 (Int32.not_le.mpr q)
  · omega
theorem ini8 (a b c : Int32) : ∃ k w g : Int32, (0 ≤ k ∧ k ≤ 1) ∧ (1 ≤ w ∧ w ≤ 24) ∧ (1 ≤ g ∧ g ≤ 24) ∧ f_Mo_init a b c = some (w, g, k) ∧ ((k = 0 ∧ f_Top_init_C a b c = some (k, w, g)) ∨ (k = 1 ∧ f_Top_init_F a b c = some (k, w, g))) := by
  obtain ⟨k, ek, hk⟩ := near9 c 0 1 (by decide)
  obtain ⟨w, ew, hw⟩ := near9 a 1 24 (by decide)
  obtain ⟨g, eg, hg⟩ := near9 b 1 24 (by decide)
  refine ⟨k, w, g, hk, hw, hg, ?_, ?_⟩
  · unfold f_Mo_init
    rw [same_near _ _ _ (by decide), same_near _ _ _ (by decide), same_near _ _ _ (by decide), ew, eg, ek]
    rfl
  by_cases z : k = 0
  · left
    refine ⟨z, ?_⟩
    unfold f_Top_init_C
    rw [ek, ew, eg]
    simp only [bd, Option.bind_some, page9 hw hg, f_Dictionary_init, f_ByteRow_init, if_pos z, f_CodeNames_init, f_BitWriter_init, f_Teller_init_C, f_BitReader_init, f_Reader_init_C, f_Layout_init]
  · right
    refine ⟨?_, ?_⟩
    · have a0 := t_le hk.1
      have a1 := t_le hk.2
      rw [z_0] at a0
      rw [z_1] at a1
      have nz : ¬ k.toInt = 0 := fun q => z (zero_t.mpr q)
      exact Int32.toInt_inj.mp (by rw [z_1]; omega)
    unfold f_Top_init_F
    rw [ek, ew, eg]
    simp only [bd, Option.bind_some, page9 hw hg, f_Dictionary_init, f_ByteRow_init, if_neg z, f_FrontNames_init, f_BitWriter_init, f_Teller_init_F, f_BitReader_init, f_Reader_init_F, f_Layout_init]
theorem rl0_C {w g : Int32} : RL 0 (z0C 0 w g) (y0 w g 0) := ⟨rfl, rfl, rfl, rfl, fun i _ x v hx _ => absurd hx (show ¬ x < 0 from Nat.not_lt_zero x), rfl, lr_0 (wy_0 (fun _ _ => rfl) (fun _ _ => rfl)), rfl, rb_0, rfl, rb_0, PG0⟩
theorem rl0_F {w g : Int32} : RL 1 (z0F 1 w g) (y0 w g 1) := ⟨rfl, rfl, rfl, rfl, fun i _ x v hx _ => absurd hx (show ¬ x < 0 from Nat.not_lt_zero x), rfl, lr_0 (wy_0 (fun _ _ => rfl) (fun _ _ => rfl)), rfl, rb_0, rfl, rb_0, PG0⟩
theorem whole_start {p : Program} {e : Env} {s : State} {m : MethodId} {below : List Frame} {meth : Method} {c : Code} (l : Launch) (hlt : l.stackTraces = false) {b L : Nat} {xs : Nat → Int32} (hL : L ≤ 2563) (C0 : lw_At p s m meth c b L xs) : W p l e room_1 s m #[Value.ref b] below meth c s.heap [] 0 0 (lw_Z below #[Value.ref b] s) (entryFrame m ([Value.ref b] : List Value).toArray 7) := by
  obtain ⟨hx, hb, hr, hml, hown, hts, hX, hbl, hlocks, hgv⟩ := C0
  obtain ⟨dC, dI, hCL⟩ := st_CL hts
  have hAn : ∀ q : Nat, q < s.heap.size → ¬ (fun q : Nat => s.heap.size ≤ q) q := fun q h => Nat.not_le.mpr h
  have C9 : LX p l s m c #[Value.ref b] (fun q : Nat => s.heap.size ≤ q) b L xs := ⟨hx, hb, hml, hown, st_big hts, st_nw hts, st_xw hts hgv, st_xn hgv, st_stt hAn hts hgv, fun _ h => h, hAn, hlt, hX, hbl⟩
  have hK : va_K (dC, dI) CL [] s := ⟨hCL, fun k q h => by simp at h⟩
  obtain ⟨k0, w0, g0, hk, hw, hg, hM, hT⟩ := ini8 (cl9 L xs 0) (cl9 L xs 1) (cl9 L xs 2)
  rcases hT with ⟨e0, hT⟩ | ⟨e1, hT⟩
  · rw [e0] at hT hM hk
    exact law_start_C (II 0) stepsC hL hr hlocks C9 hK hT hM ⟨it0_C hk hw hg, im0 hw hg hk, rl0_C⟩
  · rw [e1] at hT hM hk
    exact law_start_F (II 1) stepsF hL hr hlocks C9 hK hT hM ⟨it0_F hk hw hg, im0 hw hg hk, rl0_F⟩

