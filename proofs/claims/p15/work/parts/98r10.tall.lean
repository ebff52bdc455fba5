/-! DRAFT: tellAll, in step -/
theorem wt0 : tb_WAYS_AS_TOLD ((0 : Int32)).toNatClampNeg = 2 := by decide
theorem wt1 : tb_WAYS_AS_TOLD ((0 : Int32) + 1).toNatClampNeg = 1 := by decide
theorem wt2 : tb_WAYS_AS_TOLD ((0 : Int32) + 1 + 1).toNatClampNeg = 0 := by decide
theorem wt3 : tb_WAYS_AS_TOLD ((0 : Int32) + 1 + 1 + 1).toNatClampNeg = 3 := by decide
theorem bw0 : tb_BITS_OF_WAY ((0 : Int32)).toNatClampNeg = 2 := by decide
theorem bw1 : tb_BITS_OF_WAY ((1 : Int32)).toNatClampNeg = 1 := by decide
theorem bw2 : tb_BITS_OF_WAY ((2 : Int32)).toNatClampNeg = 2 := by decide
theorem bw3 : tb_BITS_OF_WAY ((3 : Int32)).toNatClampNeg = 3 := by decide
theorem begin_RE {r r9 u w : Nat → Int32} (hu : f_Mo_beginRow r = some u) (hw : f_Mo_beginRow r9 = some w) : RE u w := by
  have z16 : (16 : Int32).toInt = 16 := rfl
  intro j hj
  rw [begin_ID hu j (by omega), begin_ID hw j (by omega)]
/-- what a telling begins with -/
theorem TL_0 {kp tc : Int32} {b o : Nat → Int32} {k1 c1 t1 : Int32} (h : f_BitWriter_start tc kp = some (k1, c1, t1)) : kp = k1 ∧ TL kp tc b o c1 t1 b 0 o := by
  unfold f_BitWriter_start at h
  obtain ⟨h01, h⟩ := bz_e h
  by_cases c : kp = 0
  · rw [if_pos c] at h
    obtain ⟨e1, e2, e3⟩ := some3 h
    subst e1 e2 e3
    exact ⟨rfl, Or.inr ⟨c, rfl, rfl, rfl, rfl⟩⟩
  · rw [if_neg c] at h
    obtain ⟨e1, e2, e3⟩ := some3 h
    subst e1 e2 e3
    have k1 : k1 = 1 := by
      rcases h01 with q | q
      · exact absurd q c
      · exact q
    exact ⟨rfl, Or.inl ⟨k1, rfl, by decide, by decide, by decide, fun j hj => by rw [z_0] at hj; omega⟩⟩
theorem tab_C {kp T0 dc c tc c9 : Int32} {B0 O0 b o le le9 : Nat → Int32} {Rs : Int32 × Int32 × (Nat → Int32)} {cd wt us ov : Nat → Int32} {out : Int32 × Int32 × (Nat → Int32) × (Nat → Int32) × (Nat → Int32) × (Nat → Int32) × (Nat → Int32) × (Nat → Int32) × (Nat → Int32) × (Nat → Int32)} {j : Int32 → (Nat → Int32) → (Nat → Int32) → (Nat → Int32) → (Nat → Int32) → (Nat → Int32) → (Nat → Int32) → Option (Int32 × Int32 × (Nat → Int32) × (Nat → Int32) × (Nat → Int32) × (Nat → Int32) × (Nat → Int32) × (Nat → Int32) × (Nat → Int32) × (Nat → Int32))}
    (hT : TL kp T0 B0 O0 c tc b c9 o) (hd : dc.toInt ≤ 16) (hle : ∀ j : Nat, (j : Int) < dc.toInt → le j = le9 j) (ha : f_CodeNames_tellTable kp c dc le tc b = some Rs) (hb : lp (f_Mo_tellAll_L86 dc j cd le9 wt us ov kp) FU (0, c9, o) = some out) :
    ∃ (c8 : Int32) (o8 : Nat → Int32), TL kp T0 B0 O0 Rs.1 Rs.2.1 Rs.2.2 c8 o8 ∧ j c8 o8 cd le9 wt us ov = some out := by
  unfold f_CodeNames_tellTable at ha
  refine lp_two (fun (s : Int32 × Int32 × Int32 × (Nat → Int32)) (t : Int32 × Int32 × (Nat → Int32)) => s.1 = t.1 ∧ 0 ≤ s.1.toInt ∧ TL kp T0 B0 O0 s.2.1 s.2.2.1 s.2.2.2 t.2.1 t.2.2) (fun (a : Int32 × Int32 × (Nat → Int32)) d => ∃ (c8 : Int32) (o8 : Nat → Int32), TL kp T0 B0 O0 a.1 a.2.1 a.2.2 c8 o8 ∧ j c8 o8 cd le9 wt us ov = some d) ?_ _ _ _ _ ?_ Rs out ha hb
  · intro f g hfg s t hI a d ha hb
    obtain ⟨i, c, tc, b⟩ := s
    obtain ⟨i9, c9, o⟩ := t
    dsimp only at hI
    obtain ⟨e, i0, hT⟩ := hI
    subst e
    unfold f_CodeNames_tellTable_L2 at ha
    unfold f_Mo_tellAll_L86 at hb
    dsimp only at ha hb
    by_cases c : dc ≤ i
    · rw [if_pos c] at ha hb
      rw [← Option.some.inj ha]
      exact ⟨_, _, hT, hb⟩
    · rw [if_neg c] at ha hb
      have c9 := t_lt (Int32.not_le.mp c)
      have iN := nat_of (n := i) (Int32.le_iff_toInt_le.mpr (by rw [z_0]; exact i0))
      obtain ⟨_, ha⟩ := gq_e ha
      obtain ⟨_, hb⟩ := gq_e hb
      obtain ⟨x, hx, ha⟩ := bd_e ha
      obtain ⟨y, hy, hb⟩ := bd_e hb
      obtain ⟨x1, x2, x3⟩ := x
      obtain ⟨y1, y2⟩ := y
      rw [hle i.toNatClampNeg (by omega)] at hx
      have hT1 := bits_TL hT (by decide) (by decide) hx hy
      have ii := inc_i (k := i) (by omega) (by omega)
      exact hfg (i + 1, x1, x2, x3) (i + 1, y1, y2) ⟨rfl, by show 0 ≤ (i + 1).toInt; omega, hT1⟩ a d ha hb
  · exact ⟨rfl, p0_0, hT⟩
set_option maxHeartbeats 4000000 in
theorem tall_C {n dc kp tc0 : Int32} {b0 o0 W sO xs ys seq W9 sO9 xs9 ys9 ord0 w h row cd le wt us ov cdC leC : Nat → Int32} {df df9 : Nat → Int64} {Rs : Int32 × Int32 × Int32 × Int32 × (Nat → Int32)} {out : Int32 × Int32 × (Nat → Int32) × (Nat → Int32) × (Nat → Int32) × (Nat → Int32) × (Nat → Int32) × (Nat → Int32) × (Nat → Int32) × (Nat → Int32)}
    (hL : LR n dc w h W sO xs ys df W9 sO9 xs9 ys9 df9) (hM : MR W9 ys9 h sO9 xs9 w) (hE : ∀ ord, f_Mo_sort n ord0 W9 ys9 h sO9 xs9 w = some ord → EN n seq ord) (hd : dc.toInt ≤ 16) (hN : ∀ wt1 us1 ov1 le1 cd1, f_Mo_findLengths dc n wt us ov sO9 le = some (wt1, us1, ov1, le1) → f_Mo_findCodes dc le1 cd = some cd1 → CD dc leC cdC le1 cd1)
    (ha : f_Teller_tellAll_C n tc0 b0 W dc leC seq sO xs w ys h cdC df kp = some Rs) (hb : f_Mo_tellAll 0 dc n ord0 W9 ys9 h sO9 xs9 w o0 row cd le df9 wt us ov kp = some out) : TL kp tc0 b0 o0 Rs.2.2.1 Rs.2.2.2.1 Rs.2.2.2.2 out.1 out.2.2.2.1 ∧ Rs.1 = out.1 := by
  have hL9 := hL
  obtain ⟨n0, n1, hW, es, ex, ey, hX, hSO⟩ := hL
  obtain ⟨w0, w1, w2, w3, wb1⟩ := wy_e hW
  unfold f_Teller_tellAll_C at ha
  unfold f_Mo_tellAll at hb
  obtain ⟨_, hb⟩ := bz_e hb
  obtain ⟨ord, hord, hb⟩ := bd_e hb
  have hE1 := hE ord hord
  have hS := sort_sd n0 n1 hord
  obtain ⟨x, hx, ha⟩ := bd_e ha
  obtain ⟨k1, c, tc⟩ := x
  obtain ⟨ek, hT⟩ := TL_0 (b := b0) (o := o0) hx
  subst ek
  dsimp only at ha
  obtain ⟨x, hx, ha⟩ := bd_e ha
  obtain ⟨y, hy, hb⟩ := bd_e hb
  obtain ⟨x1, x2, x3⟩ := x
  obtain ⟨y1, y2⟩ := y
  have hT := number_TL hT n0 (by omega) hx hy
  dsimp only at ha hb
  obtain ⟨g0, eg0, ha⟩ := lpx0 ha
  unfold f_Teller_tellAll_C_L21 at ha
  dsimp only at ha
  rw [if_neg (by decide)] at ha
  obtain ⟨_, ha⟩ := gq_e ha
  simp only [nl] at ha
  rw [wt0] at ha
  obtain ⟨_, ha⟩ := gq_e ha
  obtain ⟨_, ha⟩ := gq_e ha
  obtain ⟨_, hb⟩ := gq_e hb
  rw [bw2, w2] at ha
  obtain ⟨x, hx, ha⟩ := bd_e ha
  obtain ⟨y, hy, hb⟩ := bd_e hb
  obtain ⟨x1, x2, x3⟩ := x
  obtain ⟨y1, y2⟩ := y
  have hT := bits_TL hT (by decide) (by decide) hx hy
  dsimp only at ha hb
  rw [eg0] at ha
  obtain ⟨g1, eg1, ha⟩ := lpx1 ha
  unfold f_Teller_tellAll_C_L21 at ha
  dsimp only at ha
  rw [if_neg (by decide)] at ha
  obtain ⟨_, ha⟩ := gq_e ha
  simp only [nl] at ha
  rw [wt1] at ha
  obtain ⟨_, ha⟩ := gq_e ha
  obtain ⟨_, ha⟩ := gq_e ha
  obtain ⟨_, hb⟩ := gq_e hb
  rw [bw1, w1] at ha
  obtain ⟨x, hx, ha⟩ := bd_e ha
  obtain ⟨y, hy, hb⟩ := bd_e hb
  obtain ⟨x1, x2, x3⟩ := x
  obtain ⟨y1, y2⟩ := y
  have hT := bit_TL hT wb1 hx hy
  dsimp only at ha hb
  rw [eg1] at ha
  obtain ⟨g2, eg2, ha⟩ := lpx2 ha
  unfold f_Teller_tellAll_C_L21 at ha
  dsimp only at ha
  rw [if_neg (by decide)] at ha
  obtain ⟨_, ha⟩ := gq_e ha
  simp only [nl] at ha
  rw [wt2] at ha
  obtain ⟨_, ha⟩ := gq_e ha
  obtain ⟨_, ha⟩ := gq_e ha
  obtain ⟨_, hb⟩ := gq_e hb
  rw [bw0, w0] at ha
  obtain ⟨x, hx, ha⟩ := bd_e ha
  obtain ⟨y, hy, hb⟩ := bd_e hb
  obtain ⟨x1, x2, x3⟩ := x
  obtain ⟨y1, y2⟩ := y
  have hT := bits_TL hT (by decide) (by decide) hx hy
  dsimp only at ha hb
  rw [eg2] at ha
  obtain ⟨g3, eg3, ha⟩ := lpx3 ha
  unfold f_Teller_tellAll_C_L21 at ha
  dsimp only at ha
  rw [if_neg (by decide)] at ha
  obtain ⟨_, ha⟩ := gq_e ha
  simp only [nl] at ha
  rw [wt3] at ha
  obtain ⟨_, ha⟩ := gq_e ha
  obtain ⟨_, ha⟩ := gq_e ha
  obtain ⟨_, hb⟩ := gq_e hb
  rw [bw3, w3] at ha
  obtain ⟨x, hx, ha⟩ := bd_e ha
  obtain ⟨y, hy, hb⟩ := bd_e hb
  obtain ⟨x1, x2, x3⟩ := x
  obtain ⟨y1, y2⟩ := y
  have hT := bits_TL hT (by decide) (by decide) hx hy
  dsimp only at ha hb
  rw [eg3] at ha
  obtain ⟨g4, eg4, ha⟩ := lpx4 ha
  unfold f_Teller_tellAll_C_L21 at ha
  dsimp only at ha
  rw [if_pos (by decide)] at ha
  obtain ⟨r9, hr9, hb⟩ := bd_e hb
  obtain ⟨j1, ej1, hb⟩ := jn_e hb
  rw [if_pos rfl] at hb
  obtain ⟨y, hy, hb⟩ := bd_e hb
  obtain ⟨y3, y4, y5, y6⟩ := y
  obtain ⟨cd1, hcd1, hb⟩ := bd_e hb
  have hCD := hN _ _ _ _ _ hy hcd1
  obtain ⟨x, hx, ha⟩ := bd_e ha
  obtain ⟨x1, x2, x3⟩ := x
  obtain ⟨c8, o8, hT, hb⟩ := tab_C hT hd (fun j hj => (hCD j hj).1) hx hb
  rw [ej1] at hb
  dsimp only at ha hT
  obtain ⟨x, hx, ha⟩ := bd_e ha
  obtain ⟨x4, x5, x6⟩ := x
  have ha := Option.some.inj ha
  subst ha
  have hT := tins_C hL9 hM hE1 hS hd hCD hT hx hb
  refine ⟨hT, ?_⟩
  rcases hT with ⟨_, q, _⟩ | ⟨_, q, _⟩
  · exact q
  · exact q
set_option maxHeartbeats 4000000 in
theorem tall_F {n dc kp tc0 : Int32} {b0 o0 W sO xs ys seq W9 sO9 xs9 ys9 ord0 w h row cd le wt us ov rowC : Nat → Int32} {df df9 : Nat → Int64} {Rs : Int32 × Int32 × Int32 × Int32 × (Nat → Int32) × (Nat → Int32)} {out : Int32 × Int32 × (Nat → Int32) × (Nat → Int32) × (Nat → Int32) × (Nat → Int32) × (Nat → Int32) × (Nat → Int32) × (Nat → Int32) × (Nat → Int32)}
    (hL : LR n dc w h W sO xs ys df W9 sO9 xs9 ys9 df9) (hM : MR W9 ys9 h sO9 xs9 w) (hE : ∀ ord, f_Mo_sort n ord0 W9 ys9 h sO9 xs9 w = some ord → EN n seq ord) (hd : dc.toInt ≤ 16)
    (ha : f_Teller_tellAll_F n tc0 b0 W rowC seq sO xs dc w ys h df kp = some Rs) (hb : f_Mo_tellAll 1 dc n ord0 W9 ys9 h sO9 xs9 w o0 row cd le df9 wt us ov kp = some out) : TL kp tc0 b0 o0 Rs.2.2.1 Rs.2.2.2.1 Rs.2.2.2.2.1 out.1 out.2.2.2.1 ∧ Rs.1 = out.1 := by
  have hL9 := hL
  obtain ⟨n0, n1, hW, es, ex, ey, hX, hSO⟩ := hL
  obtain ⟨w0, w1, w2, w3, wb1⟩ := wy_e hW
  unfold f_Teller_tellAll_F at ha
  unfold f_Mo_tellAll at hb
  obtain ⟨_, hb⟩ := bz_e hb
  obtain ⟨ord, hord, hb⟩ := bd_e hb
  have hE1 := hE ord hord
  have hS := sort_sd n0 n1 hord
  obtain ⟨x, hx, ha⟩ := bd_e ha
  obtain ⟨k1, c, tc⟩ := x
  obtain ⟨ek, hT⟩ := TL_0 (b := b0) (o := o0) hx
  subst ek
  dsimp only at ha
  obtain ⟨x, hx, ha⟩ := bd_e ha
  obtain ⟨y, hy, hb⟩ := bd_e hb
  obtain ⟨x1, x2, x3⟩ := x
  obtain ⟨y1, y2⟩ := y
  have hT := number_TL hT n0 (by omega) hx hy
  dsimp only at ha hb
  obtain ⟨g0, eg0, ha⟩ := lpx0 ha
  unfold f_Teller_tellAll_F_L21 at ha
  dsimp only at ha
  rw [if_neg (by decide)] at ha
  obtain ⟨_, ha⟩ := gq_e ha
  simp only [nl] at ha
  rw [wt0] at ha
  obtain ⟨_, ha⟩ := gq_e ha
  obtain ⟨_, ha⟩ := gq_e ha
  obtain ⟨_, hb⟩ := gq_e hb
  rw [bw2, w2] at ha
  obtain ⟨x, hx, ha⟩ := bd_e ha
  obtain ⟨y, hy, hb⟩ := bd_e hb
  obtain ⟨x1, x2, x3⟩ := x
  obtain ⟨y1, y2⟩ := y
  have hT := bits_TL hT (by decide) (by decide) hx hy
  dsimp only at ha hb
  rw [eg0] at ha
  obtain ⟨g1, eg1, ha⟩ := lpx1 ha
  unfold f_Teller_tellAll_F_L21 at ha
  dsimp only at ha
  rw [if_neg (by decide)] at ha
  obtain ⟨_, ha⟩ := gq_e ha
  simp only [nl] at ha
  rw [wt1] at ha
  obtain ⟨_, ha⟩ := gq_e ha
  obtain ⟨_, ha⟩ := gq_e ha
  obtain ⟨_, hb⟩ := gq_e hb
  rw [bw1, w1] at ha
  obtain ⟨x, hx, ha⟩ := bd_e ha
  obtain ⟨y, hy, hb⟩ := bd_e hb
  obtain ⟨x1, x2, x3⟩ := x
  obtain ⟨y1, y2⟩ := y
  have hT := bit_TL hT wb1 hx hy
  dsimp only at ha hb
  rw [eg1] at ha
  obtain ⟨g2, eg2, ha⟩ := lpx2 ha
  unfold f_Teller_tellAll_F_L21 at ha
  dsimp only at ha
  rw [if_neg (by decide)] at ha
  obtain ⟨_, ha⟩ := gq_e ha
  simp only [nl] at ha
  rw [wt2] at ha
  obtain ⟨_, ha⟩ := gq_e ha
  obtain ⟨_, ha⟩ := gq_e ha
  obtain ⟨_, hb⟩ := gq_e hb
  rw [bw0, w0] at ha
  obtain ⟨x, hx, ha⟩ := bd_e ha
  obtain ⟨y, hy, hb⟩ := bd_e hb
  obtain ⟨x1, x2, x3⟩ := x
  obtain ⟨y1, y2⟩ := y
  have hT := bits_TL hT (by decide) (by decide) hx hy
  dsimp only at ha hb
  rw [eg2] at ha
  obtain ⟨g3, eg3, ha⟩ := lpx3 ha
  unfold f_Teller_tellAll_F_L21 at ha
  dsimp only at ha
  rw [if_neg (by decide)] at ha
  obtain ⟨_, ha⟩ := gq_e ha
  simp only [nl] at ha
  rw [wt3] at ha
  obtain ⟨_, ha⟩ := gq_e ha
  obtain ⟨_, ha⟩ := gq_e ha
  obtain ⟨_, hb⟩ := gq_e hb
  rw [bw3, w3] at ha
  obtain ⟨x, hx, ha⟩ := bd_e ha
  obtain ⟨y, hy, hb⟩ := bd_e hb
  obtain ⟨x1, x2, x3⟩ := x
  obtain ⟨y1, y2⟩ := y
  have hT := bits_TL hT (by decide) (by decide) hx hy
  dsimp only at ha hb
  rw [eg3] at ha
  obtain ⟨g4, eg4, ha⟩ := lpx4 ha
  unfold f_Teller_tellAll_F_L21 at ha
  dsimp only at ha
  rw [if_pos (by decide)] at ha
  obtain ⟨r9, hr9, hb⟩ := bd_e hb
  obtain ⟨j1, ej1, hb⟩ := jn_e hb
  rw [if_neg (by decide), ej1] at hb
  obtain ⟨x, hx, ha⟩ := bd_e ha
  unfold f_FrontNames_tellTable at hx
  obtain ⟨z, hz, hx⟩ := bd_e hx
  have hx := Option.some.inj hx
  subst hx
  rw [same_begin] at hz
  obtain ⟨x, hx, ha⟩ := bd_e ha
  obtain ⟨x4, x5, x6, x7⟩ := x
  have ha := Option.some.inj ha
  subst ha
  have hT := tins_F hL9 hM hE1 hS hd (begin_RE hz hr9) (begin_RW hd hr9) hT hx hb
  refine ⟨hT, ?_⟩
  rcases hT with ⟨_, q, _⟩ | ⟨_, q, _⟩
  · exact q
  · exact q
