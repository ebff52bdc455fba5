/-! DRAFT: a reading as a whole, in step -/
theorem wy_upd {W0 RW0 : Nat → Int32} {a b c d : Int32} (hb : b = 0 ∨ b = 1) : WY (upd (upd (upd (upd W0 ((2 : Int32)).toNatClampNeg a) ((1 : Int32)).toNatClampNeg b) ((0 : Int32)).toNatClampNeg c) ((3 : Int32)).toNatClampNeg d) (upd (upd (upd (upd RW0 ((2 : Int32)).toNatClampNeg a) ((1 : Int32)).toNatClampNeg b) ((0 : Int32)).toNatClampNeg c) ((3 : Int32)).toNatClampNeg d) := by
  refine ⟨fun j hj => ?_, hb⟩
  match j, hj with
  | 0, _ => rfl
  | 1, _ => rfl
  | 2, _ => rfl
  | 3, _ => rfl
theorem li_0 {dc : Int32} {w h sO xs ys rS rX rY : Nat → Int32} {df rD : Nat → Int64} : LI 0 dc w h sO xs ys df rS rX rY rD := ⟨fun j hj => by rw [z_0] at hj; omega, fun j hj => by rw [z_0] at hj; omega, fun j hj => by rw [z_0] at hj; omega, fun j hj => by rw [z_0] at hj; omega, fun j hj => by rw [z_0] at hj; omega⟩
theorem p3_0 : 0 ≤ (3 : Int32).toInt := by decide
theorem n3_0 : ¬ (3 : Int32) = 0 := by decide
theorem mw3 : tb_MOST_OF_WAY ((3 : Int32)).toNatClampNeg = 4 := by decide
theorem next_ex {n p r : Int32} {i9 : Nat → Int32} {o : Int32 × Int32 × Int32} (hB : RB n i9 i9) (hP : RP n p r) (h : f_Mo_next n p r i9 = some o) : ∃ x, f_BitReader_nextBit p r n i9 = some x := by
  obtain ⟨n0, n1, _⟩ := hB
  obtain ⟨p0, p8, r0⟩ := hP
  have d8 := div8 p0
  unfold f_BitReader_nextBit
  by_cases c : r = 0
  · rw [if_pos c]
    by_cases d : p / 8 < n
    · have d9 := t_lt d
      rw [if_pos d]
      have nq := nat_of (n := p / 8) (Int32.le_iff_toInt_le.mpr (by rw [z_0, d8]; omega))
      unfold gq
      rw [if_neg (fun z => by
        rcases z with z | z
        · have := t_lt z
          rw [z_0] at this
          omega
        · omega)]
      exact ⟨_, rfl⟩
    · rw [if_neg d]
      exact ⟨_, rfl⟩
  · rw [if_neg c]
    exact ⟨_, rfl⟩
theorem next_RP {n p r b p1 r1 : Int32} {i9 : Nat → Int32} (hB : 0 ≤ n.toInt ∧ n.toInt ≤ 2000) (hP : RP n p r) (h : f_Mo_next n p r i9 = some (b, p1, r1)) : RP n p1 r1 := by
  have hB9 : RB n i9 i9 := ⟨hB.1, hB.2, fun _ _ => rfl⟩
  obtain ⟨x, hx⟩ : ∃ x, f_BitReader_nextBit p r n i9 = some x := next_ex hB9 hP h
  obtain ⟨x1, x2, x3⟩ := x
  obtain ⟨hS, _⟩ := next_S hB9 hP hx h
  obtain ⟨e1, e2, hP1, _, _⟩ := hS
  rw [e1, e2]
  exact hP1
theorem next_01 {n p r b p1 r1 : Int32} {i9 : Nat → Int32} (hP : RP n p r) (h : f_Mo_next n p r i9 = some (b, p1, r1)) : b = 0 ∨ b = 1 := by
  unfold f_Mo_next at h
  dsimp only [jn, nl] at h
  by_cases c : r = 0
  · rw [if_pos c] at h
    by_cases d : p = (8 : Int32) * n
    · rw [if_pos d] at h
      obtain ⟨z, hz, h⟩ := bd_e h
      have := refM_0 c hz
      subst this
      first | rw [if_neg (by decide)] at h | rw [if_neg id] at h
      exact Or.inl (some3 h).1
    · rw [if_neg d, if_pos (by rw [c]; exact Int32.le_refl _)] at h
      obtain ⟨_, h⟩ := gq_e h
      rw [(some3 h).1]
      exact and1 _
  · rw [if_neg c, if_neg (pos_nz hP.2.2 c)] at h
    exact Or.inl (some3 h).1
set_option maxRecDepth 4000 in
set_option maxHeartbeats 8000000 in
theorem rtop_F {n dc q9 cnt p1 r1 p9 r9 many : Int32} {cb i9 W RW0 row9 w h le cd sO xs ys rS rX rY W1 sO1 xs1 ys1 RW1 row8 le8 cd8 rS1 rX1 rY1 row row1 : Nat → Int32} {df rD df1 rD1 : Nat → Int64} (hB : RB n cb i9) (hw : R w 0 8) (hh : R h 0 8) (d0 : 0 ≤ dc.toInt) (hd : dc.toInt ≤ 16)
    (ha : f_Reader_readAll_F W n cb row dc w h sO xs ys df = some (q9, cnt, p1, r1, W1, row1, sO1, xs1, ys1, df1)) (hb : f_Mo_readAll 1 dc n 0 0 0 i9 RW0 row9 le cd rS rX rY rD w h = some (p9, r9, many, RW1, row8, le8, cd8, rS1, rX1, rY1, rD1)) :
    q9 = r1 ∧ p9 = p1 ∧ r9 = r1 ∧ RP n p1 r1 ∧ (r1 = 0 → cnt = many ∧ 0 ≤ many.toInt ∧ many.toInt ≤ 40 ∧ WY W1 RW1 ∧ LI many dc w h sO1 xs1 ys1 df1 rS1 rX1 rY1 rD1) := by
  have hP0 : RP n 0 0 := ⟨p0_0, by show (0 : Int) ≤ 8 * n.toInt; have := hB.1; omega, p0_0⟩
  unfold f_Reader_readAll_F at ha
  unfold f_Mo_readAll at hb
  obtain ⟨x, hx, ha⟩ := bd_e ha
  unfold f_BitReader_start at hx
  have hx := Option.some.inj hx
  subst hx
  dsimp only at ha
  obtain ⟨x, hx, ha⟩ := bd_e ha
  obtain ⟨c0, W0⟩ := x
  have ec0 := empty_e hx
  subst ec0
  dsimp only at ha
  obtain ⟨x, hx, ha⟩ := bd_e ha
  obtain ⟨y, hy, hb⟩ := bd_e hb
  obtain ⟨v, x2, x3⟩ := x
  obtain ⟨v9, y2, y3⟩ := y
  obtain ⟨hS, hv⟩ := num2 hB hP0 hx hy
  have n00 := num_0 hB hP0 hx
  obtain ⟨e1, e2, hP1, _, _⟩ := hS
  subst e1 e2
  dsimp only at ha hb
  obtain ⟨jA, ejA, ha⟩ := jn_e ha
  obtain ⟨jB, ejB, hb⟩ := jn_e hb
  have ck : ∃ u : Int32, jA u = some (q9, cnt, p1, r1, W1, row1, sO1, xs1, ys1, df1) ∧ jB u = some (p9, r9, many, RW1, row8, le8, cd8, rS1, rX1, rY1, rD1) ∧ RP n y2 u ∧ (u = 0 → v9 = v ∧ v.toInt ≤ 40 ∧ 0 ≤ v.toInt) := by
    by_cases c : y3 = 0
    · have ev := hv c
      rw [if_pos c] at hb
      by_cases d : v ≤ 40
      · rw [if_pos d] at ha
        rw [if_pos (by rw [ev]; exact d)] at hb
        exact ⟨y3, ha, hb, hP1, fun _ => ⟨ev, t_le d, n00.1⟩⟩
      · rw [if_neg d] at ha
        rw [if_neg (by rw [ev]; exact d)] at hb
        obtain ⟨z1, hz1, ha⟩ := bd_e ha
        obtain ⟨z2, hz2, hb⟩ := bd_e hb
        have w1 := ref_0 c hz1
        have w2 := refM_0 c hz2
        subst w1 w2
        exact ⟨2, ha, hb, ⟨hP1.1, hP1.2.1, p2_0⟩, fun z => absurd z n2_0⟩
    · rw [if_neg c] at hb
      by_cases d : v ≤ 40
      · rw [if_pos d] at ha
        exact ⟨y3, ha, hb, hP1, fun z => absurd z c⟩
      · rw [if_neg d] at ha
        obtain ⟨z1, hz1, ha⟩ := bd_e ha
        have w1 := ref_k c hz1
        subst w1
        exact ⟨y3, ha, hb, hP1, fun z => absurd z c⟩
  clear ha hb
  obtain ⟨u, ha, hb, hP2, hv2⟩ := ck
  rw [ejA] at ha
  rw [ejB] at hb
  dsimp only at ha hb
  obtain ⟨g0, eg0, ha⟩ := lpx0 ha
  unfold f_Reader_readAll_F_L35 at ha
  dsimp only [nl] at ha
  first | rw [if_neg (by decide)] at ha | rw [if_neg id] at ha
  obtain ⟨_, ha⟩ := gq_e ha
  rw [wt0] at ha
  obtain ⟨_, ha⟩ := gq_e ha
  rw [bw2] at ha
  obtain ⟨x, hx5, ha⟩ := bd_e ha
  obtain ⟨y, hy5, hb⟩ := bd_e hb
  obtain ⟨x5, x6, x7⟩ := x
  obtain ⟨r5, y6, y7⟩ := y
  obtain ⟨hS5, e5⟩ := low2 hB hP2 hx5 hy5
  obtain ⟨e1, e2, hP5, _, m5⟩ := hS5
  subst e5 e1 e2
  dsimp only at ha hb
  obtain ⟨_, ha⟩ := gq_e ha
  obtain ⟨_, hb⟩ := gq_e hb
  rw [eg0] at ha
  obtain ⟨g1, eg1, ha⟩ := lpx1 ha
  unfold f_Reader_readAll_F_L35 at ha
  dsimp only [nl] at ha
  first | rw [if_neg (by decide)] at ha | rw [if_neg id] at ha
  obtain ⟨_, ha⟩ := gq_e ha
  rw [wt1] at ha
  obtain ⟨_, ha⟩ := gq_e ha
  rw [bw1] at ha
  obtain ⟨x, hx8, ha⟩ := bd_e ha
  obtain ⟨y, hy8, hb⟩ := bd_e hb
  obtain ⟨x8, x9, x10⟩ := x
  obtain ⟨r8, y9, y10⟩ := y
  obtain ⟨hS8, e8⟩ := low2 hB hP5 hx8 (low1_next hy8)
  have b8 : r8 = 0 ∨ r8 = 1 := next_01 hP5 hy8
  obtain ⟨e1, e2, hP8, _, m8⟩ := hS8
  subst e8 e1 e2
  dsimp only at ha hb
  obtain ⟨_, ha⟩ := gq_e ha
  obtain ⟨_, hb⟩ := gq_e hb
  rw [eg1] at ha
  obtain ⟨g2, eg2, ha⟩ := lpx2 ha
  unfold f_Reader_readAll_F_L35 at ha
  dsimp only [nl] at ha
  first | rw [if_neg (by decide)] at ha | rw [if_neg id] at ha
  obtain ⟨_, ha⟩ := gq_e ha
  rw [wt2] at ha
  obtain ⟨_, ha⟩ := gq_e ha
  rw [bw0] at ha
  obtain ⟨x, hx11, ha⟩ := bd_e ha
  obtain ⟨y, hy11, hb⟩ := bd_e hb
  obtain ⟨x11, x12, x13⟩ := x
  obtain ⟨r11, y12, y13⟩ := y
  obtain ⟨hS11, e11⟩ := low2 hB hP8 hx11 hy11
  obtain ⟨e1, e2, hP11, _, m11⟩ := hS11
  subst e11 e1 e2
  dsimp only at ha hb
  obtain ⟨_, ha⟩ := gq_e ha
  obtain ⟨_, hb⟩ := gq_e hb
  rw [eg2] at ha
  obtain ⟨g3, eg3, ha⟩ := lpx3 ha
  unfold f_Reader_readAll_F_L35 at ha
  dsimp only [nl] at ha
  first | rw [if_neg (by decide)] at ha | rw [if_neg id] at ha
  obtain ⟨_, ha⟩ := gq_e ha
  rw [wt3] at ha
  obtain ⟨_, ha⟩ := gq_e ha
  rw [bw3] at ha
  obtain ⟨x, hx14, ha⟩ := bd_e ha
  obtain ⟨y, hy14, hb⟩ := bd_e hb
  obtain ⟨x14, x15, x16⟩ := x
  obtain ⟨r14, y15, y16⟩ := y
  obtain ⟨hS14, e14⟩ := low2 hB hP11 hx14 hy14
  obtain ⟨e1, e2, hP14, _, m14⟩ := hS14
  subst e14 e1 e2
  dsimp only at ha hb
  obtain ⟨_, ha⟩ := gq_e ha
  obtain ⟨_, hb⟩ := gq_e hb
  rw [eg3] at ha
  obtain ⟨g4, eg4, ha⟩ := lpx4 ha
  unfold f_Reader_readAll_F_L35 at ha
  dsimp only at ha
  rw [if_pos (by decide)] at ha
  obtain ⟨_, ha⟩ := gq_e ha
  obtain ⟨_, ha⟩ := gq_e ha
  have hWY := wy_upd (W0 := W0) (RW0 := RW0) (a := r5) (c := r11) (d := r14) b8
  generalize hW1 : upd (upd (upd (upd W0 ((2 : Int32)).toNatClampNeg r5) ((1 : Int32)).toNatClampNeg r8) ((0 : Int32)).toNatClampNeg r11) ((3 : Int32)).toNatClampNeg r14 = Wc at ha hWY
  have w33 : Wc ((3 : Int32)).toNatClampNeg = r14 := by rw [← hW1]; rfl
  clear eg0 eg1 eg2 eg3 eg4
  obtain ⟨jC, ejC, ha⟩ := jn_e ha
  obtain ⟨jD, ejD, hb⟩ := jn_e hb
  have ck2 : ∃ u2 : Int32, jC u2 = some (q9, cnt, p1, r1, W1, row1, sO1, xs1, ys1, df1) ∧ jD u2 = some (p9, r9, many, RW1, row8, le8, cd8, rS1, rX1, rY1, rD1) ∧ RP n y15 u2 ∧ (u2 = 0 → v9 = v ∧ v.toInt ≤ 40 ∧ 0 ≤ v.toInt) := by
    rw [w33, mw3] at ha
    by_cases c : y16 = 0
    · rw [if_pos c] at hb
      obtain ⟨_, hb⟩ := gq_e hb
      have hb : (if r14 ≤ (4 : Int32) then jD y16 else bd (f_Mo_refuse y16 (3 : Int32)) fun mo_refused_109 => jD mo_refused_109) = some (p9, r9, many, RW1, row8, le8, cd8, rS1, rX1, rY1, rD1) := hb
      by_cases d : r14 ≤ (4 : Int32)
      · rw [if_pos d] at ha hb
        exact ⟨y16, ha, hb, hP14, fun z => hv2 (m5 (m8 (m11 (m14 z))))⟩
      · rw [if_neg d] at ha hb
        obtain ⟨z1, hz1, ha⟩ := bd_e ha
        obtain ⟨z2, hz2, hb⟩ := bd_e hb
        have w1 := ref_0 c hz1
        have w2 := refM_0 c hz2
        subst w1 w2
        exact ⟨3, ha, hb, ⟨hP14.1, hP14.2.1, p3_0⟩, fun z => absurd z n3_0⟩
    · rw [if_neg c] at hb
      by_cases d : r14 ≤ (4 : Int32)
      · rw [if_pos d] at ha
        exact ⟨y16, ha, hb, hP14, fun z => absurd z c⟩
      · rw [if_neg d] at ha
        obtain ⟨z1, hz1, ha⟩ := bd_e ha
        have w1 := ref_k c hz1
        subst w1
        exact ⟨y16, ha, hb, hP14, fun z => absurd z c⟩
  clear ha hb
  obtain ⟨u2, ha, hb, hP3, hv3⟩ := ck2
  rw [ejC] at ha
  rw [ejD] at hb
  dsimp only at ha hb
  obtain ⟨rb, hrb, hb⟩ := bd_e hb
  obtain ⟨jE, ejE, hb⟩ := jn_e hb
  rw [if_neg (by decide), ejE] at hb
  dsimp only at hb
  obtain ⟨x, hx, ha⟩ := bd_e ha
  unfold f_FrontNames_readTable at hx
  obtain ⟨z, hz, hx⟩ := bd_e hx
  have hx := Option.some.inj hx
  subst hx
  rw [same_begin] at hz
  have hRE := begin_RE hz hrb
  have hRW : RW dc rb := begin_RW hd hrb
  obtain ⟨u3, eu3⟩ : ∃ u3, u3 = u2 := ⟨_, rfl⟩
  obtain ⟨pt, ept⟩ : ∃ pt, pt = y15 := ⟨_, rfl⟩
  rw [← eu3, ← ept] at ha hb hP3
  have hP4 := hP3
  have mU : u3 = 0 → u2 = 0 := fun z => by rw [← eu3]; exact z
  try dsimp only at ha
  obtain ⟨x, hx, ha⟩ := bd_e ha
  unfold f_Reader_readInstances_F at hx
  obtain ⟨ci, pi, ri, roi, soi, xi, yi, di⟩ := x
  have rq : RQF n dc w h (fun (mo_at_34 : Int32) (mo_refused_35 : Int32) (mo_readMany_36 : Int32) (mo_row_37 : (Nat → Int32)) (mo_readSymbol_38 : (Nat → Int32)) (mo_readX_39 : (Nat → Int32)) (mo_readY_40 : (Nat → Int32)) (mo_readDiffers_41 : (Nat → Int64)) =>
                  lp (f_Mo_readAll_L317 n i9
                    (fun (mo_at_98 : Int32) (mo_refused_99 : Int32) =>
                      if mo_refused_99 = 0 then
                        if ((8 : Int32) * n) ≤ mo_at_98 then
                          some (mo_at_98, mo_refused_99, mo_readMany_36, (upd (upd (upd (upd RW0 ((2 : Int32)).toNatClampNeg r5) ((1 : Int32)).toNatClampNeg r8) ((0 : Int32)).toNatClampNeg r11) ((3 : Int32)).toNatClampNeg r14), mo_row_37, le, cd, mo_readSymbol_38, mo_readX_39, mo_readY_40, mo_readDiffers_41)
                        else
                          bd (f_Mo_refuse mo_refused_99 (9 : Int32)) fun mo_refused_104 =>
                          some (mo_at_98, mo_refused_104, mo_readMany_36, (upd (upd (upd (upd RW0 ((2 : Int32)).toNatClampNeg r5) ((1 : Int32)).toNatClampNeg r8) ((0 : Int32)).toNatClampNeg r11) ((3 : Int32)).toNatClampNeg r14), mo_row_37, le, cd, mo_readSymbol_38, mo_readX_39, mo_readY_40, mo_readDiffers_41)
                      else
                        some (mo_at_98, mo_refused_99, mo_readMany_36, (upd (upd (upd (upd RW0 ((2 : Int32)).toNatClampNeg r5) ((1 : Int32)).toNatClampNeg r8) ((0 : Int32)).toNatClampNeg r11) ((3 : Int32)).toNatClampNeg r14), mo_row_37, le, cd, mo_readSymbol_38, mo_readX_39, mo_readY_40, mo_readDiffers_41))) FU (mo_at_34, mo_refused_35)) (ci, pi, ri, roi, soi, xi, yi, di) (p9, r9, many, RW1, row8, le8, cd8, rS1, rX1, rY1, rD1) := by
    by_cases c : u3 = 0
    · obtain ⟨ev, v40, v00⟩ := hv3 (mU c)
      subst ev
      subst c
      exact (rins_F (N := v9) hB hw hh hWY hd v00 v40  FU).1 0 0 (-17) pt 1 0 z rb sO xs ys rS rX rY df rD FU _ _ p0_0 v00 hP4 li_0 hRE hRW (Or.inl ⟨rfl, rfl, rfl⟩) hx hb
    · obtain ⟨g1, g2⟩ := l12_k_F c rfl hx
      dsimp only at g1 g2
      obtain ⟨gz, egz, hb⟩ := lpx0 hb
      unfold f_Mo_readAll_L118 at hb
      dsimp only at hb
      rw [if_neg c] at hb
      refine ⟨_, _, _, _, _, _, by dsimp only; rw [g1, g2]; exact hb, by dsimp only; rw [g1, g2]; exact hP4, fun z => absurd (by rw [← g2]; exact z) c⟩
  obtain ⟨mn, rw9, sR, xR, yR, dR, hk, hPq, hq⟩ := rq
  try dsimp only at hk
  try dsimp only at hPq
  try dsimp only at hq
  try dsimp only at ha
  obtain ⟨x, hxe, ha⟩ := bd_e ha
  obtain ⟨pe, re⟩ := x
  obtain ⟨ed, hPe, hm⟩ := end2 (K := fun pp qq => (pp, qq, mn, (upd (upd (upd (upd RW0 ((2 : Int32)).toNatClampNeg r5) ((1 : Int32)).toNatClampNeg r8) ((0 : Int32)).toNatClampNeg r11) ((3 : Int32)).toNatClampNeg r14), rw9, le, cd, sR, xR, yR, dR)) (fun _ _ _ => rfl) hB hPq hxe hk
  simp only [Option.some.injEq, Prod.mk.injEq] at ha ed
  obtain ⟨a1, a2, a3, a4, a5, a6, a7, a8, a9, a10⟩ := ha
  obtain ⟨b1, b2, b3, b4, b5, b6, b7, b8', b9, b10, b11⟩ := ed
  refine ⟨by rw [← a1, ← a4], by rw [b1, a3], by rw [b2, a4], by rw [← a3, ← a4]; exact hPe, fun z => ?_⟩
  have z0 := hm (by rw [a4]; exact z)
  obtain ⟨h1, h2, h3, h4⟩ := hq z0
  rw [b3, b4, ← a2, ← a5, b8', b9, b10, b11, ← a7, ← a8, ← a9, ← a10]
  exact ⟨h1, h2, h3, hWY, h4⟩
