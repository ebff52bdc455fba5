/-! DRAFT: ordering, in step -/
/-- whatever was told before, the class tells this layout in so many bits, and keeps no byte -/
def TBF (n dc : Int32) (w h W seq  sO xs ys : Nat → Int32) (df : Nat → Int64) (bits : Int32) : Prop := ∀ (tc0 : Int32) (b0 : Nat → Int32) (row : Nat → Int32) (Rs : Int32 × Int32 × Int32 × Int32 × (Nat → Int32) × (Nat → Int32)), f_Teller_tellAll_F n tc0 b0 W row seq sO xs dc w ys h df 0 = some Rs → bits = Rs.1 ∧ tc0 = Rs.2.2.2.1 ∧ b0 = Rs.2.2.2.2.1
theorem tb_of_F {n dc : Int32} {w h W W9 seq  sO xs ys sO9 xs9 ys9 ord0 o row cd le wt us ov : Nat → Int32} {df df9 : Nat → Int64} {out : Int32 × Int32 × (Nat → Int32) × (Nat → Int32) × (Nat → Int32) × (Nat → Int32) × (Nat → Int32) × (Nat → Int32) × (Nat → Int32) × (Nat → Int32)} (hO : OK9 n dc w h W W9 seq sO xs ys df sO9 xs9 ys9 df9) (hd : dc.toInt ≤ 16)  (hb : f_Mo_tellAll 1 dc n ord0 W9 ys9 h sO9 xs9 w o row cd le df9 wt us ov 0 = some out) : TBF n dc w h W seq  sO xs ys df out.1 := by
  intro tc0 b0 rowX Rs ha
  obtain ⟨hT, e⟩ := tall_F hO.1 hO.2.1 (fun ord => hO.2.2 ord0 ord) hd  ha hb
  refine ⟨e.symm, ?_⟩
  rcases hT with ⟨q, _⟩ | ⟨_, _, q2, q3, _⟩
  · exact absurd q (by decide)
  · exact ⟨q2.symm, q3.symm⟩
theorem out_of_F {n dc : Int32} {w h W W9 seq  sO xs ys sO9 xs9 ys9 ord0 o row cd le wt us ov : Nat → Int32} {df df9 : Nat → Int64} {tc0 : Int32} {b0 rowX : Nat → Int32} {Rs : Int32 × Int32 × Int32 × Int32 × (Nat → Int32) × (Nat → Int32)} {out : Int32 × Int32 × (Nat → Int32) × (Nat → Int32) × (Nat → Int32) × (Nat → Int32) × (Nat → Int32) × (Nat → Int32) × (Nat → Int32) × (Nat → Int32)} (hO : OK9 n dc w h W W9 seq sO xs ys df sO9 xs9 ys9 df9) (hd : dc.toInt ≤ 16)  (ha : f_Teller_tellAll_F n tc0 b0 W rowX seq sO xs dc w ys h df 0 = some Rs) (hb : f_Mo_tellAll 1 dc n ord0 W9 ys9 h sO9 xs9 w o row cd le df9 wt us ov 0 = some out) : o = out.2.2.2.1 := by
  obtain ⟨hT, e⟩ := tall_F hO.1 hO.2.1 (fun ord => hO.2.2 ord0 ord) hd  ha hb
  rcases hT with ⟨q, _⟩ | ⟨_, _, _, _, q4⟩
  · exact absurd q (by decide)
  · exact q4.symm
set_option maxRecDepth 4000 in
set_option maxHeartbeats 8000000 in
theorem chg_F {n dc T0 bits told keeps : Int32} {w h W W9 seq  B0 O0 sO xs ys sO9 xs9 ys9 ord row9 cd le wt us ov row : Nat → Int32} {df df9 : Nat → Int64} {x : Int32 × Int32 × Int32 × Int32 × (Nat → Int32) × (Nat → Int32) × (Nat → Int32) × (Nat → Int32) × (Nat → Int32) × (Nat → Int64)} {d : Int32 × Int32 × Int32 × Int32 × (Nat → Int32) × (Nat → Int32) × (Nat → Int32) × (Nat → Int32) × (Nat → Int32) × (Nat → Int32) × (Nat → Int32) × (Nat → Int32) × (Nat → Int64) × (Nat → Int32) × (Nat → Int32) × (Nat → Int32)} {k149 : Int32 → Int32 → Int32 → Int32 → (Nat → Int32) → (Nat → Int32) → (Nat → Int32) → (Nat → Int32) → (Nat → Int32) → (Nat → Int32) → (Nat → Int32) → (Nat → Int32) → (Nat → Int64) → (Nat → Int32) → (Nat → Int32) → (Nat → Int32) → Option (Int32 × Int32 × Int32 × Int32 × (Nat → Int32) × (Nat → Int32) × (Nat → Int32) × (Nat → Int32) × (Nat → Int32) × (Nat → Int32) × (Nat → Int32) × (Nat → Int32) × (Nat → Int64) × (Nat → Int32) × (Nat → Int32) × (Nat → Int32))} (hO : OK9 n dc w h W W9 seq sO xs ys df sO9 xs9 ys9 df9) (hd : dc.toInt ≤ 16)  (hTB : TBF n dc w h W seq  sO xs ys df bits)
    (ha : f_Top_changeNeighbours_F n T0 B0 W row seq sO xs dc w ys h df = some x) (hb : lp (f_Mo_order_L72 n W9 h w 1 dc k149) FU (0, 0, bits, told, keeps, ord, ys9, sO9, xs9, O0, row9, cd, le, df9, wt, us, ov) = some d) :
    ∃ (more bits1 told1 keeps1 : Int32) (ord1 ysR sOR xsR rowR cd1 le1 wt1 us1 ov1 : Nat → Int32) (dfR : Nat → Int64), k149 more bits1 told1 keeps1 ord1 ysR sOR xsR O0 rowR cd1 le1 dfR wt1 us1 ov1 = some d ∧ x.1 = more ∧ x.2.2.2.1 = T0 ∧ x.2.2.2.2.1 = B0 ∧ OK9 n dc w h W W9 seq x.2.2.2.2.2.2.1 x.2.2.2.2.2.2.2.1 x.2.2.2.2.2.2.2.2.1 x.2.2.2.2.2.2.2.2.2 sOR xsR ysR dfR ∧ TBF n dc w h W seq  x.2.2.2.2.2.2.1 x.2.2.2.2.2.2.2.1 x.2.2.2.2.2.2.2.2.1 x.2.2.2.2.2.2.2.2.2 bits1 := by
  have n0 := hO.1.1
  have n40 := hO.1.2.1
  have hW := hO.1.2.2.1
  unfold f_Top_changeNeighbours_F at ha
  obtain ⟨y, hy, ha⟩ := bd_e ha
  obtain ⟨rY, kY, cY, tcY, byY, roY⟩ := y
  obtain ⟨e1, e2, e3⟩ := hTB _ _ _ _ hy
  dsimp only at e1 e2 e3 ha
  subst e1 e2 e3
  refine lp_two (fun (s : Int32 × Int32 × Int32 × Int32 × Int32 × Int32 × (Nat → Int32) × (Nat → Int32) × (Nat → Int32) × (Nat → Int32) × (Nat → Int32) × (Nat → Int64)) (t : Int32 × Int32 × Int32 × Int32 × Int32 × (Nat → Int32) × (Nat → Int32) × (Nat → Int32) × (Nat → Int32) × (Nat → Int32) × (Nat → Int32) × (Nat → Int32) × (Nat → Int32) × (Nat → Int64) × (Nat → Int32) × (Nat → Int32) × (Nat → Int32)) => s.1 = t.1 ∧ 0 ≤ s.1.toInt ∧ s.2.1 = t.2.2.1 ∧ s.2.2.1 = t.2.1 ∧ s.2.2.2.2.2.1 = T0 ∧ s.2.2.2.2.2.2.1 = B0 ∧ O0 = t.2.2.2.2.2.2.2.2.2.1 ∧ OK9 n dc w h W W9 seq s.2.2.2.2.2.2.2.2.1 s.2.2.2.2.2.2.2.2.2.1 s.2.2.2.2.2.2.2.2.2.2.1 s.2.2.2.2.2.2.2.2.2.2.2 t.2.2.2.2.2.2.2.1 t.2.2.2.2.2.2.2.2.1 t.2.2.2.2.2.2.1 t.2.2.2.2.2.2.2.2.2.2.2.2.2.1 ∧ TBF n dc w h W seq  s.2.2.2.2.2.2.2.2.1 s.2.2.2.2.2.2.2.2.2.1 s.2.2.2.2.2.2.2.2.2.2.1 s.2.2.2.2.2.2.2.2.2.2.2 t.2.2.1)
    (fun (x : Int32 × Int32 × Int32 × Int32 × (Nat → Int32) × (Nat → Int32) × (Nat → Int32) × (Nat → Int32) × (Nat → Int32) × (Nat → Int64)) (d : Int32 × Int32 × Int32 × Int32 × (Nat → Int32) × (Nat → Int32) × (Nat → Int32) × (Nat → Int32) × (Nat → Int32) × (Nat → Int32) × (Nat → Int32) × (Nat → Int32) × (Nat → Int64) × (Nat → Int32) × (Nat → Int32) × (Nat → Int32)) => ∃ (more bits1 told1 keeps1 : Int32) (ord1 ysR sOR xsR rowR cd1 le1 wt1 us1 ov1 : Nat → Int32) (dfR : Nat → Int64), k149 more bits1 told1 keeps1 ord1 ysR sOR xsR O0 rowR cd1 le1 dfR wt1 us1 ov1 = some d ∧ x.1 = more ∧ x.2.2.2.1 = T0 ∧ x.2.2.2.2.1 = B0 ∧ OK9 n dc w h W W9 seq x.2.2.2.2.2.2.1 x.2.2.2.2.2.2.2.1 x.2.2.2.2.2.2.2.2.1 x.2.2.2.2.2.2.2.2.2 sOR xsR ysR dfR ∧ TBF n dc w h W seq  x.2.2.2.2.2.2.1 x.2.2.2.2.2.2.2.1 x.2.2.2.2.2.2.2.2.1 x.2.2.2.2.2.2.2.2.2 bits1) ?_ _ _ _ _ ?_ x d ha hb
  · intro f g hfg s t hI x d ha hb
    obtain ⟨i, ls, ch, k1, c1, t1, b1, ro1, s1, x1, y1, d1⟩ := s
    obtain ⟨i9, mo, bi, to, ke, or9, y9, s9, x9, o9, r9, cd9, le9, d9, wt9, us9, ov9⟩ := t
    dsimp only at hI
    obtain ⟨ei, i0, el, ec, et, eb, eo, hO, hTB⟩ := hI
    subst ei el ec eo
    unfold f_Top_changeNeighbours_F_L17 at ha
    unfold f_Mo_order_L72 at hb
    dsimp only at ha hb
    by_cases c : n ≤ i + 1
    · rw [if_pos c] at ha hb
      obtain ⟨_, ha⟩ := bz_e ha
      have ha := Option.some.inj ha
      subst ha
      exact ⟨_, _, _, _, _, _, _, _, _, _, _, _, _, _, _, hb, rfl, et, eb, hO, hTB⟩
    · rw [if_neg c] at ha hb
      have c9 := t_lt (Int32.not_le.mp c)
      have i100 : i.toInt ≤ 1000000 := by
        by_cases q : i.toInt ≤ 1000000
        · exact q
        · exfalso
          obtain ⟨r, hr, _⟩ := bd_e ha
          unfold f_Layout_strip f_Layout_cornerT at hr
          obtain ⟨r2, hr2, _⟩ := bd_e hr
          obtain ⟨tu, htu, hr2⟩ := bd_e hr2
          by_cases z : tu = 0
          · rw [if_pos z] at hr2
            have := gq_lt (gq_e hr2).1
            omega
          · rw [if_neg z] at hr2
            have := gq_lt (gq_e hr2).1
            omega
      have ii := inc_i (k := i) (by omega) i100
      have es := hO.1.2.2.2.1
      have ex := hO.1.2.2.2.2.1
      have ey := hO.1.2.2.2.2.2.1
      obtain ⟨a1, ha1, ha⟩ := bd_e ha
      obtain ⟨a2, ha2, ha⟩ := bd_e ha
      obtain ⟨b3, hb3, hb⟩ := bd_e hb
      obtain ⟨b4, hb4, hb⟩ := bd_e hb
      have e13 := strip2 hW (px_at es i0 (by omega)) (px_at ex i0 (by omega)) (px_at ey i0 (by omega)) ha1 hb3
      have e24 := strip2 hW (px_at es (p := i + 1) (by omega) (by omega)) (px_at ex (p := i + 1) (by omega) (by omega)) (px_at ey (p := i + 1) (by omega) (by omega)) ha2 hb4
      obtain ⟨jA, ejA, ha⟩ := jn_e ha
      obtain ⟨jB, ejB, hb⟩ := jn_e hb
      dsimp only [nl] at ejA ejB
      by_cases q : a1 = a2
      · have q9 : b3 = b4 := by rw [← e13, ← e24]; exact q
        rw [if_pos q] at ha
        rw [if_pos q9] at hb
        obtain ⟨x, hx, ha⟩ := bd_e ha
        obtain ⟨y, hy2, hb⟩ := bd_e hb
        obtain ⟨s2, x2, y2, d2⟩ := x
        obtain ⟨s8, x8, y8, d8⟩ := y
        obtain ⟨g1, g2, g3, g4⟩ := swap_e hx
        obtain ⟨g5, g6, g7, g8⟩ := change_e hy2
        have hO2 := ok9_swap hO i0 (by omega) (by rw [hb3, hb4, q9])

        subst g1 g2 g3 g4 g5 g6 g7 g8
        dsimp only at ha hb
        obtain ⟨x, hx3, ha⟩ := bd_e ha
        obtain ⟨y, hy3, hb⟩ := bd_e hb
        have hTB2 := tb_of_F hO2 hd  hy3
        have hou := out_of_F hO2 hd  hx3 hy3
        have hr := hTB2 _ _ _ _ hx3
        obtain ⟨rY2, kY2, cY2, tY2, bY2, roY2⟩ := x
        obtain ⟨tl, kz, orz, oz, rz, cz, lz, wz, uz, vz⟩ := y
        dsimp only at ha hb hTB2 hou hr
        obtain ⟨h1, h2, h3⟩ := hr
        subst h1 hou
        by_cases z : ls ≤ tl
        · rw [if_pos z] at ha hb
          obtain ⟨x, hx4, ha⟩ := bd_e ha
          obtain ⟨y, hy4, hb⟩ := bd_e hb
          obtain ⟨s5, x5, y5, d5⟩ := x
          obtain ⟨s6, x6, y6, d6⟩ := y
          obtain ⟨g1, g2, g3, g4⟩ := swap_e hx4
          obtain ⟨g5, g6, g7, g8⟩ := change_e hy4
          rw [sw_sw] at g1 g2 g3 g5 g6 g7
          rw [swL_sw] at g4 g8
          subst g1 g2 g3 g4 g5 g6 g7 g8
          dsimp only at ha hb
          rw [ejA] at ha
          rw [ejB] at hb
          exact hfg (i + 1, ls, ch, kY2, cY2, tY2, bY2, roY2, s1, x1, y1, d1) (i + 1, ch, ls, tl, kz, orz, y9, s9, x9, O0, rz, cz, lz, d9, wz, uz, vz) ⟨rfl, by show 0 ≤ (i + 1).toInt; omega, rfl, rfl, h2.symm.trans et, h3.symm.trans eb, rfl, hO, hTB⟩ x d ha hb
        · rw [if_neg z] at ha hb
          rw [ejA] at ha
          rw [ejB] at hb
          exact hfg (i + 1, tl, 1, kY2, cY2, tY2, bY2, roY2, sw s1 i.toNatClampNeg (i + 1).toNatClampNeg, sw x1 i.toNatClampNeg (i + 1).toNatClampNeg, sw y1 i.toNatClampNeg (i + 1).toNatClampNeg, swL d1 i.toNatClampNeg (i + 1).toNatClampNeg) (i + 1, 1, tl, tl, kz, orz, sw y9 i.toNatClampNeg (i + 1).toNatClampNeg, sw s9 i.toNatClampNeg (i + 1).toNatClampNeg, sw x9 i.toNatClampNeg (i + 1).toNatClampNeg, O0, rz, cz, lz, swL d9 i.toNatClampNeg (i + 1).toNatClampNeg, wz, uz, vz) ⟨rfl, by show 0 ≤ (i + 1).toInt; omega, rfl, rfl, h2.symm.trans et, h3.symm.trans eb, rfl, hO2, hTB2⟩ x d ha hb
      · have q9 : ¬ b3 = b4 := by rw [← e13, ← e24]; exact q
        rw [if_neg q] at ha
        rw [if_neg q9] at hb
        rw [ejA] at ha
        rw [ejB] at hb
        exact hfg (i + 1, ls, ch, k1, c1, t1, b1, ro1, s1, x1, y1, d1) (i + 1, ch, ls, to, ke, or9, y9, s9, x9, O0, r9, cd9, le9, d9, wt9, us9, ov9) ⟨rfl, by show 0 ≤ (i + 1).toInt; omega, rfl, rfl, et, eb, rfl, hO, hTB⟩ x d ha hb
  · exact ⟨rfl, p0_0, rfl, rfl, rfl, rfl, rfl, hO, hTB⟩
