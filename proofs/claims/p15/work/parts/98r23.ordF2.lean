set_option maxRecDepth 4000 in
set_option maxHeartbeats 8000000 in
theorem ord_F {n dc kp c tc p0 told keeps : Int32} {w h W W9 seq  b o sO xs ys sO9 xs9 ys9 ord row9 cd le wt us ov row : Nat → Int32} {df df9 : Nat → Int64} {a : String ⊕ (Int32 × (Nat → Int32) × (Nat → Int32) × (Nat → Int32) × (Nat → Int32) × Int32 × Int32 × Int32 × (Nat → Int32) × (Nat → Int32) × (Nat → Int64))} {d : Int32 × Int32 × Int32 × Int32 × (Nat → Int32) × (Nat → Int32) × (Nat → Int32) × (Nat → Int32) × (Nat → Int32) × (Nat → Int32) × (Nat → Int32) × (Nat → Int32) × (Nat → Int64) × (Nat → Int32) × (Nat → Int32) × (Nat → Int32)} (hL : LR n dc w h W sO xs ys df W9 sO9 xs9 ys9 df9) (hM : MR W9 ys9 h sO9 xs9 w) (hd : dc.toInt ≤ 16) (hEx : ∀ sq, f_Layout_arrange n W ys sO h xs w seq = some sq → ∃ Rs, f_Teller_tellAll_F n tc b W row sq sO xs dc w ys h df 0 = some Rs)
    (ha : f_Top_order_F n W ys sO dc h xs w seq kp c tc b row df p0 = some a) (hb : f_Mo_order 1 dc n told keeps ord W9 ys9 h sO9 xs9 w o row9 cd le df9 wt us ov p0 = some d) :
    (a = .inl "java/lang/IllegalArgumentException" ∧ d = (0, 1, told, keeps, ord, ys9, sO9, xs9, o, row9, cd, le, df9, wt, us, ov)) ∨
    (∃ (r kp1 c1 told1 keeps1 : Int32) (ys1 sO1 xs1 seq1 ord1 row1 ysR sOR xsR rowR cd1 le1 wt1 us1 ov1 : Nat → Int32) (df1 dfR : Nat → Int64), a = .inr (r, ys1, sO1, xs1, seq1, kp1, c1, tc, b, row1, df1) ∧ d = (r, 0, told1, keeps1, ord1, ysR, sOR, xsR, o, rowR, cd1, le1, dfR, wt1, us1, ov1) ∧ LR n dc w h W sO1 xs1 ys1 df1 W9 sOR xsR ysR dfR) := by
  have n0 := hL.1
  have n40 := hL.2.1
  have n00 : (0 : Int32) ≤ n := Int32.le_iff_toInt_le.mpr (by rw [z_0]; exact n0)
  have n11 : n ≤ 40 := Int32.le_iff_toInt_le.mpr (by rw [z_40]; exact n40)
  have hW := hL.2.2.1
  have w3 := (wy_e hW).2.2.2.1
  unfold f_Top_order_F at ha
  unfold f_Mo_order at hb
  obtain ⟨z1, hz1, ha⟩ := bd_e ha
  obtain ⟨z2, hz2, hb⟩ := bd_e hb
  rw [same_in] at hz2
  have ez := Option.some.inj (hz1.symm.trans hz2)
  subst ez
  dsimp only [jn] at hb
  by_cases cz : z1 = 0
  · rw [if_pos cz] at ha hb
    first | rw [if_neg (by decide)] at hb | rw [if_neg id] at hb
    exact Or.inl ⟨(Option.some.inj ha).symm, (Option.some.inj hb).symm⟩
  · right
    rw [if_neg cz] at ha hb
    rw [if_pos (by decide)] at hb
    obtain ⟨y, hy, ha⟩ := bd_e ha
    unfold f_Teller_prepare_F at hy
    obtain ⟨sq, hsq, hy⟩ := bd_e hy
    obtain ⟨_, _, hy⟩ := bd_e hy
    have hy := Option.some.inj hy
    subst hy
    dsimp only at ha
    have hO : OK9 n dc w h W W9 sq sO xs ys df sO9 xs9 ys9 df9 := ⟨hL, hM, fun ord0 ord1 ho => arrange2 n00 n11 hW hL.2.2.2.1 hL.2.2.2.2.1 hL.2.2.2.2.2.1 hsq ho⟩
    obtain ⟨_, ha⟩ := gq_e ha
    obtain ⟨x, hx, hb⟩ := bd_e hb
    have hTB := tb_of_F hO hd  hx
    have eo : o = x.2.2.2.1 := by
      obtain ⟨Rs, hRs⟩ := hEx sq hsq
      exact out_of_F hO hd  hRs hx
    obtain ⟨tl, kz, orz, oz, rz, cz9, lz, wz, uz, vz⟩ := x
    dsimp only at hb hTB eo
    subst eo
    obtain ⟨_, hb⟩ := gq_e hb
    obtain ⟨j68, ej68, ha⟩ := jn_e ha
    have fin : ∀ (ysA sOA xsA bA roA : Nat → Int32) (kA cA tA bits told1 keeps1 : Int32) (dfA dfR : Nat → Int64) (ysR sOR xsR ord1 rowR cd1 le1 wt1 us1 ov1 : Nat → Int32), tc = tA → b = bA → OK9 n dc w h W W9 sq sOA xsA ysA dfA sOR xsR ysR dfR → TBF n dc w h W sq  sOA xsA ysA dfA bits → j68 ysA sOA xsA kA cA tA bA roA dfA = some a → d = (bits, 0, told1, keeps1, ord1, ysR, sOR, xsR, o, rowR, cd1, le1, dfR, wt1, us1, ov1) →
        ∃ (r kp1 c1 told1 keeps1 : Int32) (ys1 sO1 xs1 seq1 ord1 row1 ysR sOR xsR rowR cd1 le1 wt1 us1 ov1 : Nat → Int32) (df1 dfR : Nat → Int64), a = .inr (r, ys1, sO1, xs1, seq1, kp1, c1, tc, b, row1, df1) ∧ d = (r, 0, told1, keeps1, ord1, ysR, sOR, xsR, o, rowR, cd1, le1, dfR, wt1, us1, ov1) ∧ LR n dc w h W sO1 xs1 ys1 df1 W9 sOR xsR ysR dfR := by
      intro ysA sOA xsA bA roA kA cA tA bits told1 keeps1 dfA dfR ysR sOR xsR ord1 rowR cd1 le1 wt1 us1 ov1 et eb hO hTB ha hd9
      subst et eb
      rw [ej68] at ha
      obtain ⟨x, hx, ha⟩ := bd_e ha
      obtain ⟨f1, f2, f3⟩ := hTB _ _ _ _ hx
      obtain ⟨rX, kX, cX, tX, bX, roX⟩ := x
      dsimp only at f1 f2 f3 ha
      subst f1 f2 f3
      have ha := Option.some.inj ha
      subst ha
      exact ⟨_, _, _, _, _, _, _, _, _, _, _, _, _, _, _, _, _, _, _, _, _, _, rfl, hd9, hO.1⟩
    have main : ∀ s13 : Int32, lp (f_Mo_order_L57 p0 0 n W9 h w 1 dc) FU (0, s13, tl, tl, kz, orz, ys9, sO9, xs9, o, rz, cz9, lz, df9, wz, uz, vz) = some d → (s13 = 0 → j68 ys sO xs kp c tc b row df = some a) → (s13 = 1 → lp (f_Top_order_F_L48 p0 j68 n W sq dc w h) FU (0, 1, ys, sO, xs, kp, c, tc, b, row, df) = some a) → (s13 = 0 ∨ s13 = 1) → ∃ (r kp1 c1 told1 keeps1 : Int32) (ys1 sO1 xs1 seq1 ord1 row1 ysR sOR xsR rowR cd1 le1 wt1 us1 ov1 : Nat → Int32) (df1 dfR : Nat → Int64), a = .inr (r, ys1, sO1, xs1, seq1, kp1, c1, tc, b, row1, df1) ∧ d = (r, 0, told1, keeps1, ord1, ysR, sOR, xsR, o, rowR, cd1, le1, dfR, wt1, us1, ov1) ∧ LR n dc w h W sO1 xs1 ys1 df1 W9 sOR xsR ysR dfR := by
      intro s13 hb h0 h1 h01
      rcases h01 with q | q
      · have ha := h0 q
        obtain ⟨gx, egx, hb⟩ := lpx0 hb
        unfold f_Mo_order_L57 at hb
        dsimp only at hb
        have hb : some (tl, (0 : Int32), tl, kz, orz, ys9, sO9, xs9, o, rz, cz9, lz, df9, wz, uz, vz) = some d := by
          by_cases z : p0 ≤ 0
          · rw [if_pos z] at hb; exact hb
          · rw [if_neg z, if_pos q] at hb; exact hb
        exact fin ys sO xs b row kp c tc tl tl kz df df9 ys9 sO9 xs9 orz rz cz9 lz wz uz vz rfl rfl hO hTB ha (Option.some.inj hb).symm
      · have ha := h1 q
        subst q
        clear h0 h1
        refine lp_two (fun (s : Int32 × Int32 × (Nat → Int32) × (Nat → Int32) × (Nat → Int32) × Int32 × Int32 × Int32 × (Nat → Int32) × (Nat → Int32) × (Nat → Int64)) (t : Int32 × Int32 × Int32 × Int32 × Int32 × (Nat → Int32) × (Nat → Int32) × (Nat → Int32) × (Nat → Int32) × (Nat → Int32) × (Nat → Int32) × (Nat → Int32) × (Nat → Int32) × (Nat → Int64) × (Nat → Int32) × (Nat → Int32) × (Nat → Int32)) => s.1 = t.1 ∧ s.2.1 = t.2.1 ∧ tc = s.2.2.2.2.2.2.2.1 ∧ b = s.2.2.2.2.2.2.2.2.1 ∧ o = t.2.2.2.2.2.2.2.2.2.1 ∧ OK9 n dc w h W W9 sq s.2.2.2.1 s.2.2.2.2.1 s.2.2.1 s.2.2.2.2.2.2.2.2.2.2 t.2.2.2.2.2.2.2.1 t.2.2.2.2.2.2.2.2.1 t.2.2.2.2.2.2.1 t.2.2.2.2.2.2.2.2.2.2.2.2.2.1 ∧ TBF n dc w h W sq  s.2.2.2.1 s.2.2.2.2.1 s.2.2.1 s.2.2.2.2.2.2.2.2.2.2 t.2.2.1)
          (fun (a : String ⊕ (Int32 × (Nat → Int32) × (Nat → Int32) × (Nat → Int32) × (Nat → Int32) × Int32 × Int32 × Int32 × (Nat → Int32) × (Nat → Int32) × (Nat → Int64))) (d : Int32 × Int32 × Int32 × Int32 × (Nat → Int32) × (Nat → Int32) × (Nat → Int32) × (Nat → Int32) × (Nat → Int32) × (Nat → Int32) × (Nat → Int32) × (Nat → Int32) × (Nat → Int64) × (Nat → Int32) × (Nat → Int32) × (Nat → Int32)) => ∃ (r kp1 c1 told1 keeps1 : Int32) (ys1 sO1 xs1 seq1 ord1 row1 ysR sOR xsR rowR cd1 le1 wt1 us1 ov1 : Nat → Int32) (df1 dfR : Nat → Int64), a = .inr (r, ys1, sO1, xs1, seq1, kp1, c1, tc, b, row1, df1) ∧ d = (r, 0, told1, keeps1, ord1, ysR, sOR, xsR, o, rowR, cd1, le1, dfR, wt1, us1, ov1) ∧ LR n dc w h W sO1 xs1 ys1 df1 W9 sOR xsR ysR dfR) ?_ _ _ _ _ ?_ a d ha hb
        · intro f g hfg s t hI a d ha hb
          obtain ⟨i, ch, y1, s1, x1, k1, c1, t1, b1, ro1, d1⟩ := s
          obtain ⟨i9, mo, bi, to, ke, or9, y9, s9, x9, o9, r9, cd9, le9, d9, wt9, us9, ov9⟩ := t
          dsimp only at hI
          obtain ⟨ei, ec, et, eb, eo, hO, hTB⟩ := hI
          subst ei ec eo
          unfold f_Top_order_F_L48 at ha
          unfold f_Mo_order_L57 at hb
          dsimp only [nl] at ha hb
          have fin2 : j68 y1 s1 x1 k1 c1 t1 b1 ro1 d1 = some a → some (bi, (0 : Int32), to, ke, or9, y9, s9, x9, o, r9, cd9, le9, d9, wt9, us9, ov9) = some d → ∃ (r kp1 c1 told1 keeps1 : Int32) (ys1 sO1 xs1 seq1 ord1 row1 ysR sOR xsR rowR cd1 le1 wt1 us1 ov1 : Nat → Int32) (df1 dfR : Nat → Int64), a = .inr (r, ys1, sO1, xs1, seq1, kp1, c1, tc, b, row1, df1) ∧ d = (r, 0, told1, keeps1, ord1, ysR, sOR, xsR, o, rowR, cd1, le1, dfR, wt1, us1, ov1) ∧ LR n dc w h W sO1 xs1 ys1 df1 W9 sOR xsR ysR dfR := by
            intro ha hb
            subst et eb
            rw [ej68] at ha
            obtain ⟨x, hx, ha⟩ := bd_e ha
            obtain ⟨f1, f2, f3⟩ := hTB _ _ _ _ hx
            obtain ⟨rX, kX, cX, tX, bX, roX⟩ := x
            dsimp only at f1 f2 f3 ha
            subst f1 f2 f3
            have ha := Option.some.inj ha
            subst ha
            exact ⟨_, _, _, _, _, _, _, _, _, _, _, _, _, _, _, _, _, _, _, _, _, _, rfl, (Option.some.inj hb).symm, hO.1⟩
          by_cases q1 : p0 ≤ i
          · rw [if_pos q1] at ha hb
            exact fin2 ha hb
          · rw [if_neg q1] at ha hb
            by_cases q2 : ch = 0
            · rw [if_pos q2] at ha hb
              exact fin2 ha hb
            · rw [if_neg q2] at ha hb
              obtain ⟨x, hx, ha⟩ := bd_e ha
              subst et eb
              obtain ⟨more, bits1, told1, keeps1, ord1, ysR, sOR, xsR, rowR, cdR, leR, wtR, usR, ovR, dfR, hk, g1, g2, g3, hO2, hTB2⟩ := chg_F hO hd  hTB hx hb
              obtain ⟨xa, xb, xc, xd, xe, xf, xg, xh, xi, xj⟩ := x
              dsimp only at ha hk g1 g2 g3 hO2 hTB2
              exact hfg (i + 1, xa, xi, xg, xh, xb, xc, xd, xe, xf, xj) (i + 1, more, bits1, told1, keeps1, ord1, ysR, sOR, xsR, o, rowR, cdR, leR, dfR, wtR, usR, ovR) ⟨rfl, g1, g2.symm, g3.symm, rfl, hO2, hTB2⟩ a d ha hk
        · exact ⟨rfl, rfl, rfl, rfl, rfl, hO, hTB⟩
    try dsimp only [jn] at hb
    rw [w3] at ha
    by_cases q : W9 ((3 : Int32)).toNatClampNeg = 4
    · rw [if_pos q] at ha hb
      exact main 0 hb (fun _ => ha) (fun z => absurd z (by decide)) (Or.inl rfl)
    · rw [if_neg q] at ha hb
      exact main 1 hb (fun z => absurd z (by decide)) (fun _ => ha) (Or.inr rfl)
