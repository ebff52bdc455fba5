/-! calls, in step: write, order, read -/
theorem told_8 {c : Int32} (c0 : 0 ≤ c.toInt) (c1 : c.toInt ≤ 16000) : ((c + 7) / 8).toInt = (c.toInt + 7) / 8 := by
  have z7 : (7 : Int32).toInt = 7 := rfl
  have e : (c + 7).toInt = c.toInt + 7 := by rw [ya (by rw [z7]; omega) (by rw [z7]; omega), z7]
  rw [div8 (by omega), e]
theorem TL_1 {T0 c tc c9 : Int32} {B0 O0 b o : Nat → Int32} (h : TL 1 T0 B0 O0 c tc b c9 o) : tc = (c9 + 7) / 8 ∧ RB tc b o := by
  rcases h with ⟨_, e, c0, c1, et, hj⟩ | ⟨q, _⟩
  · subst e
    have t8 := told_8 c0 c1
    have e9 : tc = (c + 7) / 8 := Int32.toInt_inj.mp (by rw [t8, et])
    exact ⟨e9, by omega, by omega, hj⟩
  · exact absurd q (by decide)
theorem write_F {n dc tc : Int32} {w h W W9 seq b row sO xs ys sO9 xs9 ys9 ord o9 row9 cd le wt us ov : Nat → Int32} {df df9 : Nat → Int64} {o : Int32 × (Nat → Int32) × Int32 × Int32 × Int32 × (Nat → Int32) × (Nat → Int32)} {m : Int32 × Int32 × Int32 × Int32 × Int32 × (Nat → Int32) × (Nat → Int32) × (Nat → Int32) × (Nat → Int32) × (Nat → Int32) × (Nat → Int32) × (Nat → Int32) × (Nat → Int32)} (hL : LR n dc w h W sO xs ys df W9 sO9 xs9 ys9 df9) (hM : MR W9 ys9 h sO9 xs9 w) (hd : dc.toInt ≤ 16)
    (ha : f_Top_write_F n W ys sO dc h xs w seq tc b row df = some o) (hb : f_Mo_write 1 dc n ord W9 ys9 h sO9 xs9 w o9 row9 cd le df9 wt us ov = some m) : o.1 = m.1 ∧ o.2.2.2.2.1 = m.2.2.2.2.1 ∧ RB m.2.2.2.2.1 o.2.2.2.2.2.1 m.2.2.2.2.2.2.1 := by
  have n0 := hL.1
  have n40 := hL.2.1
  have n00 : (0 : Int32) ≤ n := Int32.le_iff_toInt_le.mpr (by rw [z_0]; exact n0)
  have n11 : n ≤ 40 := Int32.le_iff_toInt_le.mpr (by rw [z_40]; exact n40)
  have hW := hL.2.2.1
  unfold f_Top_write_F at ha
  unfold f_Mo_write at hb
  obtain ⟨y, hy, ha⟩ := bd_e ha
  unfold f_Teller_prepare_F at hy
  obtain ⟨sq, hsq, hy⟩ := bd_e hy
  obtain ⟨_, _, hy⟩ := bd_e hy
  have hy := Option.some.inj hy
  subst hy
  dsimp only at ha
  obtain ⟨Rs, hRs, ha⟩ := bd_e ha
  obtain ⟨x, hx, hb⟩ := bd_e hb
  obtain ⟨hT, _⟩ := tall_F hL hM (fun ord1 ho => arrange2 n00 n11 hW hL.2.2.2.1 hL.2.2.2.2.1 hL.2.2.2.2.2.1 hsq ho) hd hRs hx
  obtain ⟨e1, hB⟩ := TL_1 hT
  obtain ⟨r1, k1, c1, t1, b1, ro1⟩ := Rs
  obtain ⟨tl, kz, orz, oz, rz, cz9, lz, wz, uz, vz⟩ := x
  dsimp only [nl] at ha hb e1 hB
  rw [← Option.some.inj ha, ← Option.some.inj hb]
  refine ⟨e1, e1, ?_⟩
  show RB ((tl + 7) / 8) b1 oz
  rw [← e1]
  exact hB
theorem write_C {n dc tc : Int32} {w h W W9 seq b wtC jtC leC0 cdC0 sO xs ys sO9 xs9 ys9 ord o9 row9 cd le wt us ov : Nat → Int32} {df df9 : Nat → Int64} {o : Int32 × (Nat → Int32) × (Nat → Int32) × (Nat → Int32) × (Nat → Int32) × (Nat → Int32) × Int32 × Int32 × Int32 × (Nat → Int32)} {m : Int32 × Int32 × Int32 × Int32 × Int32 × (Nat → Int32) × (Nat → Int32) × (Nat → Int32) × (Nat → Int32) × (Nat → Int32) × (Nat → Int32) × (Nat → Int32) × (Nat → Int32)} (hL : LR n dc w h W sO xs ys df W9 sO9 xs9 ys9 df9) (hM : MR W9 ys9 h sO9 xs9 w) (hd : dc.toInt ≤ 16)
    (ha : f_Top_write_C n W ys sO dc h xs w seq wtC jtC leC0 cdC0 tc b df = some o) (hb : f_Mo_write 0 dc n ord W9 ys9 h sO9 xs9 w o9 row9 cd le df9 wt us ov = some m) : o.1 = m.1 ∧ o.2.2.2.2.2.2.2.2.1 = m.2.2.2.2.1 ∧ RB m.2.2.2.2.1 o.2.2.2.2.2.2.2.2.2 m.2.2.2.2.2.2.1 := by
  have n0 := hL.1
  have n40 := hL.2.1
  have n00 : (0 : Int32) ≤ n := Int32.le_iff_toInt_le.mpr (by rw [z_0]; exact n0)
  have n11 : n ≤ 40 := Int32.le_iff_toInt_le.mpr (by rw [z_40]; exact n40)
  have hW := hL.2.2.1
  unfold f_Top_write_C at ha
  unfold f_Mo_write at hb
  obtain ⟨y, hy, ha⟩ := bd_e ha
  unfold f_Teller_prepare_C at hy
  obtain ⟨sq, hsq, hy⟩ := bd_e hy
  obtain ⟨su, hsu, hy⟩ := bd_e hy
  obtain ⟨a1C, a2C, leC, cdC⟩ := su
  have hy := Option.some.inj hy
  subst hy
  dsimp only at ha
  have nN := nat_of (n := n) n00
  have hcn : ∀ s : Nat, cnI sO s n.toNatClampNeg = cnI sO9 s n.toNatClampNeg := fun s => cn_px s _ (fun j hj => hL.2.2.2.1 j (by omega))
  obtain ⟨Rs, hRs, ha⟩ := bd_e ha
  obtain ⟨x, hx, hb⟩ := bd_e hb
  obtain ⟨hT, _⟩ := tall_C hL hM (fun ord1 ho => arrange2 n00 n11 hW hL.2.2.2.1 hL.2.2.2.2.1 hL.2.2.2.2.2.1 hsq ho) hd (fun wt1 us1 ov1 le1 cd1 h1 h2 => suit_CD n0 hd hcn hL.2.2.2.2.2.2.2 hsu h1 h2) hRs hx
  obtain ⟨e1, hB⟩ := TL_1 hT
  obtain ⟨r1, k1, c1, t1, b1⟩ := Rs
  obtain ⟨tl, kz, orz, oz, rz, cz9, lz, wz, uz, vz⟩ := x
  dsimp only [nl] at ha hb e1 hB
  rw [← Option.some.inj ha, ← Option.some.inj hb]
  refine ⟨e1, e1, ?_⟩
  show RB ((tl + 7) / 8) b1 oz
  rw [← e1]
  exact hB
theorem ordL_F {n dc kp c tc p : Int32} {out : Nat → Int64} {w h W W9 seq b row sO xs ys sO9 xs9 ys9 ord o9 row9 cd le wt us ov : Nat → Int32} {told keeps : Int32} {df df9 : Nat → Int64} {o : Int32 × (Nat → Int64) × (Nat → Int32) × (Nat → Int32) × (Nat → Int32) × (Nat → Int32) × Int32 × Int32 × Int32 × (Nat → Int32) × (Nat → Int32) × (Nat → Int64)} {m : Int32 × Int32 × Int32 × Int32 × (Nat → Int32) × (Nat → Int32) × (Nat → Int32) × (Nat → Int32) × (Nat → Int32) × (Nat → Int32) × (Nat → Int32) × (Nat → Int32) × (Nat → Int64) × (Nat → Int32) × (Nat → Int32) × (Nat → Int32)} (hL : LR n dc w h W sO xs ys df W9 sO9 xs9 ys9 df9) (hM : MR W9 ys9 h sO9 xs9 w) (hd : dc.toInt ≤ 16) (hEx : ∀ sq, f_Layout_arrange n W ys sO h xs w seq = some sq → ∃ Rs, f_Teller_tellAll_F n tc b W row sq sO xs dc w ys h df 0 = some Rs)
    (ha : f_Law_order_F out n W ys sO dc h xs w seq kp c tc b row df p = some o) (hb : f_Mo_order 1 dc n told keeps ord W9 ys9 h sO9 xs9 w o9 row9 cd le df9 wt us ov p = some m) : o.1 = m.2.1 ∧ (o.1 = 0 → o.2.1 ((0 : Int32)).toNatClampNeg = m.1.toInt64) ∧ o.2.2.2.2.2.2.2.2.1 = tc ∧ o.2.2.2.2.2.2.2.2.2.1 = b ∧ m.2.2.2.2.2.2.2.2.1 = o9 ∧ LR n dc w h W o.2.2.2.1 o.2.2.2.2.1 o.2.2.1 o.2.2.2.2.2.2.2.2.2.2.2 W9 m.2.2.2.2.2.2.1 m.2.2.2.2.2.2.2.1 m.2.2.2.2.2.1 m.2.2.2.2.2.2.2.2.2.2.2.2.1 := by
  unfold f_Law_order_F at ha
  obtain ⟨x, hx, ha⟩ := bd_e ha
  rcases ord_F hL hM hd hEx hx hb with ⟨e1, e2⟩ | ⟨r, kp1, c1, told1, keeps1, ys1, sO1, xs1, seq1, ord1, row1, ysR, sOR, xsR, rowR, cd1, le1, wt1, us1, ov1, df1, dfR, e1, e2, hL1⟩
  · subst e1 e2
    try dsimp only [nl] at ha
    first | rw [if_pos rfl] at ha | rw [if_pos trivial] at ha
    rw [← Option.some.inj ha]
    exact ⟨rfl, fun z => by first | exact no1 z | exact no2 z | exact no3 z, rfl, rfl, rfl, hL⟩
  · subst e1 e2
    try dsimp only [nl] at ha
    obtain ⟨_, ha⟩ := gq_e ha
    rw [← Option.some.inj ha]
    refine ⟨rfl, fun _ => ?_, rfl, rfl, rfl, hL1⟩
    show vp_updL out ((0 : Int32)).toNatClampNeg r.toInt64 ((0 : Int32)).toNatClampNeg = r.toInt64
    exact out_0
theorem ordL_C {n dc kp c tc p : Int32} {out : Nat → Int64} {w h W W9 seq b wtC jtC leC0 cdC0 sO xs ys sO9 xs9 ys9 ord o9 row9 cd le wt us ov : Nat → Int32} {told keeps : Int32} {df df9 : Nat → Int64} {o : Int32 × (Nat → Int64) × (Nat → Int32) × (Nat → Int32) × (Nat → Int32) × (Nat → Int32) × (Nat → Int32) × (Nat → Int32) × (Nat → Int32) × (Nat → Int32) × Int32 × Int32 × Int32 × (Nat → Int32) × (Nat → Int64)} {m : Int32 × Int32 × Int32 × Int32 × (Nat → Int32) × (Nat → Int32) × (Nat → Int32) × (Nat → Int32) × (Nat → Int32) × (Nat → Int32) × (Nat → Int32) × (Nat → Int32) × (Nat → Int64) × (Nat → Int32) × (Nat → Int32) × (Nat → Int32)} (hL : LR n dc w h W sO xs ys df W9 sO9 xs9 ys9 df9) (hM : MR W9 ys9 h sO9 xs9 w) (hd : dc.toInt ≤ 16) (hEx : ∀ sq a1C a2C leC cdC, f_Layout_arrange n W ys sO h xs w seq = some sq → f_CodeNames_suit n wtC jtC sO dc leC0 cdC0 = some (a1C, a2C, leC, cdC) → ∃ Rs, f_Teller_tellAll_C n tc b W dc leC sq sO xs w ys h cdC df 0 = some Rs)
    (ha : f_Law_order_C out n W ys sO dc h xs w seq wtC jtC leC0 cdC0 kp c tc b df p = some o) (hb : f_Mo_order 0 dc n told keeps ord W9 ys9 h sO9 xs9 w o9 row9 cd le df9 wt us ov p = some m) : o.1 = m.2.1 ∧ (o.1 = 0 → o.2.1 ((0 : Int32)).toNatClampNeg = m.1.toInt64) ∧ o.2.2.2.2.2.2.2.2.2.2.2.2.1 = tc ∧ o.2.2.2.2.2.2.2.2.2.2.2.2.2.1 = b ∧ m.2.2.2.2.2.2.2.2.1 = o9 ∧ LR n dc w h W o.2.2.2.1 o.2.2.2.2.1 o.2.2.1 o.2.2.2.2.2.2.2.2.2.2.2.2.2.2 W9 m.2.2.2.2.2.2.1 m.2.2.2.2.2.2.2.1 m.2.2.2.2.2.1 m.2.2.2.2.2.2.2.2.2.2.2.2.1 := by
  unfold f_Law_order_C at ha
  obtain ⟨x, hx, ha⟩ := bd_e ha
  rcases ord_C hL hM hd hEx hx hb with ⟨e1, e2⟩ | ⟨r, kp1, c1, told1, keeps1, ys1, sO1, xs1, seq1, ord1, wA, jA, lA, cA9, ysR, sOR, xsR, rowR, cd1, le1, wt1, us1, ov1, df1, dfR, e1, e2, hL1⟩
  · subst e1 e2
    try dsimp only [nl] at ha
    first | rw [if_pos rfl] at ha | rw [if_pos trivial] at ha
    rw [← Option.some.inj ha]
    exact ⟨rfl, fun z => by first | exact no1 z | exact no2 z | exact no3 z, rfl, rfl, rfl, hL⟩
  · subst e1 e2
    try dsimp only [nl] at ha
    obtain ⟨_, ha⟩ := gq_e ha
    rw [← Option.some.inj ha]
    refine ⟨rfl, fun _ => ?_, rfl, rfl, rfl, hL1⟩
    show vp_updL out ((0 : Int32)).toNatClampNeg r.toInt64 ((0 : Int32)).toNatClampNeg = r.toInt64
    exact out_0
abbrev MRD : Type := Int32 × Int32 × Int32 × Int32 × Int32 × Int32 × Int32 × Int32 × (Nat → Int32) × (Nat → Int32) × (Nat → Int32) × (Nat → Int32) × (Nat → Int32) × (Nat → Int32) × (Nat → Int32) × (Nat → Int64) × (Nat → Int32) × (Nat → Int32) × (Nat → Int32) × (Nat → Int64) × (Nat → Int32)
theorem copy_M {many : Int32} {rS rX rY sO xs ys : Nat → Int32} {rD df : Nat → Int64} {k : (Nat → Int32) → (Nat → Int32) → (Nat → Int32) → (Nat → Int64) → Option MRD} {a : MRD} (m0 : 0 ≤ many.toInt) (m1 : many.toInt ≤ 40) (hb : lp (f_Mo_read_L72 many rS rX rY rD k) FU (0, sO, xs, ys, df) = some a) : ∃ S X Y D, k S X Y D = some a ∧ ∀ j : Nat, (j : Int) < many.toInt → S j = rS j ∧ X j = rX j ∧ Y j = rY j ∧ D j = rD j := by
  refine lp_one (F := f_Mo_read_L72 many rS rX rY rD k) (fun s => 0 ≤ s.1.toInt ∧ s.1.toInt ≤ many.toInt ∧ ∀ j : Nat, (j : Int) < s.1.toInt → s.2.1 j = rS j ∧ s.2.2.1 j = rX j ∧ s.2.2.2.1 j = rY j ∧ s.2.2.2.2 j = rD j) (fun a => ∃ S X Y D, k S X Y D = some a ∧ ∀ j : Nat, (j : Int) < many.toInt → S j = rS j ∧ X j = rX j ∧ Y j = rY j ∧ D j = rD j) ?_ FU (0, sO, xs, ys, df) ⟨p0_0, by show (0 : Int32).toInt ≤ many.toInt; rw [z_0]; exact m0, fun j hj => absurd hj (by show ¬ (j : Int) < (0 : Int32).toInt; rw [z_0]; omega)⟩ a hb
  intro f hf s hI a ha
  obtain ⟨i, S, X, Y, D⟩ := s
  obtain ⟨i0, i1, hg⟩ := hI
  dsimp only at i0 i1 hg
  unfold f_Mo_read_L72 at ha
  dsimp only [nl] at ha
  by_cases c : many ≤ i
  · rw [if_pos c] at ha
    have q := t_le c
    exact ⟨S, X, Y, D, ha, fun j hj => hg j (by omega)⟩
  · rw [if_neg c] at ha
    have q := t_lt (Int32.not_le.mp c)
    obtain ⟨_, ha⟩ := gq_e ha
    obtain ⟨_, ha⟩ := gq_e ha
    obtain ⟨_, ha⟩ := gq_e ha
    obtain ⟨_, ha⟩ := gq_e ha
    obtain ⟨_, ha⟩ := gq_e ha
    obtain ⟨_, ha⟩ := gq_e ha
    obtain ⟨_, ha⟩ := gq_e ha
    obtain ⟨_, ha⟩ := gq_e ha
    have ci := inc_i (k := i) (by omega) (by omega)
    have nn := nat_of (n := i) (Int32.le_iff_toInt_le.mpr (by rw [z_0]; exact i0))
    refine hf (i + 1, _, _, _, _) ⟨by show 0 ≤ (i + 1).toInt; omega, by show (i + 1).toInt ≤ many.toInt; omega, fun j hj => ?_⟩ a ha
    have hj : (j : Int) < (i + 1).toInt := hj
    show upd S i.toNatClampNeg (rS i.toNatClampNeg) j = rS j ∧ upd X i.toNatClampNeg (rX i.toNatClampNeg) j = rX j ∧ upd Y i.toNatClampNeg (rY i.toNatClampNeg) j = rY j ∧ vp_updL D i.toNatClampNeg (rD i.toNatClampNeg) j = rD j
    by_cases e : j = i.toNatClampNeg
    · rw [upd_c e, upd_c e, upd_c e, updL_c e, e]
      exact ⟨rfl, rfl, rfl, rfl⟩
    · rw [upd_n e, upd_n e, upd_n e, updL_n e]
      exact hg j (by omega)
theorem copyW_M {many at9 rf s : Int32} {rW ro le cd rS rX rY S X Y W : Nat → Int32} {rD D : Nat → Int64} {a : MRD} (hb : lp (f_Mo_read_L136 many at9 rf s rW ro le cd rS rX rY rD S X Y D) FU (0, W) = some a) : ∃ V, a = (many, 0, many, 0, at9, rf, s, many, rW, ro, le, cd, rS, rX, rY, rD, S, X, Y, D, V) ∧ ∀ j : Nat, j < 4 → V j = rW j := by
  refine lp_one (F := f_Mo_read_L136 many at9 rf s rW ro le cd rS rX rY rD S X Y D) (fun s => 0 ≤ s.1.toInt ∧ s.1.toInt ≤ 4 ∧ ∀ j : Nat, (j : Int) < s.1.toInt → s.2 j = rW j) (fun a => ∃ V, a = (many, 0, many, 0, at9, rf, s, many, rW, ro, le, cd, rS, rX, rY, rD, S, X, Y, D, V) ∧ ∀ j : Nat, j < 4 → V j = rW j) ?_ FU (0, W) ⟨p0_0, i0_l (by decide), fun j hj => absurd hj (by show ¬ (j : Int) < (0 : Int32).toInt; rw [z_0]; omega)⟩ a hb
  intro f hf s hI a ha
  obtain ⟨i, V⟩ := s
  obtain ⟨i0, i1, hg⟩ := hI
  dsimp only at i0 i1 hg
  unfold f_Mo_read_L136 at ha
  dsimp only [nl] at ha
  by_cases c : (4 : Int32) ≤ i
  · rw [if_pos c] at ha
    have q := t_le c
    rw [z_4] at q
    exact ⟨V, (Option.some.inj ha).symm, fun j hj => hg j (by omega)⟩
  · rw [if_neg c] at ha
    have q := t_lt (Int32.not_le.mp c)
    rw [z_4] at q
    obtain ⟨_, ha⟩ := gq_e ha
    obtain ⟨_, ha⟩ := gq_e ha
    have ci := inc_i (k := i) (by omega) (by omega)
    have nn := nat_of (n := i) (Int32.le_iff_toInt_le.mpr (by rw [z_0]; exact i0))
    refine hf (i + 1, _) ⟨by show 0 ≤ (i + 1).toInt; omega, by show (i + 1).toInt ≤ 4; omega, fun j hj => ?_⟩ a ha
    have hj : (j : Int) < (i + 1).toInt := hj
    show upd V i.toNatClampNeg (rW i.toNatClampNeg) j = rW j
    by_cases e : j = i.toNatClampNeg
    · rw [upd_c e, e]
    · rw [upd_n e]
      exact hg j (by omega)
theorem li_copy {n dc : Int32} {w h W W9 sO xs ys sO9 xs9 ys9 S X Y V : Nat → Int32} {df df9 D : Nat → Int64} (n0 : 0 ≤ n.toInt) (n1 : n.toInt ≤ 40) (hW : WY W W9) (hL : LI n dc w h sO xs ys df sO9 xs9 ys9 df9) (hV : ∀ j : Nat, j < 4 → V j = W9 j) (hC : ∀ j : Nat, (j : Int) < n.toInt → S j = sO9 j ∧ X j = xs9 j ∧ Y j = ys9 j ∧ D j = df9 j) : LR n dc w h W sO xs ys df V S X Y D := by
  obtain ⟨e1, e2, e3, hD, hS⟩ := hL
  refine ⟨n0, n1, ⟨fun j hj => by rw [hW.1 j hj, hV j hj], by rw [hV 1 (by decide)]; exact hW.2⟩, fun j hj => by rw [e1 j hj, (hC j hj).1], fun j hj => by rw [e2 j hj, (hC j hj).2.1], fun j hj => by rw [e3 j hj, (hC j hj).2.2.1], fun j hj => ?_, fun j hj => ?_⟩
  · rw [(hC j hj).1, (hC j hj).2.2.2]
    exact hD j hj
  · rw [(hC j hj).1]
    exact hS j hj
set_option maxHeartbeats 1000000 in
theorem read_F {n dc ni : Int32} {cb i9 W RW0 row9 w h le cd sO xs ys rS rX rY sO9 xs9 ys9 W9 row : Nat → Int32} {df rD df9 : Nat → Int64} {o : Int32 × Nat × Nat × Int32 × Int32 × Int32 × Int32 × (Nat → Int32) × Int32 × (Nat → Int32) × (Nat → Int32) × (Nat → Int32) × (Nat → Int32) × (Nat → Int64)} {m : MRD} (hB : RB n cb i9) (hw : R w 0 8) (hh : R h 0 8) (d0 : 0 ≤ dc.toInt) (hd : dc.toInt ≤ 16)
    (ha : f_Top_read_F 0 1 W n cb row dc w h sO xs ys df = some o) (hb : f_Mo_read 1 dc ni n i9 RW0 row9 le cd rS rX rY rD w h sO9 xs9 ys9 df9 W9 = some m) :
    (∃ (a s cnt p r th at9 pl mn : Int32) (W1 row1 sO1 xs1 ys1 RW1 row8 le8 cd8 rS1 rX1 rY1 : Nat → Int32) (df1 rD1 : Nat → Int64), o = (a, 0, 1, s, cnt, p, r, W1, 0, row1, sO1, xs1, ys1, df1) ∧ m = (a, th, ni, 0, at9, r, pl, mn, RW1, row8, le8, cd8, rS1, rX1, rY1, rD1, sO9, xs9, ys9, df9, W9)) ∨
    (∃ (s cnt p r th at9 pl mn : Int32) (W1 row1 sO1 xs1 ys1 RW1 row8 le8 cd8 rS1 rX1 rY1 S X Y V : Nat → Int32) (df1 rD1 D : Nat → Int64), o = (cnt, 1, 0, s, cnt, p, r, W1, 0, row1, sO1, xs1, ys1, df1) ∧ m = (cnt, th, cnt, 0, at9, r, pl, mn, RW1, row8, le8, cd8, rS1, rX1, rY1, rD1, S, X, Y, D, V) ∧ LR cnt dc w h W1 sO1 xs1 ys1 df1 V S X Y D) := by
  unfold f_Top_read_F at ha
  unfold f_Mo_read at hb
  obtain ⟨x, hx, ha⟩ := bd_e ha
  obtain ⟨y, hy, hb⟩ := bd_e hb
  obtain ⟨q9, cnt, p1, r1, W1, row1, sO1, xs1, ys1, df1⟩ := x
  obtain ⟨p9, r9, many, RW1, row8, le8, cd8, rS1, rX1, rY1, rD1⟩ := y
  obtain ⟨e1, e2, e3, hP, hI⟩ := rtop_F hB hw hh d0 hd hx hy
  subst e1
  subst e2
  subst e3
  dsimp only [jn] at ha hb
  by_cases c : r9 = 0
  · right
    rw [if_pos c, if_pos c] at ha
    have hc0 : r9 ≤ 0 := by rw [c]; decide
    rw [if_pos hc0, if_pos hc0] at hb
    obtain ⟨ec, m0, m40, hWY, hLI⟩ := hI c
    subst ec
    obtain ⟨S, X, Y, D, hb, hC⟩ := copy_M m0 m40 hb
    obtain ⟨V, hb, hV⟩ := copyW_M hb
    exact ⟨_, _, _, _, _, _, _, _, _, _, _, _, _, _, _, _, _, _, _, _, _, _, _, _, _, _, _, (Option.some.inj ha).symm, hb, li_copy m0 m40 hWY hLI hV hC⟩
  · left
    rw [if_neg c] at ha
    obtain ⟨b9, hb9, ha⟩ := bd_e ha
    rw [if_neg c] at ha
    have nc : ¬ r9 ≤ 0 := pos_nz hP.2.2 c
    rw [if_neg nc, if_neg nc] at hb
    exact ⟨_, _, _, _, _, _, _, _, _, _, _, _, _, _, _, _, _, _, _, _, _, _, _, (Option.some.inj ha).symm, (Option.some.inj hb).symm⟩
set_option maxHeartbeats 1000000 in
theorem read_C {n dc ni : Int32} {cb i9 W RW0 row9 w h le cd sO xs ys rS rX rY sO9 xs9 ys9 W9 leC cdC : Nat → Int32} {df rD df9 : Nat → Int64} {o : Int32 × Nat × Nat × Int32 × Int32 × Int32 × Int32 × (Nat → Int32) × Int32 × (Nat → Int32) × (Nat → Int32) × (Nat → Int32) × (Nat → Int32) × (Nat → Int32) × (Nat → Int64)} {m : MRD} (hB : RB n cb i9) (hw : R w 0 8) (hh : R h 0 8) (d0 : 0 ≤ dc.toInt) (hd : dc.toInt ≤ 16)
    (ha : f_Top_read_C 0 1 W n cb leC dc cdC w h sO xs ys df = some o) (hb : f_Mo_read 0 dc ni n i9 RW0 row9 le cd rS rX rY rD w h sO9 xs9 ys9 df9 W9 = some m) :
    (∃ (a s cnt p r th at9 pl mn : Int32) (W1 leR cdR sO1 xs1 ys1 RW1 row8 le8 cd8 rS1 rX1 rY1 : Nat → Int32) (df1 rD1 : Nat → Int64), o = (a, 0, 1, s, cnt, p, r, W1, 0, leR, cdR, sO1, xs1, ys1, df1) ∧ m = (a, th, ni, 0, at9, r, pl, mn, RW1, row8, le8, cd8, rS1, rX1, rY1, rD1, sO9, xs9, ys9, df9, W9)) ∨
    (∃ (s cnt p r th at9 pl mn : Int32) (W1 leR cdR sO1 xs1 ys1 RW1 row8 le8 cd8 rS1 rX1 rY1 S X Y V : Nat → Int32) (df1 rD1 D : Nat → Int64), o = (cnt, 1, 0, s, cnt, p, r, W1, 0, leR, cdR, sO1, xs1, ys1, df1) ∧ m = (cnt, th, cnt, 0, at9, r, pl, mn, RW1, row8, le8, cd8, rS1, rX1, rY1, rD1, S, X, Y, D, V) ∧ LR cnt dc w h W1 sO1 xs1 ys1 df1 V S X Y D) := by
  unfold f_Top_read_C at ha
  unfold f_Mo_read at hb
  obtain ⟨x, hx, ha⟩ := bd_e ha
  obtain ⟨y, hy, hb⟩ := bd_e hb
  obtain ⟨q9, cnt, p1, r1, W1, leR, cdR, sO1, xs1, ys1, df1⟩ := x
  obtain ⟨p9, r9, many, RW1, row8, le8, cd8, rS1, rX1, rY1, rD1⟩ := y
  obtain ⟨e1, e2, e3, hP, hI⟩ := rtop_C hB hw hh d0 hd hx hy
  subst e1
  subst e2
  subst e3
  dsimp only [jn] at ha hb
  by_cases c : r9 = 0
  · right
    rw [if_pos c, if_pos c] at ha
    have hc0 : r9 ≤ 0 := by rw [c]; decide
    rw [if_pos hc0, if_pos hc0] at hb
    obtain ⟨ec, m0, m40, hWY, hLI⟩ := hI c
    subst ec
    obtain ⟨S, X, Y, D, hb, hC⟩ := copy_M m0 m40 hb
    obtain ⟨V, hb, hV⟩ := copyW_M hb
    exact ⟨_, _, _, _, _, _, _, _, _, _, _, _, _, _, _, _, _, _, _, _, _, _, _, _, _, _, _, _, (Option.some.inj ha).symm, hb, li_copy m0 m40 hWY hLI hV hC⟩
  · left
    rw [if_neg c] at ha
    obtain ⟨b9, hb9, ha⟩ := bd_e ha
    rw [if_neg c] at ha
    have nc : ¬ r9 ≤ 0 := pos_nz hP.2.2 c
    rw [if_neg nc, if_neg nc] at hb
    exact ⟨_, _, _, _, _, _, _, _, _, _, _, _, _, _, _, _, _, _, _, _, _, _, _, _, (Option.some.inj ha).symm, (Option.some.inj hb).symm⟩
