/-! DRAFT: calls, in step -/
theorem no1 {P : Prop} (h : (1 : Int32) = 0) : P := absurd h (by decide)
theorem no2 {P : Prop} (h : (2 : Int32) = 0) : P := absurd h (by decide)
theorem no3 {P : Prop} (h : (3 : Int32) = 0) : P := absurd h (by decide)
theorem has_e {n p r : Int32} (h : f_Dictionary_has n p = some r) : f_Top_isWithin p 0 (n - 1) = some r := by
  unfold f_Dictionary_has at h
  obtain ⟨x, hx, h⟩ := bd_e h
  obtain ⟨_, h⟩ := bz_e h
  rw [hx, ← Option.some.inj h]
theorem hasL_e {n p r : Int32} (h : f_Layout_has n p = some r) : f_Top_isWithin p 0 (n - 1) = some r := has_e h
theorem hasM_e {n p r : Int32} (h : f_Mo_isInstance n p = some r) : f_Top_isWithin p 0 (n - 1) = some r := by
  unfold f_Mo_isInstance at h
  obtain ⟨x, hx, h⟩ := bd_e h
  obtain ⟨_, h⟩ := bz_e h
  rw [same_in] at hx
  rw [hx, ← Option.some.inj h]
theorem within_t {p n r : Int32} (n0 : 0 ≤ n.toInt) (n1 : n.toInt ≤ 2000) (h : f_Top_isWithin p 0 (n - 1) = some r) : (r = 1 ∧ 0 ≤ p.toInt ∧ p.toInt < n.toInt) ∨ (r = 0 ∧ ¬ (0 ≤ p.toInt ∧ p.toInt < n.toInt)) := by
  have s : (n - 1).toInt = n.toInt - 1 := by rw [yb (by rw [z_1]; omega) (by rw [z_1]; omega), z_1]
  rcases within_e h with ⟨a, b, c⟩ | ⟨a, b⟩
  · left
    have b9 := t_le (Int32.not_lt.mp b)
    have c9 := t_le (Int32.not_lt.mp c)
    rw [z_0] at b9
    exact ⟨a, b9, by omega⟩
  · right
    refine ⟨a, fun q => b ⟨Int32.not_lt.mpr (Int32.le_iff_toInt_le.mpr (by rw [z_0]; exact q.1)), Int32.not_lt.mpr (Int32.le_iff_toInt_le.mpr (by omega))⟩⟩
theorem out_0 {out : Nat → Int64} {v : Int64} : vp_updL out ((0 : Int32)).toNatClampNeg v ((0 : Int32)).toNatClampNeg = v := by
  unfold vp_updL
  rw [if_pos rfl]
theorem lr_li {n dc : Int32} {w h W sO xs ys W9 sO9 xs9 ys9 : Nat → Int32} {df df9 : Nat → Int64} (hL : LR n dc w h W sO xs ys df W9 sO9 xs9 ys9 df9) : LI n dc w h sO xs ys df sO9 xs9 ys9 df9 := ⟨hL.2.2.2.1, hL.2.2.2.2.1, hL.2.2.2.2.2.1, hL.2.2.2.2.2.2.1, hL.2.2.2.2.2.2.2⟩
theorem li_lr {n dc : Int32} {w h W sO xs ys W9 sO9 xs9 ys9 : Nat → Int32} {df df9 : Nat → Int64} (n0 : 0 ≤ n.toInt) (n1 : n.toInt ≤ 40) (hW : WY W W9) (hL : LI n dc w h sO xs ys df sO9 xs9 ys9 df9) : LR n dc w h W sO xs ys df W9 sO9 xs9 ys9 df9 := ⟨n0, n1, hW, hL.1, hL.2.1, hL.2.2.1, hL.2.2.2.1, hL.2.2.2.2⟩
theorem inst_TM {dc n p1 p2 p3 : Int32} {out : Nat → Int64} {w h W sO xs ys W9 sO9 xs9 ys9 : Nat → Int32} {df df9 : Nat → Int64} {o : Int32 × (Nat → Int64) × Int32 × (Nat → Int32) × (Nat → Int32) × (Nat → Int32) × (Nat → Int64)} {m : Int32 × Int32 × Int32 × (Nat → Int32) × (Nat → Int32) × (Nat → Int32) × (Nat → Int64)} (d0 : 0 ≤ dc.toInt) (hd : dc.toInt ≤ 16) (hL : LR n dc w h W sO xs ys df W9 sO9 xs9 ys9 df9)
    (ha : f_Law_instance out dc n sO xs ys df p1 p2 p3 = some o) (hb : f_Mo_instance dc n sO9 xs9 ys9 df9 p1 p2 p3 = some m) : o.1 = m.2.1 ∧ (o.1 = 0 → o.2.1 ((0 : Int32)).toNatClampNeg = m.1.toInt64) ∧ o.2.2.1 = m.2.2.1 ∧ LR m.2.2.1 dc w h W o.2.2.2.1 o.2.2.2.2.1 o.2.2.2.2.2.1 o.2.2.2.2.2.2 W9 m.2.2.2.1 m.2.2.2.2.1 m.2.2.2.2.2.1 m.2.2.2.2.2.2 := by
  have n0 := hL.1
  have n1 := hL.2.1
  unfold f_Law_instance f_Top_instance at ha
  unfold f_Mo_instance at hb
  obtain ⟨x, hx, ha⟩ := bd_e ha
  obtain ⟨r, hr, hx⟩ := bd_e hx
  obtain ⟨s, hs, hb⟩ := bd_e hb
  have hr := has_e hr
  rw [same_in] at hs
  have e := Option.some.inj (hr.symm.trans hs)
  subst e
  dsimp only [jn, nl] at hx hb
  rcases within_t d0 (by omega) hr with ⟨e1, q0, q1⟩ | ⟨e1, q⟩
  · subst e1
    first | rw [if_neg (by decide)] at hx hb | rw [if_neg id] at hx hb
    obtain ⟨r2, hr2, hx⟩ := bd_e hx
    obtain ⟨s2, hs2, hb⟩ := bd_e hb
    rw [same_in] at hs2
    have ep : f_Top_isWithin p2 (-8) 31 = some r2 := by
      unfold f_Top_isPlace at hr2
      obtain ⟨x, hx, h⟩ := bd_e hr2
      obtain ⟨_, h⟩ := bz_e h
      rw [hx, ← Option.some.inj h]
    have e := Option.some.inj (ep.symm.trans hs2)
    subst e
    by_cases c2 : r2 = 0
    · rw [if_pos c2] at hx hb
      have hx := Option.some.inj hx
      subst hx
      try dsimp only [nl] at ha
      first | rw [if_neg (by decide)] at hb | rw [if_neg id] at hb
      rw [if_neg (by decide), if_pos rfl] at ha
      rw [← Option.some.inj ha, ← Option.some.inj hb]
      exact ⟨rfl, fun z => by first | exact no1 z | exact no2 z | exact no3 z, rfl, hL⟩
    · rw [if_neg c2] at hx hb
      obtain ⟨r3, hr3, hx⟩ := bd_e hx
      obtain ⟨s3, hs3, hb⟩ := bd_e hb
      rw [same_in] at hs3
      have ep : f_Top_isWithin p3 (-8) 31 = some r3 := by
        unfold f_Top_isPlace at hr3
        obtain ⟨x, hx, h⟩ := bd_e hr3
        obtain ⟨_, h⟩ := bz_e h
        rw [hx, ← Option.some.inj h]
      have e := Option.some.inj (ep.symm.trans hs3)
      subst e
      by_cases c3 : r3 = 0
      · rw [if_pos c3] at hx hb
        have hx := Option.some.inj hx
        subst hx
        try dsimp only [nl] at ha
        first | rw [if_neg (by decide)] at hb | rw [if_neg id] at hb
        rw [if_neg (by decide), if_pos rfl] at ha
        rw [← Option.some.inj ha, ← Option.some.inj hb]
        exact ⟨rfl, fun z => by first | exact no1 z | exact no2 z | exact no3 z, rfl, hL⟩
      · rw [if_neg c3] at hx hb
        by_cases c4 : n < 40
        · have c49 := t_lt c4
          rw [z_40] at c49
          rw [if_pos c4] at hx
          rw [if_neg (fun z => by rw [z, z_40] at c49; omega), if_pos (by decide)] at hb
          obtain ⟨y, hy, hx⟩ := bd_e hx
          unfold f_Layout_add at hy
          obtain ⟨_, hy⟩ := gq_e hy
          obtain ⟨_, hy⟩ := gq_e hy
          obtain ⟨_, hy⟩ := gq_e hy
          obtain ⟨_, hy⟩ := gq_e hy
          have hy := Option.some.inj hy
          subst hy
          have hx := Option.some.inj hx
          subst hx
          try dsimp only [nl] at ha
          obtain ⟨_, ha⟩ := gq_e ha
          obtain ⟨_, hb⟩ := gq_e hb
          obtain ⟨_, hb⟩ := gq_e hb
          obtain ⟨_, hb⟩ := gq_e hb
          obtain ⟨_, hb⟩ := gq_e hb
          rw [← Option.some.inj ha, ← Option.some.inj hb]
          have ci := inc_i (k := n) (by omega) (by omega)
          exact ⟨rfl, fun _ => (by show vp_updL out ((0 : Int32)).toNatClampNeg (n + 1 - 1).toInt64 ((0 : Int32)).toNatClampNeg = (n + 1 - 1).toInt64; exact out_0), rfl, li_lr (by show 0 ≤ (n + 1).toInt; omega) (by show (n + 1).toInt ≤ 40; omega) hL.2.2.1 (li_push (df2 := vp_updL df n.toNatClampNeg 0) (d9 := 0) (x := p2) (y := p3) (sym := p1) n0 c49 (lr_li hL) q0 q1 (by rw [updL_c rfl]; exact bx_0 _ _) (fun j hj => updL_n hj))⟩
        · have c49 := t_le (Int32.not_lt.mp c4)
          rw [z_40] at c49
          have e40 : n = 40 := Int32.toInt_inj.mp (by rw [z_40]; omega)
          rw [if_neg c4] at hx
          have hx := Option.some.inj hx
          subst hx
          try dsimp only [nl] at ha
          rw [if_pos e40, if_neg (by decide)] at hb
          rw [if_neg (by decide), if_neg (by decide), if_pos rfl] at ha
          rw [← Option.some.inj ha, ← Option.some.inj hb]
          exact ⟨rfl, fun z => by first | exact no1 z | exact no2 z | exact no3 z, rfl, hL⟩
  · subst e1
    first | rw [if_pos rfl] at hx hb | rw [if_pos trivial] at hx hb
    have hx := Option.some.inj hx
    subst hx
    try dsimp only [nl] at ha
    first | rw [if_neg (by decide)] at hb | rw [if_neg id] at hb
    first | rw [if_pos rfl] at ha | rw [if_pos trivial] at ha
    rw [← Option.some.inj ha, ← Option.some.inj hb]
    exact ⟨rfl, fun z => by first | exact no1 z | exact no2 z | exact no3 z, rfl, hL⟩
theorem mw_e : ∀ k : Nat, k < 4 → tb_MOST_OF_WAY k = if k = 1 then 1 else if k = 3 then 4 else 3 := by decide
theorem way_TM {p1 p2 : Int32} {out : Nat → Int64} {W W9 : Nat → Int32} {o : Int32 × (Nat → Int64) × (Nat → Int32)} {m : Int32 × Int32 × (Nat → Int32)} (hW : WY W W9)
    (ha : f_Law_way out W p1 p2 = some o) (hb : f_Mo_way W9 p1 p2 = some m) : o.1 = m.2.1 ∧ (o.1 = 0 → o.2.1 ((0 : Int32)).toNatClampNeg = m.1.toInt64) ∧ WY o.2.2 m.2.2 := by
  unfold f_Law_way f_Top_way at ha
  unfold f_Mo_way at hb
  obtain ⟨x, hx, ha⟩ := bd_e ha
  obtain ⟨r, hr, hx⟩ := bd_e hx
  dsimp only [jn, nl] at hx hb
  -- the most that the way takes, in the reference
  obtain ⟨mst, hm, hb⟩ : ∃ mst : Int32, mst = (if p1 = 1 then (1 : Int32) else if p1 = 3 then 4 else 3) ∧ (bd (f_Mo_isIn p1 (0 : Int32) (3 : Int32)) fun r_2 =>
      if r_2 = 0 then
        (if (1 : Int32) ≤ 0 then gq p1 4 <| gq p1 4 <| some ((W9 (p1).toNatClampNeg), (1 : Int32), (upd W9 (p1).toNatClampNeg p2)) else some ((0 : Int32), (1 : Int32), W9))
      else
        bd (f_Mo_isIn p2 (0 : Int32) mst) fun r_5 =>
        if r_5 = 0 then
          (if (1 : Int32) ≤ 0 then gq p1 4 <| gq p1 4 <| some ((W9 (p1).toNatClampNeg), (1 : Int32), (upd W9 (p1).toNatClampNeg p2)) else some ((0 : Int32), (1 : Int32), W9))
        else
          (if (0 : Int32) ≤ 0 then gq p1 4 <| gq p1 4 <| some ((W9 (p1).toNatClampNeg), (0 : Int32), (upd W9 (p1).toNatClampNeg p2)) else some ((0 : Int32), (0 : Int32), W9))) = some m := by
    by_cases c1 : p1 = 1
    · rw [if_pos c1] at hb; exact ⟨1, by rw [if_pos c1], hb⟩
    · rw [if_neg c1] at hb
      by_cases c3 : p1 = 3
      · rw [if_pos c3] at hb; exact ⟨4, by rw [if_neg c1, if_pos c3], hb⟩
      · rw [if_neg c3] at hb; exact ⟨3, by rw [if_neg c1, if_neg c3], hb⟩
  obtain ⟨s, hs, hb⟩ := bd_e hb
  rw [same_in] at hs
  have e := Option.some.inj (hr.symm.trans hs)
  subst e
  have bad : x = .inl "java/lang/IllegalArgumentException" → some ((0 : Int32), (1 : Int32), W9) = some m → o.1 = m.2.1 ∧ (o.1 = 0 → o.2.1 ((0 : Int32)).toNatClampNeg = m.1.toInt64) ∧ WY o.2.2 m.2.2 := by
    intro ex em
    subst ex
    try dsimp only [nl] at ha
    first | rw [if_pos rfl] at ha | rw [if_pos trivial] at ha
    rw [← Option.some.inj ha, ← Option.some.inj em]
    exact ⟨rfl, fun z => by first | exact no1 z | exact no2 z | exact no3 z, hW⟩
  by_cases c : r = 0
  · rw [if_pos c] at hx hb
    first | rw [if_neg (by decide)] at hb | rw [if_neg id] at hb
    exact bad (Option.some.inj hx).symm hb
  · rw [if_neg c] at hx hb
    rcases within_e hr with ⟨e1, a0, a3⟩ | ⟨e1, _⟩
    · have b0 := t_le (Int32.not_lt.mp a0)
      have b3 := t_le (Int32.not_lt.mp a3)
      have z3 : (3 : Int32).toInt = 3 := rfl
      rw [z_0] at b0
      rw [z3] at b3
      have pN := nat_of (n := p1) (Int32.not_lt.mp a0)
      obtain ⟨_, hx⟩ := gq_e hx
      obtain ⟨r2, hr2, hx⟩ := bd_e hx
      obtain ⟨s2, hs2, hb⟩ := bd_e hb
      have em : tb_MOST_OF_WAY p1.toNatClampNeg = mst := by
        rw [mw_e _ (by omega), hm]
        by_cases q1 : p1 = 1
        · rw [if_pos q1, if_pos (by rw [q1]; rfl)]
        · rw [if_neg q1, if_neg (fun z => q1 (Int32.toInt_inj.mp (by rw [z_1]; omega)))]
          by_cases q3 : p1 = 3
          · rw [if_pos q3, if_pos (by rw [q3]; rfl)]
          · rw [if_neg q3, if_neg (fun z => q3 (Int32.toInt_inj.mp (by rw [z3]; omega)))]
      rw [em] at hr2
      rw [same_in] at hs2
      have e := Option.some.inj (hr2.symm.trans hs2)
      subst e
      by_cases c2 : r2 = 0
      · rw [if_pos c2] at hx hb
        first | rw [if_neg (by decide)] at hb | rw [if_neg id] at hb
        exact bad (Option.some.inj hx).symm hb
      · rw [if_neg c2] at hx hb
        rw [if_pos (by decide)] at hb
        obtain ⟨_, hx⟩ := gq_e hx
        obtain ⟨_, hx⟩ := gq_e hx
        obtain ⟨_, hb⟩ := gq_e hb
        obtain ⟨_, hb⟩ := gq_e hb
        have hx := Option.some.inj hx
        subst hx
        try dsimp only [nl] at ha
        obtain ⟨_, ha⟩ := gq_e ha
        rw [← Option.some.inj ha, ← Option.some.inj hb]
        refine ⟨rfl, fun _ => ?_, ?_, ?_⟩
        · show vp_updL out ((0 : Int32)).toNatClampNeg (W p1.toNatClampNeg).toInt64 ((0 : Int32)).toNatClampNeg = (W9 p1.toNatClampNeg).toInt64
          rw [out_0, hW.1 _ (by omega)]
        · intro j hj
          show upd W p1.toNatClampNeg p2 j = upd W9 p1.toNatClampNeg p2 j
          by_cases q : j = p1.toNatClampNeg
          · rw [upd_c q, upd_c q]
          · rw [upd_n q, upd_n q]; exact hW.1 j hj
        · show upd W9 p1.toNatClampNeg p2 1 = 0 ∨ upd W9 p1.toNatClampNeg p2 1 = 1
          by_cases q : 1 = p1.toNatClampNeg
          · rw [upd_c q]
            have q1 : p1 = 1 := Int32.toInt_inj.mp (by rw [z_1]; omega)
            rw [if_pos q1] at hm
            rcases within_e hs2 with ⟨_, y0, y1⟩ | ⟨y0, _⟩
            · have v0 := t_le (Int32.not_lt.mp y0)
              have v1 := t_le (Int32.not_lt.mp y1)
              rw [hm, z_1] at v1
              rw [z_0] at v0
              by_cases v : p2.toInt = 0
              · exact Or.inl (zero_t.mpr v)
              · exact Or.inr (Int32.toInt_inj.mp (by rw [z_1]; omega))
            · exact absurd y0 c2
          · rw [upd_n q]; exact hW.2
    · exact absurd e1 c
