/-! DRAFT: telling the instances, in step -/
theorem g_16 (a : Int32) : a - (-17 : Int32) - 1 = a + 16 := by grind
theorem g_ab (a b : Int32) : a + b - a = b := by grind
theorem g_ba (a b : Int32) : a + (b - a) = b := by grind
/-- ranges of the reference's rows -/
def MR (W ys h sO xs w : Nat → Int32) : Prop := R W 0 7 ∧ R ys (-8) 31 ∧ R h 0 8 ∧ R sO 0 15 ∧ R xs (-8) 31 ∧ R w 0 8
/-- the two layouts: n instances, of dc symbols -/
def LR (n dc : Int32) (w h W sO xs ys : Nat → Int32) (df : Nat → Int64) (W9 sO9 xs9 ys9 : Nat → Int32) (df9 : Nat → Int64) : Prop := 0 ≤ n.toInt ∧ n.toInt ≤ 40 ∧ WY W W9 ∧ PX n sO sO9 ∧ PX n xs xs9 ∧ PX n ys ys9 ∧ DX n sO9 w h df df9 ∧ SO n dc sO9
theorem i39 {p : Int32} (h0 : 0 ≤ p.toInt) (h1 : p.toInt ≤ 39) : (0 : Int32) ≤ p ∧ p ≤ 39 := ⟨Int32.le_iff_toInt_le.mpr (by rw [z_0]; exact h0), Int32.le_iff_toInt_le.mpr h1⟩
theorem strip_r {W ys h sO xs w : Nat → Int32} {p r : Int32} (hM : MR W ys h sO xs w) (h0 : 0 ≤ p.toInt) (h1 : p.toInt ≤ 39) (hr : f_Mo_stripOf W ys h sO xs w p = some r) : -9 ≤ r.toInt ∧ r.toInt ≤ 38 := by
  obtain ⟨m1, m2, m3, m4, m5, m6⟩ := hM
  obtain ⟨o, e, q1, q2⟩ := s_Mo_stripOf m1 m2 m3 m4 m5 m6 (i39 h0 h1)
  have e := Option.some.inj (e.symm.trans hr)
  subst e
  exact ⟨t_le q1, t_le q2⟩
theorem sOf_r {W ys h sO xs w : Nat → Int32} {p r : Int32} (hM : MR W ys h sO xs w) (h0 : 0 ≤ p.toInt) (h1 : p.toInt ≤ 39) (hr : f_Mo_sOf W xs w sO ys h p = some r) : -9 ≤ r.toInt ∧ r.toInt ≤ 38 := by
  obtain ⟨m1, m2, m3, m4, m5, m6⟩ := hM
  obtain ⟨o, e, q1, q2⟩ := s_Mo_sOf m1 m5 m6 m4 m2 m3 (i39 h0 h1)
  have e := Option.some.inj (e.symm.trans hr)
  subst e
  exact ⟨t_le q1, t_le q2⟩
theorem wy_e {W W9 : Nat → Int32} (hW : WY W W9) : W ((0 : Int32)).toNatClampNeg = W9 ((0 : Int32)).toNatClampNeg ∧ W ((1 : Int32)).toNatClampNeg = W9 ((1 : Int32)).toNatClampNeg ∧ W ((2 : Int32)).toNatClampNeg = W9 ((2 : Int32)).toNatClampNeg ∧ W ((3 : Int32)).toNatClampNeg = W9 ((3 : Int32)).toNatClampNeg ∧ (W9 ((1 : Int32)).toNatClampNeg = 0 ∨ W9 ((1 : Int32)).toNatClampNeg = 1) := ⟨hW.1 0 (by decide), hW.1 1 (by decide), hW.1 2 (by decide), hW.1 3 (by decide), hW.2⟩
theorem turned_e {W : Nat → Int32} {r : Int32} (h : f_Layout_isTurned W = some r) : (W ((1 : Int32)).toNatClampNeg = 0 ∧ r = 0) ∨ (¬ W ((1 : Int32)).toNatClampNeg = 0 ∧ r = 1) := by
  unfold f_Layout_isTurned at h
  obtain ⟨_, h⟩ := gq_e h
  by_cases c : W ((1 : Int32)).toNatClampNeg = 0
  · rw [if_pos c] at h
    exact Or.inl ⟨c, (Option.some.inj h).symm⟩
  · rw [if_neg c] at h
    exact Or.inr ⟨c, (Option.some.inj h).symm⟩
def CC (W w : Nat → Int32) (s : Int32) : Int32 := if W ((0 : Int32)).toNatClampNeg < 2 then 0 else w s.toNatClampNeg - 1
def CR (W h : Nat → Int32) (s : Int32) : Int32 := if (W ((0 : Int32)).toNatClampNeg - W ((0 : Int32)).toNatClampNeg / (2 : Int32) * (2 : Int32)) = (1 : Int32) then h s.toNatClampNeg - 1 else 0
theorem cc_e {W w : Nat → Int32} {s r : Int32} (h : f_Layout_cornerColumn W w s = some r) : r = CC W w s := by
  unfold f_Layout_cornerColumn at h
  unfold CC
  obtain ⟨_, h⟩ := gq_e h
  by_cases c : W ((0 : Int32)).toNatClampNeg < 2
  · rw [if_pos c] at h ⊢
    exact (Option.some.inj h).symm
  · rw [if_neg c] at h ⊢
    obtain ⟨_, h⟩ := gq_e h
    exact (Option.some.inj h).symm
theorem cr_e {W w : Nat → Int32} {s r : Int32} (h : f_Layout_cornerRow W w s = some r) : r = CR W w s := by
  unfold f_Layout_cornerRow at h
  unfold CR
  obtain ⟨_, h⟩ := gq_e h
  by_cases c : (W ((0 : Int32)).toNatClampNeg - W ((0 : Int32)).toNatClampNeg / (2 : Int32) * (2 : Int32)) = (1 : Int32)
  · rw [if_pos c] at h ⊢
    obtain ⟨_, h⟩ := gq_e h
    exact (Option.some.inj h).symm
  · rw [if_neg c] at h ⊢
    exact (Option.some.inj h).symm
theorem col_e {xs W w sO : Nat → Int32} {p r : Int32} (h : f_Mo_columnOf xs W w sO p = some r) : r = xs p.toNatClampNeg + CC W w (sO p.toNatClampNeg) := by
  unfold f_Mo_columnOf at h
  unfold CC
  obtain ⟨_, h⟩ := gq_e h
  obtain ⟨_, h⟩ := gq_e h
  by_cases c : W ((0 : Int32)).toNatClampNeg < 2
  · rw [if_pos c] at h ⊢
    exact (Option.some.inj h).symm
  · rw [if_neg c] at h ⊢
    obtain ⟨_, h⟩ := gq_e h
    obtain ⟨_, h⟩ := gq_e h
    exact (Option.some.inj h).symm
theorem row_e {ys W hh sO : Nat → Int32} {p r : Int32} (h : f_Mo_rowOf ys W hh sO p = some r) : r = ys p.toNatClampNeg + CR W hh (sO p.toNatClampNeg) := by
  unfold f_Mo_rowOf at h
  unfold CR
  obtain ⟨_, h⟩ := gq_e h
  obtain ⟨_, h⟩ := gq_e h
  by_cases c : (W ((0 : Int32)).toNatClampNeg - W ((0 : Int32)).toNatClampNeg / (2 : Int32) * (2 : Int32)) = (1 : Int32)
  · rw [if_pos c] at h ⊢
    obtain ⟨_, h⟩ := gq_e h
    obtain ⟨_, h⟩ := gq_e h
    exact (Option.some.inj h).symm
  · rw [if_neg c] at h ⊢
    exact (Option.some.inj h).symm
theorem cc_w {W W9 w : Nat → Int32} {s : Int32} (h : W ((0 : Int32)).toNatClampNeg = W9 ((0 : Int32)).toNatClampNeg) : CC W w s = CC W9 w s := by
  unfold CC
  rw [h]
theorem cr_w {W W9 w : Nat → Int32} {s : Int32} (h : W ((0 : Int32)).toNatClampNeg = W9 ((0 : Int32)).toNatClampNeg) : CR W w s = CR W9 w s := by
  unfold CR
  rw [h]
theorem cs_e {W xs sO w ys h : Nat → Int32} {p a : Int32} (ha : f_Layout_cornerS W xs sO w ys h p = some a) : (W ((1 : Int32)).toNatClampNeg = 0 ∧ a = xs p.toNatClampNeg + CC W w (sO p.toNatClampNeg)) ∨ (¬ W ((1 : Int32)).toNatClampNeg = 0 ∧ a = ys p.toNatClampNeg + CR W h (sO p.toNatClampNeg)) := by
  unfold f_Layout_cornerS at ha
  obtain ⟨tu, htu, ha⟩ := bd_e ha
  rcases turned_e htu with ⟨q, e⟩ | ⟨q, e⟩
  · subst e
    rw [if_pos rfl] at ha
    obtain ⟨_, ha⟩ := gq_e ha
    obtain ⟨_, ha⟩ := gq_e ha
    obtain ⟨cc, hcc, ha⟩ := bd_e ha
    rw [cc_e hcc] at ha
    exact Or.inl ⟨q, (Option.some.inj ha).symm⟩
  · subst e
    rw [if_neg one_nz] at ha
    obtain ⟨_, ha⟩ := gq_e ha
    obtain ⟨_, ha⟩ := gq_e ha
    obtain ⟨cc, hcc, ha⟩ := bd_e ha
    rw [cr_e hcc] at ha
    exact Or.inr ⟨q, (Option.some.inj ha).symm⟩
theorem ct_e {W xs sO w ys h : Nat → Int32} {p a : Int32} (ha : f_Layout_cornerT W ys sO h xs w p = some a) : (W ((1 : Int32)).toNatClampNeg = 0 ∧ a = ys p.toNatClampNeg + CR W h (sO p.toNatClampNeg)) ∨ (¬ W ((1 : Int32)).toNatClampNeg = 0 ∧ a = xs p.toNatClampNeg + CC W w (sO p.toNatClampNeg)) := by
  unfold f_Layout_cornerT at ha
  obtain ⟨tu, htu, ha⟩ := bd_e ha
  rcases turned_e htu with ⟨q, e⟩ | ⟨q, e⟩
  · subst e
    rw [if_pos rfl] at ha
    obtain ⟨_, ha⟩ := gq_e ha
    obtain ⟨_, ha⟩ := gq_e ha
    obtain ⟨cc, hcc, ha⟩ := bd_e ha
    rw [cr_e hcc] at ha
    exact Or.inl ⟨q, (Option.some.inj ha).symm⟩
  · subst e
    rw [if_neg one_nz] at ha
    obtain ⟨_, ha⟩ := gq_e ha
    obtain ⟨_, ha⟩ := gq_e ha
    obtain ⟨cc, hcc, ha⟩ := bd_e ha
    rw [cc_e hcc] at ha
    exact Or.inr ⟨q, (Option.some.inj ha).symm⟩
theorem zo {x : Int32} (h : x = 0) : ¬ x = 1 := by rw [h]; decide
theorem oz {x : Int32} (h : x = 1) : ¬ x = 0 := by rw [h]; decide
theorem cs2 {W W9 ys ys9 sO sO9 h xs xs9 w : Nat → Int32} {p a b : Int32} (hW : WY W W9) (es : sO p.toNatClampNeg = sO9 p.toNatClampNeg) (ex : xs p.toNatClampNeg = xs9 p.toNatClampNeg) (ey : ys p.toNatClampNeg = ys9 p.toNatClampNeg) (ha : f_Layout_cornerS W xs sO w ys h p = some a) (hb : f_Mo_sOf W9 xs9 w sO9 ys9 h p = some b) : a = b := by
  obtain ⟨e0, e1, e2, e3, t1⟩ := wy_e hW
  unfold f_Mo_sOf at hb
  obtain ⟨_, hb⟩ := gq_e hb
  have ha := cs_e ha
  rw [e1, cc_w e0, cr_w e0, es, ex, ey] at ha
  rcases ha with ⟨q, ea⟩ | ⟨q, ea⟩
  · rw [if_neg (zo q)] at hb
    obtain ⟨r, hr, hb⟩ := bd_e hb
    rw [ea, ← col_e hr]
    exact Option.some.inj hb
  · have q1 : W9 ((1 : Int32)).toNatClampNeg = 1 := by
      rcases t1 with z | z
      · exact absurd z q
      · exact z
    rw [if_pos q1] at hb
    obtain ⟨r, hr, hb⟩ := bd_e hb
    rw [ea, ← row_e hr]
    exact Option.some.inj hb
theorem ct2 {W W9 ys ys9 sO sO9 h xs xs9 w : Nat → Int32} {p a b : Int32} (hW : WY W W9) (es : sO p.toNatClampNeg = sO9 p.toNatClampNeg) (ex : xs p.toNatClampNeg = xs9 p.toNatClampNeg) (ey : ys p.toNatClampNeg = ys9 p.toNatClampNeg) (ha : f_Layout_cornerT W ys sO h xs w p = some a) (hb : f_Mo_tOf W9 ys9 h sO9 xs9 w p = some b) : a = b := by
  obtain ⟨e0, e1, e2, e3, t1⟩ := wy_e hW
  unfold f_Mo_tOf at hb
  obtain ⟨_, hb⟩ := gq_e hb
  have ha := ct_e ha
  rw [e1, cc_w e0, cr_w e0, es, ex, ey] at ha
  rcases ha with ⟨q, ea⟩ | ⟨q, ea⟩
  · rw [if_neg (zo q)] at hb
    obtain ⟨r, hr, hb⟩ := bd_e hb
    rw [ea, ← row_e hr]
    exact Option.some.inj hb
  · have q1 : W9 ((1 : Int32)).toNatClampNeg = 1 := by
      rcases t1 with z | z
      · exact absurd z q
      · exact z
    rw [if_pos q1] at hb
    obtain ⟨r, hr, hb⟩ := bd_e hb
    rw [ea, ← col_e hr]
    exact Option.some.inj hb
/-- what stands next: the S of an instance and its symbol's side -/
def NX (W w h sO : Nat → Int32) (p s : Int32) : Int32 := if W ((1 : Int32)).toNatClampNeg = 1 then s + h (sO p.toNatClampNeg).toNatClampNeg else s + w (sO p.toNatClampNeg).toNatClampNeg
theorem ns2 {W W9 ys ys9 sO sO9 h xs xs9 w : Nat → Int32} {p a b : Int32} (hW : WY W W9) (es : sO p.toNatClampNeg = sO9 p.toNatClampNeg) (ex : xs p.toNatClampNeg = xs9 p.toNatClampNeg) (ey : ys p.toNatClampNeg = ys9 p.toNatClampNeg) (ha : f_Layout_nextS sO W xs w ys h p = some a) (hb : f_Mo_sOf W9 xs9 w sO9 ys9 h p = some b) : a = NX W9 w h sO9 p b := by
  unfold f_Layout_nextS at ha
  obtain ⟨_, ha⟩ := gq_e ha
  simp only [nl] at ha
  obtain ⟨x, hx, ha⟩ := bd_e ha
  have e := cs2 hW es ex ey hx hb
  obtain ⟨e0, e1, e2, e3, t1⟩ := wy_e hW
  obtain ⟨tu, htu, ha⟩ := bd_e ha
  have ht := turned_e htu
  unfold NX
  rw [es, e] at ha
  rw [e1] at ht
  rcases ht with ⟨q, e⟩ | ⟨q, e⟩
  · subst e
    rw [if_pos rfl] at ha
    obtain ⟨_, ha⟩ := gq_e ha
    rw [if_neg (zo q)]
    exact (Option.some.inj ha).symm
  · subst e
    rw [if_neg one_nz] at ha
    obtain ⟨_, ha⟩ := gq_e ha
    have q1 : W9 ((1 : Int32)).toNatClampNeg = 1 := by
      rcases t1 with z | z
      · exact absurd z q
      · exact z
    rw [if_pos q1]
    exact (Option.some.inj ha).symm
theorem strip_t {W ys h sO xs w : Nat → Int32} {p r : Int32} (hr : f_Mo_stripOf W ys h sO xs w p = some r) : ∃ t, f_Mo_tOf W ys h sO xs w p = some t ∧ r = t >>> (W ((2 : Int32)).toNatClampNeg &&& 31) := by
  unfold f_Mo_stripOf at hr
  obtain ⟨t, ht, hr⟩ := bd_e hr
  obtain ⟨_, hr⟩ := gq_e hr
  exact ⟨t, ht, (Option.some.inj hr).symm⟩
/-- strips of the reference as whole numbers -/
def stv (W ys h sO xs w : Nat → Int32) (p : Int32) : Int := match f_Mo_stripOf W ys h sO xs w p with | some r => r.toInt | none => 0
theorem stv_e {W ys h sO xs w : Nat → Int32} {p r : Int32} (hr : f_Mo_stripOf W ys h sO xs w p = some r) : stv W ys h sO xs w p = r.toInt := by
  unfold stv
  rw [hr]
def SD (n : Int32) (σ : Int32 → Int) (q : Nat → Int32) : Prop := ∀ j k : Nat, j < k → (k : Int) < n.toInt → σ (q j) ≤ σ (q k)
/-- while an instance goes down: a hole at k -/
def SH (i k : Int32) (σ : Int32 → Int) (q : Nat → Int32) : Prop := (∀ j m : Nat, j < m → (m : Int) ≤ i.toInt → ¬ (j : Int) = k.toInt → ¬ (m : Int) = k.toInt → σ (q j) ≤ σ (q m)) ∧ (∀ j : Nat, k.toInt < (j : Int) → (j : Int) ≤ i.toInt → σ i < σ (q j))
theorem dec_b {k i : Int32} (h : 0 < k) (h1 : k.toInt ≤ i.toInt) : 0 ≤ (k + (-1)).toInt ∧ (k + (-1)).toInt ≤ i.toInt := by
  have dt := dec_t (m := k + (-1)) h rfl
  have h0 := t_lt h
  rw [z_0] at h0
  rw [dt]
  omega
set_option maxHeartbeats 1000000 in
theorem sort_sd {n : Int32} {W ys sO h xs w q b : Nat → Int32} (n0 : 0 ≤ n.toInt) (n1 : n.toInt ≤ 40) (hb : f_Mo_sort n q W ys h sO xs w = some b) : SD n (stv W ys h sO xs w) b := by
  unfold f_Mo_sort at hb
  generalize hσ : stv W ys h sO xs w = σ
  refine lp_one (fun (t : Int32 × (Nat → Int32)) => 0 ≤ t.1.toInt ∧ t.1.toInt ≤ n.toInt ∧ SD t.1 σ t.2) (fun b => SD n σ b) ?_ FU _ ?_ b hb
  · intro f hf t hI a hb
    obtain ⟨i, o⟩ := t
    dsimp only at hI
    obtain ⟨i0, i1, hS⟩ := hI
    unfold f_Mo_sort_L2 at hb
    dsimp only at hb
    by_cases c : n ≤ i
    · rw [if_pos c] at hb
      have c9 := t_le c
      have e : i = n := Int32.toInt_inj.mp (by omega)
      rw [← Option.some.inj hb, ← e]
      exact hS
    · rw [if_neg c] at hb
      have c9 := t_lt (Int32.not_le.mp c)
      have ii := inc_i (k := i) (by omega) (by omega)
      refine lp_one (fun (t : Int32 × (Nat → Int32)) => 0 ≤ t.1.toInt ∧ t.1.toInt ≤ i.toInt ∧ SH i t.1 σ t.2) (fun b => SD n σ b) ?_ FU _ ?_ a hb
      · intro f1 hf1 t hI a hb
        obtain ⟨k, o⟩ := t
        dsimp only at hI
        obtain ⟨k0, k1, hH, hL⟩ := hI
        have kn := nat_of (n := k) (Int32.le_iff_toInt_le.mpr (by rw [z_0]; exact k0))
        unfold f_Mo_sort_L12 at hb
        dsimp only at hb
        have fin : ∀ a, (∀ j : Nat, (j : Int) < k.toInt → σ (o j) ≤ σ i) → (gq k 40 <| nl (i + (1 : Int32)) fun v => f (v, (upd o (k).toNatClampNeg i))) = some a → SD n σ a := by
          intro a hl hb
          obtain ⟨_, hb⟩ := gq_e hb
          refine hf _ ?_ a hb
          refine ⟨by show 0 ≤ (i + 1).toInt; omega, by show (i + 1).toInt ≤ n.toInt; omega, ?_⟩
          intro j m hj hm
          have hm : (m : Int) < (i + 1).toInt := hm
          show σ (upd o k.toNatClampNeg i j) ≤ σ (upd o k.toNatClampNeg i m)
          unfold upd
          by_cases d1 : j = k.toNatClampNeg
          · rw [if_pos d1, if_neg (by omega)]
            exact Int.le_of_lt (hL m (by omega) (by omega))
          · rw [if_neg d1]
            by_cases d2 : m = k.toNatClampNeg
            · rw [if_pos d2]
              exact hl j (by omega)
            · rw [if_neg d2]
              exact hH j m hj (by omega) (by omega) (by omega)
        by_cases d : k ≤ 0
        · rw [if_pos d] at hb
          have d9 := t_le d
          rw [z_0] at d9
          exact fin a (fun j hj => by omega) hb
        · rw [if_neg d] at hb
          have kp := Int32.not_le.mp d
          have kp9 := t_lt kp
          rw [z_0] at kp9
          obtain ⟨_, hb⟩ := gq_e hb
          obtain ⟨r1, hr1, hb⟩ := bd_e hb
          obtain ⟨r2, hr2, hb⟩ := bd_e hb
          have e1 := stv_e hr1
          have e2 := stv_e hr2
          rw [hσ] at e1 e2
          have sn := sub_n kp
          by_cases c2 : r1 ≤ r2
          · rw [if_pos c2] at hb
            have c29 := t_le c2
            refine fin a (fun j hj => ?_) hb
            by_cases q : j = (k - 1).toNatClampNeg
            · rw [q]; omega
            · have := hH j (k - 1).toNatClampNeg (by omega) (by omega) (by omega) (by omega)
              omega
          · rw [if_neg c2] at hb
            have c29 := t_lt (Int32.not_le.mp c2)
            obtain ⟨_, hb⟩ := gq_e hb
            obtain ⟨_, hb⟩ := gq_e hb
            have b1 := dec_b kp k1
            have dt := dec_t (m := k + (-1)) kp rfl
            refine hf1 (k + (-1), upd o k.toNatClampNeg (o (k - 1).toNatClampNeg)) ⟨b1.1, b1.2, ?_, ?_⟩ a hb
            · intro j m hj hm h1 h2
              replace h1 : ¬ (j : Int) = k.toInt - 1 := by rw [← dt]; exact h1
              replace h2 : ¬ (m : Int) = k.toInt - 1 := by rw [← dt]; exact h2
              clear dt b1
              show σ (upd o k.toNatClampNeg (o (k - 1).toNatClampNeg) j) ≤ σ (upd o k.toNatClampNeg (o (k - 1).toNatClampNeg) m)
              unfold upd
              by_cases d1 : j = k.toNatClampNeg
              · rw [if_pos d1, if_neg (by omega)]
                exact hH (k - 1).toNatClampNeg m (by omega) hm (by omega) (by omega)
              · rw [if_neg d1]
                by_cases d2 : m = k.toNatClampNeg
                · rw [if_pos d2]
                  exact hH j (k - 1).toNatClampNeg (by omega) (by omega) (by omega) (by omega)
                · rw [if_neg d2]
                  exact hH j m hj hm (by omega) (by omega)
            · intro j hj hm
              replace hj : k.toInt - 1 < (j : Int) := by rw [← dt]; exact hj
              clear dt b1
              show σ i < σ (upd o k.toNatClampNeg (o (k - 1).toNatClampNeg) j)
              unfold upd
              by_cases d1 : j = k.toNatClampNeg
              · rw [if_pos d1]; omega
              · rw [if_neg d1]
                exact hL j (by omega) hm
      · refine ⟨i0, Int.le_refl _, fun j m hj hm h1 h2 => ?_, fun j hj hm => ?_⟩
        · have hm : (m : Int) ≤ i.toInt := hm
          have h2 : ¬ (m : Int) = i.toInt := h2
          exact hS j m hj (by omega)
        · have hj : i.toInt < (j : Int) := hj
          omega
  · refine ⟨p0_0, by show (0 : Int) ≤ n.toInt; omega, fun j k hj hk => ?_⟩
    have hk : (k : Int) < (0 : Int) := hk
    omega
theorem low_z {c kp v : Int32} {o : Nat → Int32} : f_Mo_low c kp o v 0 = some (c, o) := by
  have f : f_Mo_low c kp o v 0 = f_Mo_low_L4 kp v (lp (f_Mo_low_L4 kp v) 99999) (0 - 1, c, o) := rfl
  rw [f]
  generalize lp (f_Mo_low_L4 kp v) 99999 = g
  unfold f_Mo_low_L4
  dsimp only
  rw [if_pos (by decide)]
/-- lengths and codes of dc symbols -/
def CD (dc : Int32) (le cd le9 cd9 : Nat → Int32) : Prop := ∀ j : Nat, (j : Int) < dc.toInt → le j = le9 j ∧ 0 ≤ (le9 j).toInt ∧ (le9 j).toInt ≤ 15 ∧ (le9 j = 0 ∨ cd j = cd9 j)
theorem nameC_TL {kp T0 p dc c tc c9 c8 : Int32} {B0 O0 b o o8 r r8 cd le cd9 le9 : Nat → Int32} {c1 tc1 : Int32} {b1 : Nat → Int32} (hT : TL kp T0 B0 O0 c tc b c9 o) (hC : CD dc le cd le9 cd9) (p0 : 0 ≤ p.toInt) (p1 : p.toInt < dc.toInt) (ha : f_CodeNames_tellName kp c cd le tc b p = some (c1, tc1, b1)) (hb : f_Mo_name 0 c9 kp r o cd9 le9 p = some (c8, r8, o8)) : TL kp T0 B0 O0 c1 tc1 b1 c8 o8 ∧ r8 = r := by
  unfold f_CodeNames_tellName at ha
  unfold f_Mo_name at hb
  rw [if_pos rfl] at hb
  obtain ⟨_, ha⟩ := gq_e ha
  obtain ⟨_, ha⟩ := gq_e ha
  obtain ⟨_, hb⟩ := gq_e hb
  obtain ⟨_, hb⟩ := gq_e hb
  obtain ⟨x, hx, ha⟩ := bd_e ha
  obtain ⟨y, hy, hb⟩ := bd_e hb
  obtain ⟨x1, x2, x3⟩ := x
  obtain ⟨y1, y2⟩ := y
  obtain ⟨e1, e2, e3⟩ := some3 ha
  obtain ⟨e4, e5, e6⟩ := some3 hb
  subst e1 e2 e3 e4 e5 e6
  refine ⟨?_, rfl⟩
  have pn := nat_of (n := p) (Int32.le_iff_toInt_le.mpr (by rw [z_0]; exact p0))
  obtain ⟨g1, g2, g3, g4⟩ := hC p.toNatClampNeg (by omega)
  rw [g1] at hx
  rcases g4 with g4 | g4
  · rw [g4] at hx hy
    rw [low_z] at hy
    exact bits_TL hT (by decide) (by decide) hx (by rw [low_z]; exact hy)
  · rw [g4] at hx
    exact bits_TL hT g2 (by omega) hx hy
/-- the row of KIND 1: its first dc entries are the dc symbols -/
def RW (dc : Int32) (r : Nat → Int32) : Prop := (∀ j : Nat, (j : Int) < dc.toInt → 0 ≤ (r j).toInt ∧ (r j).toInt < dc.toInt) ∧ ∀ s : Int32, 0 ≤ s.toInt → s.toInt < dc.toInt → ∃ j : Nat, (j : Int) < dc.toInt ∧ r j = s
theorem front_e {r r1 : Nat → Int32} {p : Int32} (p0 : 0 ≤ p.toInt) (p1 : p.toInt ≤ 15) (h : f_Mo_toFront r p = some r1) : ∀ j : Nat, r1 j = if j = 0 then r p.toNatClampNeg else if (j : Int) ≤ p.toInt then r (j - 1) else r j := by
  unfold f_Mo_toFront at h
  obtain ⟨_, h⟩ := gq_e h
  simp only [nl] at h
  refine lp_one (fun (t : Int32 × (Nat → Int32)) => 0 ≤ t.1.toInt ∧ t.1.toInt ≤ p.toInt ∧ TF r t.2 t.1 p) (fun (a : Nat → Int32) => ∀ j : Nat, a j = if j = 0 then r p.toNatClampNeg else if (j : Int) ≤ p.toInt then r (j - 1) else r j) ?_ FU _ ?_ r1 h
  · intro f hf t hI a h
    obtain ⟨i, g⟩ := t
    dsimp only at hI
    obtain ⟨i0, i1, hT⟩ := hI
    unfold f_Mo_toFront_L9 at h
    dsimp only at h
    by_cases c : i ≤ 0
    · rw [if_pos c] at h
      obtain ⟨_, h⟩ := gq_e h
      have c9 := t_le c
      rw [z_0] at c9
      rw [← Option.some.inj h]
      intro j
      unfold upd
      have z : ((0 : Int32)).toNatClampNeg = 0 := rfl
      rw [z]
      by_cases d : j = 0
      · rw [if_pos d, if_pos d]
      · rw [if_neg d, if_neg d, hT j]
        by_cases e : (j : Int) ≤ p.toInt
        · rw [if_pos e, if_pos ⟨by omega, e⟩]
        · rw [if_neg e, if_neg (fun z => e z.2)]
    · rw [if_neg c] at h
      have ip := Int32.not_le.mp c
      have ip9 := t_lt ip
      rw [z_0] at ip9
      obtain ⟨_, h⟩ := gq_e h
      obtain ⟨_, h⟩ := gq_e h
      refine hf _ ?_ a h
      have dt := dec_t (m := i + (-1)) ip rfl
      exact ⟨by show 0 ≤ (i + -1).toInt; omega, by show (i + -1).toInt ≤ p.toInt; omega, tf_s hT ip (Int32.le_iff_toInt_le.mpr i1) (Int32.le_iff_toInt_le.mpr p1) rfl rfl⟩
  · exact ⟨p0, Int.le_refl _, tf_0 _ _⟩
theorem front_RW {dc p : Int32} {r r1 : Nat → Int32} (hd : dc.toInt ≤ 16) (p0 : 0 ≤ p.toInt) (p1 : p.toInt < dc.toInt) (h : f_Mo_toFront r p = some r1) (hR : RW dc r) : RW dc r1 ∧ r1 ((0 : Int32)).toNatClampNeg = r p.toNatClampNeg := by
  have fe := front_e p0 (by omega) h
  have pn := nat_of (n := p) (Int32.le_iff_toInt_le.mpr (by rw [z_0]; exact p0))
  obtain ⟨h1, h2⟩ := hR
  refine ⟨⟨fun j hj => ?_, fun s s0 s1 => ?_⟩, ?_⟩
  · rw [fe j]
    by_cases c : j = 0
    · rw [if_pos c]; exact h1 _ (by omega)
    · rw [if_neg c]
      by_cases d : (j : Int) ≤ p.toInt
      · rw [if_pos d]; exact h1 _ (by omega)
      · rw [if_neg d]; exact h1 _ hj
  · obtain ⟨j, hj, e⟩ := h2 s s0 s1
    by_cases c : j = p.toNatClampNeg
    · refine ⟨0, by omega, ?_⟩
      rw [fe 0, if_pos rfl, ← c]; exact e
    · by_cases d : (j : Int) < p.toInt
      · refine ⟨j + 1, by omega, ?_⟩
        rw [fe (j + 1), if_neg (by omega), if_pos (by omega)]
        exact e
      · refine ⟨j, hj, ?_⟩
        rw [fe j, if_neg (by omega), if_neg (by omega)]
        exact e
  · have z : ((0 : Int32)).toNatClampNeg = 0 := rfl
    rw [z, fe 0, if_pos rfl]
theorem begin_ID {r r1 : Nat → Int32} (h : f_Mo_beginRow r = some r1) : ID r1 16 := by
    unfold f_Mo_beginRow at h
    refine lp_one (fun (t : Int32 × (Nat → Int32)) => 0 ≤ t.1.toInt ∧ t.1.toInt ≤ 16 ∧ ID t.2 t.1) (fun (a : Nat → Int32) => ID a 16) ?_ FU _ ?_ r1 h
    · intro f hf t hI a h
      obtain ⟨i, g⟩ := t
      dsimp only at hI
      obtain ⟨i0, i1, hT⟩ := hI
      unfold f_Mo_beginRow_L2 at h
      dsimp only at h
      by_cases c : (16 : Int32) ≤ i
      · rw [if_pos c] at h
        have c9 := t_le c
        have z16 : (16 : Int32).toInt = 16 := rfl
        have e : i = 16 := Int32.toInt_inj.mp (by omega)
        rw [← Option.some.inj h, ← e]
        exact hT
      · rw [if_neg c] at h
        have c9 := t_lt (Int32.not_le.mp c)
        have z16 : (16 : Int32).toInt = 16 := rfl
        obtain ⟨_, h⟩ := gq_e h
        refine hf _ ?_ a h
        have ii := inc_i (k := i) (by omega) (by omega)
        exact ⟨by show 0 ≤ (i + 1).toInt; omega, by show (i + 1).toInt ≤ 16; omega, id_upd hT (Int32.le_iff_toInt_le.mpr (by rw [z_0]; exact i0)) (Int32.le_iff_toInt_le.mpr (by show i.toInt ≤ 15; omega)) rfl⟩
    · exact ⟨p0_0, i0_l (by decide), id_0 _⟩
theorem begin_RW {dc : Int32} {r r1 : Nat → Int32} (hd : dc.toInt ≤ 16) (h : f_Mo_beginRow r = some r1) : RW dc r1 := by
  have hI := begin_ID h
  have z16 : (16 : Int32).toInt = 16 := rfl
  refine ⟨fun j hj => ?_, fun s s0 s1 => ?_⟩
  · rw [hI j (by omega)]
    have : (Int32.ofNat j).toInt = (j : Int) := Int32.toInt_ofNat_of_lt (by omega)
    omega
  · have sn := nat_of (n := s) (Int32.le_iff_toInt_le.mpr (by rw [z_0]; exact s0))
    refine ⟨s.toNatClampNeg, by omega, ?_⟩
    rw [hI _ (by omega)]
    exact ofn sn
/-- rows of 16, the same -/
def RE (r r9 : Nat → Int32) : Prop := ∀ j : Nat, j < 16 → r j = r9 j
theorem front_RE {r r9 u w : Nat → Int32} {p : Int32} (p0 : 0 ≤ p.toInt) (p1 : p.toInt ≤ 15) (hE : RE r r9) (hu : f_Mo_toFront r p = some u) (hw : f_Mo_toFront r9 p = some w) : RE u w := by
  have pn := nat_of (n := p) (Int32.le_iff_toInt_le.mpr (by rw [z_0]; exact p0))
  intro j hj
  rw [front_e p0 p1 hu j, front_e p0 p1 hw j]
  by_cases c : j = 0
  · rw [if_pos c, if_pos c]; exact hE _ (by omega)
  · rw [if_neg c, if_neg c]
    by_cases d : (j : Int) ≤ p.toInt
    · rw [if_pos d, if_pos d]; exact hE _ (by omega)
    · rw [if_neg d, if_neg d]; exact hE _ hj
theorem nameF_TL2 {kp T0 p n c tc c9 c8 : Int32} {B0 O0 b o o8 r r9 r8 cd le : Nat → Int32} {c1 tc1 : Int32} {b1 r1 : Nat → Int32} (hT : TL kp T0 B0 O0 c tc b c9 o) (n1 : n.toInt ≤ 16) (hE : RE r r9) (hs : ∃ j : Nat, (j : Int) < n.toInt ∧ r9 j = p) (ha : f_FrontNames_tellName kp c n r tc b p = some (c1, r1, tc1, b1)) (hb : f_Mo_name 1 c9 kp r9 o cd le p = some (c8, r8, o8)) : TL kp T0 B0 O0 c1 tc1 b1 c8 o8 ∧ RE r1 r8 := by
  obtain ⟨j, hj, ej⟩ := hs
  unfold f_FrontNames_tellName at ha
  unfold f_Mo_name at hb
  rw [if_neg (by decide)] at hb
  refine lp_two (fun (s t : Int32) => s = t ∧ 0 ≤ s.toInt ∧ s.toInt ≤ j) (fun (a : Int32 × (Nat → Int32) × Int32 × (Nat → Int32)) (d : Int32 × (Nat → Int32) × (Nat → Int32)) => TL kp T0 B0 O0 a.1 a.2.2.1 a.2.2.2 d.1 d.2.2 ∧ RE a.2.1 d.2.1) ?_ _ _ _ _ ?_ _ _ ha hb
  · intro f g hfg k t hI a d ha hb
    obtain ⟨e, k0, k1⟩ := hI
    subst e
    have nk := nat_of (n := k) (Int32.le_iff_toInt_le.mpr (by rw [z_0]; exact k0))
    unfold f_FrontNames_tellName_L2 at ha
    unfold f_Mo_name_L26 at hb
    obtain ⟨_, hb⟩ := gq_e hb
    have ek : r k.toNatClampNeg = r9 k.toNatClampNeg := hE _ (by omega)
    have fin : ∀ a d, (bd (f_BitWriter_tellNumber kp c tc b k) fun (wr_count_4, tb_count_5, tb_bytes_6) => bd (f_FrontNames_toFront r k) fun na_row_7 => some (wr_count_4, na_row_7, tb_count_5, tb_bytes_6)) = some a → (bd (f_Mo_number c9 kp o k) fun (mo_told_4, mo_out_5) => bd (f_Mo_toFront r9 k) fun mo_row_6 => some (mo_told_4, mo_row_6, mo_out_5)) = some d → (TL kp T0 B0 O0 a.1 a.2.2.1 a.2.2.2 d.1 d.2.2 ∧ RE a.2.1 d.2.1) := by
      intro a d ha hb
      obtain ⟨x, hx, ha⟩ := bd_e ha
      obtain ⟨y, hy, hb⟩ := bd_e hb
      obtain ⟨x1, x2, x3⟩ := x
      obtain ⟨y1, y2⟩ := y
      obtain ⟨u, hu, ha⟩ := bd_e ha
      obtain ⟨w, hw, hb⟩ := bd_e hb
      rw [same_front] at hu
      have e := front_RE k0 (by omega) hE hu hw
      have ha := Option.some.inj ha
      have hb := Option.some.inj hb
      subst ha
      subst hb
      exact ⟨number_TL hT k0 (by omega) hx hy, e⟩
    by_cases z : r9 k.toNatClampNeg = p
    · rw [if_pos z] at hb
      by_cases y : n - 1 ≤ k
      · rw [if_pos y] at ha
        exact fin a d ha hb
      · rw [if_neg y] at ha
        obtain ⟨_, ha⟩ := gq_e ha
        rw [if_pos (by rw [ek]; exact z)] at ha
        exact fin a d ha hb
    · rw [if_neg z] at hb
      have kj : k.toInt < j := by
        by_cases q : k.toInt = j
        · exfalso
          apply z
          have : k.toNatClampNeg = j := by omega
          rw [this]
          exact ej
        · omega
      have y : ¬ n - 1 ≤ k := fun q => by
        have := t_le q
        rw [yb (a := n) (b := 1) (by rw [z_1]; omega) (by rw [z_1]; omega), z_1] at this
        omega
      rw [if_neg y] at ha
      obtain ⟨_, ha⟩ := gq_e ha
      rw [if_neg (by rw [ek]; exact z)] at ha
      have ki := inc_i (k := k) (by omega) (by omega)
      exact hfg _ _ ⟨rfl, by omega, by omega⟩ a d ha hb
  · exact ⟨rfl, by decide, by show (0 : Int) ≤ j; omega⟩
/-- the differing samples of an instance: none -/
theorem tdiff_z {kp T0 c tc c9 c8 c1 tc1 p : Int32} {B0 O0 b o o8 b1 : Nat → Int32} {d : Int64} (hT : TL kp T0 B0 O0 c tc b c9 o) (p0 : 0 ≤ p.toInt) (hd : d = 0) (ha : f_Teller_tellDiffers kp c tc b d p = some (c1, tc1, b1)) (hb : f_Mo_bit c9 kp o 0 = some (c8, o8)) : TL kp T0 B0 O0 c1 tc1 b1 c8 o8 := by
  unfold f_Teller_tellDiffers at ha
  simp only [jn] at ha
  rw [if_pos (cmp_0.mpr hd)] at ha
  obtain ⟨x, hx, ha⟩ := bd_e ha
  obtain ⟨x1, x2, x3⟩ := x
  dsimp only at ha
  rw [if_pos (cmp_0.mpr hd)] at ha
  have hT1 := bit_TL hT (Or.inl rfl) hx hb
  obtain ⟨gx, egx, ha⟩ := lpx0 ha
  unfold f_Teller_tellDiffers_L38 at ha
  dsimp only at ha
  rw [if_neg (fun z => by have := t_lt z; rw [z_0] at this; omega), if_pos (Int32.le_refl _)] at ha
  obtain ⟨e1, e2, e3⟩ := some3 ha
  subst e1 e2 e3
  exact hT1
/-- .. some -/
theorem tdiff_n {kp T0 c tc c9 c7 c8 c1 tc1 p i : Int32} {B0 O0 b o o7 o8 b1 w h sO : Nat → Int32} {df : Nat → Int64} {d : Int64} (hw : R w 0 8) (hh : R h 0 8) (hT : TL kp T0 B0 O0 c tc b c9 o) (ep : p = w (sO i.toNatClampNeg).toNatClampNeg * h (sO i.toNatClampNeg).toNatClampNeg)
    (hX : BX (w (sO i.toNatClampNeg).toNatClampNeg).toNatClampNeg (h (sO i.toNatClampNeg).toNatClampNeg).toNatClampNeg d (df i.toNatClampNeg)) (hd : ¬ d = 0)
    (ha : f_Teller_tellDiffers kp c tc b d p = some (c1, tc1, b1)) (hb : f_Mo_bit c9 kp o 1 = some (c7, o7)) (hr : f_Mo_runs c7 kp sO h w df o7 i = some (c8, o8)) : TL kp T0 B0 O0 c1 tc1 b1 c8 o8 := by
  unfold f_Teller_tellDiffers at ha
  simp only [jn] at ha
  rw [if_neg (fun z => hd (cmp_0.mp z))] at ha
  obtain ⟨x, hx, ha⟩ := bd_e ha
  obtain ⟨x1, x2, x3⟩ := x
  dsimp only at ha
  rw [if_neg (fun z => hd (cmp_0.mp z))] at ha
  have hT1 := bit_TL hT (Or.inr rfl) hx hb
  have p1 : 1 ≤ p.toInt := by
    have w8 := cl8 hw (sO i.toNatClampNeg).toNatClampNeg
    have h8 := cl8 hh (sO i.toNatClampNeg).toNatClampNeg
    have wt := cl_t hw (sO i.toNatClampNeg).toNatClampNeg
    have ht := cl_t hh (sO i.toNatClampNeg).toNatClampNeg
    generalize hW : (w (sO i.toNatClampNeg).toNatClampNeg).toNatClampNeg = W at *
    generalize hH : (h (sO i.toNatClampNeg).toNatClampNeg).toNatClampNeg = H at *
    have l2 := wh_le w8 h8
    have l3 : ((W * H : Nat) : Int) = (W : Int) * (H : Int) := Int.natCast_mul W H
    have pt : p.toInt = ((W * H : Nat) : Int) := by
      rw [ep, i_mul (a := w (sO i.toNatClampNeg).toNatClampNeg) (b := h (sO i.toNatClampNeg).toNatClampNeg) rfl rfl (by rw [← wt, ← ht, ← l3]; omega) (by rw [← wt, ← ht, ← l3]; omega), ← wt, ← ht, l3]
    by_cases z : W * H = 0
    · exfalso
      apply hd
      apply Int64.toBitVec_inj.mp
      apply BitVec.eq_of_getLsbD_eq
      intro j hj
      show _ = (0 : Int64).toBitVec.getLsbD j
      rw [bit_z, hX.2.1 j (by omega)]
    · omega
  exact runs2 hw hh hT1 ep p1 hX ha hr
/-- naming a symbol leaves the row's first dc entries the dc symbols -/
theorem name_RW {dc c kp p c8 : Int32} {r r8 o o8 cd le : Nat → Int32} (hd : dc.toInt ≤ 16) (hR : RW dc r) (p0 : 0 ≤ p.toInt) (p1 : p.toInt < dc.toInt) (hb : f_Mo_name 1 c kp r o cd le p = some (c8, r8, o8)) : RW dc r8 := by
  obtain ⟨j, hj, ej⟩ := hR.2 p p0 p1
  unfold f_Mo_name at hb
  rw [if_neg (by decide)] at hb
  refine lp_one (fun (k : Int32) => 0 ≤ k.toInt ∧ k.toInt ≤ j) (fun (d : Int32 × (Nat → Int32) × (Nat → Int32)) => RW dc d.2.1) ?_ FU _ ?_ _ hb
  · intro f hf k hI a hb
    obtain ⟨k0, k1⟩ := hI
    have kn := nat_of (n := k) (Int32.le_iff_toInt_le.mpr (by rw [z_0]; exact k0))
    unfold f_Mo_name_L26 at hb
    obtain ⟨_, hb⟩ := gq_e hb
    by_cases c : r k.toNatClampNeg = p
    · rw [if_pos c] at hb
      obtain ⟨y, hy, hb⟩ := bd_e hb
      obtain ⟨y1, y2⟩ := y
      obtain ⟨w, hw, hb⟩ := bd_e hb
      rw [← Option.some.inj hb]
      exact (front_RW hd k0 (by omega) hw hR).1
    · rw [if_neg c] at hb
      have ki := inc_i (k := k) (by omega) (by omega)
      have ne : ¬ k.toInt = j := fun q => c (by rw [show k.toNatClampNeg = j by omega]; exact ej)
      exact hf _ ⟨by omega, by omega⟩ a hb
  · exact ⟨p0_0, by show (0 : Int) ≤ j; omega⟩
