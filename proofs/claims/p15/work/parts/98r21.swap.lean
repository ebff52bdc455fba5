/-! DRAFT: neighbours that change places -/
def sw (f : Nat → Int32) (a b : Nat) : Nat → Int32 := upd (upd f a (f b)) b (f a)
def swL (f : Nat → Int64) (a b : Nat) : Nat → Int64 := vp_updL (vp_updL f a (f b)) b (f a)
theorem sw_at (f : Nat → Int32) (a b j : Nat) : sw f a b j = if j = b then f a else if j = a then f b else f j := rfl
theorem swL_at (f : Nat → Int64) (a b j : Nat) : swL f a b j = if j = b then f a else if j = a then f b else f j := rfl
theorem sw_sw (f : Nat → Int32) (a b : Nat) : sw (sw f a b) a b = f := by
  funext j
  simp only [sw_at]
  by_cases h1 : j = b
  · subst h1
    by_cases h2 : a = j
    · subst h2; simp
    · simp [h2]
  · by_cases h2 : j = a
    · subst h2
      simp [h1]
    · simp [h1, h2]
theorem swL_sw (f : Nat → Int64) (a b : Nat) : swL (swL f a b) a b = f := by
  funext j
  simp only [swL_at]
  by_cases h1 : j = b
  · subst h1
    by_cases h2 : a = j
    · subst h2; simp
    · simp [h2]
  · by_cases h2 : j = a
    · subst h2
      simp [h1]
    · simp [h1, h2]
theorem swap_e {sO xs ys a1 a2 a3 : Nat → Int32} {df a4 : Nat → Int64} {i : Int32} (h : f_Layout_swapWithNext sO xs ys df i = some (a1, a2, a3, a4)) : sw sO i.toNatClampNeg (i + 1).toNatClampNeg = a1 ∧ sw xs i.toNatClampNeg (i + 1).toNatClampNeg = a2 ∧ sw ys i.toNatClampNeg (i + 1).toNatClampNeg = a3 ∧ swL df i.toNatClampNeg (i + 1).toNatClampNeg = a4 := by
  unfold f_Layout_swapWithNext at h
  obtain ⟨_, h⟩ := gq_e h
  dsimp only [nl] at h
  obtain ⟨_, h⟩ := gq_e h
  obtain ⟨_, h⟩ := gq_e h
  obtain ⟨_, h⟩ := gq_e h
  obtain ⟨_, h⟩ := gq_e h
  obtain ⟨_, h⟩ := gq_e h
  obtain ⟨_, h⟩ := gq_e h
  obtain ⟨_, h⟩ := gq_e h
  obtain ⟨_, h⟩ := gq_e h
  obtain ⟨_, h⟩ := gq_e h
  obtain ⟨_, h⟩ := gq_e h
  obtain ⟨_, h⟩ := gq_e h
  obtain ⟨_, h⟩ := gq_e h
  obtain ⟨_, h⟩ := gq_e h
  obtain ⟨_, h⟩ := gq_e h
  obtain ⟨_, h⟩ := gq_e h
  simp only [Option.some.injEq, Prod.mk.injEq] at h
  exact h
theorem change_e {sO xs ys a1 a2 a3 : Nat → Int32} {df a4 : Nat → Int64} {i k : Int32} (h : f_Mo_change sO xs ys df i k = some (a1, a2, a3, a4)) : sw sO i.toNatClampNeg k.toNatClampNeg = a1 ∧ sw xs i.toNatClampNeg k.toNatClampNeg = a2 ∧ sw ys i.toNatClampNeg k.toNatClampNeg = a3 ∧ swL df i.toNatClampNeg k.toNatClampNeg = a4 := by
  unfold f_Mo_change at h
  obtain ⟨_, h⟩ := gq_e h
  dsimp only [nl] at h
  obtain ⟨_, h⟩ := gq_e h
  obtain ⟨_, h⟩ := gq_e h
  obtain ⟨_, h⟩ := gq_e h
  obtain ⟨_, h⟩ := gq_e h
  obtain ⟨_, h⟩ := gq_e h
  obtain ⟨_, h⟩ := gq_e h
  obtain ⟨_, h⟩ := gq_e h
  obtain ⟨_, h⟩ := gq_e h
  obtain ⟨_, h⟩ := gq_e h
  obtain ⟨_, h⟩ := gq_e h
  obtain ⟨_, h⟩ := gq_e h
  obtain ⟨_, h⟩ := gq_e h
  obtain ⟨_, h⟩ := gq_e h
  obtain ⟨_, h⟩ := gq_e h
  obtain ⟨_, h⟩ := gq_e h
  simp only [Option.some.injEq, Prod.mk.injEq] at h
  exact h
theorem gq_in {α : Type} {i : Int32} {n : Nat} {k : Option α} (h : vp_in i n) : gq i n k = k := by
  unfold gq
  exact if_neg h
theorem vp_40 {p : Int32} (h0 : 0 ≤ p.toInt) (h1 : p.toInt < 40) : vp_in p 40 := by
  have pn := nat_of (n := p) (Int32.le_iff_toInt_le.mpr (by rw [z_0]; exact h0))
  show ¬ (p < 0 ∨ 40 ≤ p.toNatClampNeg)
  rintro (z | z)
  · have := t_lt z
    rw [z_0] at this
    omega
  · omega
theorem strip_val {W ys ys9 h sO sO9 xs xs9 w : Nat → Int32} {p q : Int32} (hp : vp_in p 40) (hq : vp_in q 40) (e1 : ys p.toNatClampNeg = ys9 q.toNatClampNeg) (e2 : sO p.toNatClampNeg = sO9 q.toNatClampNeg) (e3 : xs p.toNatClampNeg = xs9 q.toNatClampNeg) : f_Mo_stripOf W ys h sO xs w p = f_Mo_stripOf W ys9 h sO9 xs9 w q := by
  unfold f_Mo_stripOf f_Mo_tOf f_Mo_columnOf f_Mo_rowOf
  simp only [gq_in hp, gq_in hq, e1, e2, e3]
set_option maxHeartbeats 1000000 in
theorem sort2 {n : Int32} {W ys ys9 sO sO9 h xs xs9 w q q9 a b : Nat → Int32} (n0 : 0 ≤ n) (n1 : n ≤ 40) (hst : ∀ p : Int32, 0 ≤ p.toInt → p.toInt < n.toInt → f_Mo_stripOf W ys h sO xs w p = f_Mo_stripOf W ys9 h sO9 xs9 w p)
    (ha : f_Mo_sort n q W ys h sO xs w = some a) (hb : f_Mo_sort n q9 W ys9 h sO9 xs9 w = some b) : EN n a b := by
  unfold f_Mo_sort at ha hb
  refine lp_two (fun (s t : Int32 × (Nat → Int32)) => s.1 = t.1 ∧ 0 ≤ s.1 ∧ s.1 ≤ n ∧ EN s.1 s.2 t.2) (fun a b => EN n a b) ?_ _ _ _ _ ?_ a b ha hb
  · intro f g hfg s t hI a b ha hb
    obtain ⟨i, qs⟩ := s
    obtain ⟨i9, qt⟩ := t
    dsimp only at hI
    obtain ⟨e, i0, i1, hE⟩ := hI
    subst e
    unfold f_Mo_sort_L2 at ha hb
    dsimp only at ha hb
    by_cases c : n ≤ i
    · rw [if_pos c] at ha hb
      have e : i = n := Int32.le_antisymm i1 c
      rw [← Option.some.inj ha, ← Option.some.inj hb, ← e]
      exact hE
    · rw [if_neg c] at ha hb
      have il := Int32.not_le.mp c
      have it := t_lt il
      have i0t := t_le i0
      rw [z_0] at i0t
      have n1t := t_le n1
      rw [z_40] at n1t
      have i39 : i ≤ 39 := Int32.le_iff_toInt_le.mpr (by show i.toInt ≤ 39; omega)
      refine lp_two (fun (s t : Int32 × (Nat → Int32)) => s.1 = t.1 ∧ 0 ≤ s.1 ∧ s.1 ≤ i ∧ HO i s.1 s.2 t.2) (fun a b => EN n a b) ?_ _ _ _ _ ?_ a b ha hb
      · intro f1 g1 hfg1 s t hI a b ha hb
        obtain ⟨k, ks⟩ := s
        obtain ⟨k9, kt⟩ := t
        dsimp only at hI
        obtain ⟨e, k0, k1, hH⟩ := hI
        subst e
        unfold f_Mo_sort_L12 at ha hb
        dsimp only at ha hb
        have fin : ∀ a b, (gq k 40 <| nl (i + (1 : Int32)) fun v => f (v, (upd ks (k).toNatClampNeg i))) = some a → (gq k 40 <| nl (i + (1 : Int32)) fun v => g (v, (upd kt (k).toNatClampNeg i))) = some b → EN n a b := by
          intro a b ha hb
          obtain ⟨_, ha⟩ := gq_e ha
          obtain ⟨_, hb⟩ := gq_e hb
          refine hfg _ _ ?_ a b ha hb
          have em := inc_t i0 (Int32.le_trans i39 (by decide))
          exact ⟨rfl, Int32.le_iff_toInt_le.mpr (by show (0 : Int) ≤ (i + 1).toInt; omega), Int32.le_iff_toInt_le.mpr (by show (i + 1).toInt ≤ n.toInt; omega), ho_e hH k0 k1 i0 i39 rfl⟩
        by_cases d : k ≤ 0
        · rw [if_pos d] at ha hb
          exact fin a b ha hb
        · rw [if_neg d] at ha hb
          have kp := Int32.not_le.mp d
          obtain ⟨_, ha⟩ := gq_e ha
          obtain ⟨_, hb⟩ := gq_e hb
          obtain ⟨r1, hr1, ha⟩ := bd_e ha
          obtain ⟨r0, hr0, ha⟩ := bd_e ha
          obtain ⟨r2, hr2, hb⟩ := bd_e hb
          obtain ⟨r3, hr3, hb⟩ := bd_e hb
          have sn := sub_n kp
          have kt0 := t_lt kp
          rw [z_0] at kt0
          have k1t := t_le k1
          have pq := hH (k - 1).toNatClampNeg (by omega) (by omega)
          rw [pq.1, hst _ pq.2.1 (by omega)] at hr1
          rw [hst i i0t it] at hr0
          have e12 : r1 = r2 := Option.some.inj (hr1.symm.trans hr2)
          have e3 : r0 = r3 := Option.some.inj (hr0.symm.trans hr3)
          subst e12
          subst e3
          by_cases c2 : r1 ≤ r0
          · rw [if_pos c2] at ha hb
            exact fin a b ha hb
          · rw [if_neg c2] at ha hb
            obtain ⟨_, ha⟩ := gq_e ha
            obtain ⟨_, ha⟩ := gq_e ha
            obtain ⟨_, hb⟩ := gq_e hb
            obtain ⟨_, hb⟩ := gq_e hb
            refine hfg1 _ _ ?_ a b ha hb
            have dt := dec_t (m := k + (-1)) kp rfl
            exact ⟨rfl, Int32.le_iff_toInt_le.mpr (by show (0 : Int) ≤ (k + -1).toInt; omega), Int32.le_iff_toInt_le.mpr (by show (k + -1).toInt ≤ i.toInt; omega), ho_s hH kp k1 rfl rfl rfl⟩
      · exact ⟨rfl, i0, Int32.le_refl _, en_h hE⟩
  · exact ⟨rfl, Int32.le_refl _, n0, fun j hj => by rw [z_0] at hj; omega⟩
/-- the layouts of class and reference, and the class's sequence: the order of the reference's sort -/
def OK9 (n dc : Int32) (w h W W9 seq sO xs ys : Nat → Int32) (df : Nat → Int64) (sO9 xs9 ys9 : Nat → Int32) (df9 : Nat → Int64) : Prop := LR n dc w h W sO xs ys df W9 sO9 xs9 ys9 df9 ∧ MR W9 ys9 h sO9 xs9 w ∧ ∀ ord0 ord, f_Mo_sort n ord0 W9 ys9 h sO9 xs9 w = some ord → EN n seq ord
theorem R_sw {f : Nat → Int32} {lo hi : Int32} (h : R f lo hi) (a b : Nat) : R (sw f a b) lo hi := R_upd (R_upd h a (h b)) b (h a)
theorem px_sw {n : Int32} {f g : Nat → Int32} {a b : Nat} (h : PX n f g) (ha : (a : Int) < n.toInt) (hb : (b : Int) < n.toInt) : PX n (sw f a b) (sw g a b) := by
  intro j hj
  rw [sw_at, sw_at, h a ha, h b hb, h j hj]
theorem ok9_swap {n dc i : Int32} {w h W W9 seq sO xs ys sO9 xs9 ys9 : Nat → Int32} {df df9 : Nat → Int64} (hO : OK9 n dc w h W W9 seq sO xs ys df sO9 xs9 ys9 df9) (i0 : 0 ≤ i.toInt) (i1 : i.toInt + 1 < n.toInt) (hs : f_Mo_stripOf W9 ys9 h sO9 xs9 w i = f_Mo_stripOf W9 ys9 h sO9 xs9 w (i + 1)) :
    OK9 n dc w h W W9 seq (sw sO i.toNatClampNeg (i + 1).toNatClampNeg) (sw xs i.toNatClampNeg (i + 1).toNatClampNeg) (sw ys i.toNatClampNeg (i + 1).toNatClampNeg) (swL df i.toNatClampNeg (i + 1).toNatClampNeg) (sw sO9 i.toNatClampNeg (i + 1).toNatClampNeg) (sw xs9 i.toNatClampNeg (i + 1).toNatClampNeg) (sw ys9 i.toNatClampNeg (i + 1).toNatClampNeg) (swL df9 i.toNatClampNeg (i + 1).toNatClampNeg) := by
  obtain ⟨⟨n0, n1, hW, es, ex, ey, hX, hSO⟩, hM, hE⟩ := hO
  have ii := inc_i (k := i) (by omega) (by omega)
  have iN := nat_of (n := i) (Int32.le_iff_toInt_le.mpr (by rw [z_0]; exact i0))
  have iN1 := nat_of (n := i + 1) (Int32.le_iff_toInt_le.mpr (by rw [z_0]; omega))
  have la : (i.toNatClampNeg : Int) < n.toInt := by omega
  have lb : ((i + 1).toNatClampNeg : Int) < n.toInt := by omega
  have hM9 := hM
  obtain ⟨m1, m2, m3, m4, m5, m6⟩ := hM
  refine ⟨⟨n0, n1, hW, px_sw es la lb, px_sw ex la lb, px_sw ey la lb, fun j hj => ?_, fun j hj => ?_⟩, ⟨m1, R_sw m2 _ _, m3, R_sw m4 _ _, R_sw m5 _ _, m6⟩, fun ord0 ord ho => ?_⟩
  · rw [sw_at, swL_at, swL_at]
    by_cases q1 : j = (i + 1).toNatClampNeg
    · rw [if_pos q1, if_pos q1, if_pos q1]; exact hX _ la
    · rw [if_neg q1, if_neg q1, if_neg q1]
      by_cases q2 : j = i.toNatClampNeg
      · rw [if_pos q2, if_pos q2, if_pos q2]; exact hX _ lb
      · rw [if_neg q2, if_neg q2, if_neg q2]; exact hX j hj
  · rw [sw_at]
    by_cases q1 : j = (i + 1).toNatClampNeg
    · rw [if_pos q1]; exact hSO _ la
    · rw [if_neg q1]
      by_cases q2 : j = i.toNatClampNeg
      · rw [if_pos q2]; exact hSO _ lb
      · rw [if_neg q2]; exact hSO j hj
  · have z39 : R (fun _ => (0 : Int32)) 0 39 := fun _ => ⟨by show (0 : Int32) ≤ 0; decide, by show (0 : Int32) ≤ 39; decide⟩
    obtain ⟨o1, e1, _⟩ := s_Mo_sort (mo_instances := n) (mo_ordered := fun _ => 0) ⟨Int32.le_iff_toInt_le.mpr (by rw [z_0]; exact n0), Int32.le_iff_toInt_le.mpr (by rw [z_40]; exact n1)⟩ z39 m1 m2 m3 m4 m5 m6
    have h1 := hE _ _ e1
    have h2 : EN n o1 ord := by
      refine sort2 (Int32.le_iff_toInt_le.mpr (by rw [z_0]; exact n0)) (Int32.le_iff_toInt_le.mpr (by rw [z_40]; exact n1)) (fun p p0 p1 => ?_) e1 ho
      have vp := vp_40 p0 (by omega)
      have vi0 := vp_40 (p := i) i0 (by omega)
      have vi1 := vp_40 (p := i + 1) (by omega) (by omega)
      have pn := nat_of (n := p) (Int32.le_iff_toInt_le.mpr (by rw [z_0]; exact p0))
      by_cases q1 : p = i + 1
      · subst q1
        rw [← hs]
        exact strip_val vi0 vi1 (by rw [sw_at, if_pos rfl]) (by rw [sw_at, if_pos rfl]) (by rw [sw_at, if_pos rfl])
      · have d1 : ¬ p.toNatClampNeg = (i + 1).toNatClampNeg := fun z => q1 (Int32.toInt_inj.mp (by omega))
        by_cases q2 : p = i
        · subst q2
          rw [hs]
          exact strip_val vi1 vi0 (by rw [sw_at, if_neg d1, if_pos rfl]) (by rw [sw_at, if_neg d1, if_pos rfl]) (by rw [sw_at, if_neg d1, if_pos rfl])
        · have d2 : ¬ p.toNatClampNeg = i.toNatClampNeg := fun z => q2 (Int32.toInt_inj.mp (by omega))
          exact strip_val vp vp (by rw [sw_at, if_neg d1, if_neg d2]) (by rw [sw_at, if_neg d1, if_neg d2]) (by rw [sw_at, if_neg d1, if_neg d2])
    intro j hj
    have a1 := h1 j hj
    have a2 := h2 j hj
    exact ⟨a1.1.trans a2.1, a2.2.1, a2.2.2⟩
theorem cn_sw (f : Nat → Int32) (a s : Nat) : ∀ k : Nat, cnI (sw f a (a + 1)) s (a + 2 + k) = cnI f s (a + 2 + k) := by
  intro k
  induction k with
  | zero =>
    have e0 : cnI (sw f a (a + 1)) s a = cnI f s a := cn_px s a (fun j hj => by rw [sw_at, if_neg (by omega), if_neg (by omega)])
    have e1 : sw f a (a + 1) (a + 1) = f a := by rw [sw_at, if_pos rfl]
    have e2 : sw f a (a + 1) a = f (a + 1) := by rw [sw_at, if_neg (by omega), if_pos rfl]
    have u1 : ∀ g : Nat → Int32, cnI g s (a + 2 + 0) = if (g (a + 1)).toNatClampNeg = s then (if (g a).toNatClampNeg = s then cnI g s a + 1 else cnI g s a) + 1 else (if (g a).toNatClampNeg = s then cnI g s a + 1 else cnI g s a) := fun g => rfl
    rw [u1, u1, e0, e1, e2]
    by_cases c1 : (f a).toNatClampNeg = s
    · by_cases c2 : (f (a + 1)).toNatClampNeg = s
      · rw [if_pos c1, if_pos c2, if_pos c2, if_pos c1]
      · rw [if_pos c1, if_neg c2, if_neg c2, if_pos c1]
    · by_cases c2 : (f (a + 1)).toNatClampNeg = s
      · rw [if_neg c1, if_pos c2, if_pos c2, if_neg c1]
      · rw [if_neg c1, if_neg c2, if_neg c2, if_neg c1]
  | succ k ih =>
    have e1 : sw f a (a + 1) (a + 2 + k) = f (a + 2 + k) := by rw [sw_at, if_neg (by omega), if_neg (by omega)]
    have u1 : ∀ g : Nat → Int32, cnI g s (a + 2 + (k + 1)) = if (g (a + 2 + k)).toNatClampNeg = s then cnI g s (a + 2 + k) + 1 else cnI g s (a + 2 + k) := fun g => rfl
    rw [u1, u1, e1, ih]
