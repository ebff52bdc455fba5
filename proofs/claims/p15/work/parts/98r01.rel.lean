/-! DRAFT (never compiled): the two sides in step. Safety (that both answer) is known (98a..98p); here: IF both answer, the answers are related. -/
theorem lp_two {σ τ ρ π : Type} {F : (σ → Option ρ) → σ → Option ρ} {G : (τ → Option π) → τ → Option π} (I : σ → τ → Prop) (Q : ρ → π → Prop)
    (h : ∀ (f : σ → Option ρ) (g : τ → Option π), (∀ s t, I s t → ∀ a b, f s = some a → g t = some b → Q a b) → ∀ s t, I s t → ∀ a b, F f s = some a → G g t = some b → Q a b) :
    ∀ (n m : Nat) (s : σ) (t : τ), I s t → ∀ a b, lp F n s = some a → lp G m t = some b → Q a b := by
  intro n
  induction n with
  | zero => intro m s t _ a b ha; exact absurd ha (by simp [lp])
  | succ n ih =>
    intro m s t hI a b ha hb
    cases m with
    | zero => exact absurd hb (by simp [lp])
    | succ m => exact h (lp F n) (lp G m) (fun s t hI a b => ih m s t hI a b) s t hI a b ha hb
/-- the first n of two rows are the same -/
def PX (n : Int32) (f g : Nat → Int32) : Prop := ∀ j : Nat, (j : Int) < n.toInt → f j = g j
/-- ways: the same four, TURNED 0 or 1 -/
def WY (f g : Nat → Int32) : Prop := (∀ j : Nat, j < 4 → f j = g j) ∧ (g 1 = 0 ∨ g 1 = 1)
/-- strip = stripOf: by grind over both terms unfolded (isTurned: class 'not 0', reference '= 1': WY) -/
theorem strip2 {W W9 ys ys9 sO sO9 h xs xs9 w : Nat → Int32} {p a b : Int32} (hW : WY W W9) (es : sO p.toNatClampNeg = sO9 p.toNatClampNeg) (ex : xs p.toNatClampNeg = xs9 p.toNatClampNeg) (ey : ys p.toNatClampNeg = ys9 p.toNatClampNeg) (ha : f_Layout_strip W ys sO h xs w p = some a) (hb : f_Mo_stripOf W9 ys9 h sO9 xs9 w p = some b) : a = b := by
  have e0 : W ((0 : Int32)).toNatClampNeg = W9 ((0 : Int32)).toNatClampNeg := hW.1 0 (by decide)
  have e1 : W ((1 : Int32)).toNatClampNeg = W9 ((1 : Int32)).toNatClampNeg := hW.1 1 (by decide)
  have e2 : W ((2 : Int32)).toNatClampNeg = W9 ((2 : Int32)).toNatClampNeg := hW.1 2 (by decide)
  have t1 : W9 ((1 : Int32)).toNatClampNeg = 0 ∨ W9 ((1 : Int32)).toNatClampNeg = 1 := hW.2
  unfold f_Layout_strip f_Layout_cornerT f_Layout_isTurned f_Layout_cornerRow f_Layout_cornerColumn at ha
  unfold f_Mo_stripOf f_Mo_tOf f_Mo_rowOf f_Mo_columnOf at hb
  simp only [gq, bd] at ha hb
  grind
def EN (i : Int32) (f g : Nat → Int32) : Prop := ∀ j : Nat, (j : Int) < i.toInt → f j = g j ∧ 0 ≤ (g j).toInt ∧ (g j).toInt < i.toInt
def HO (i k : Int32) (f g : Nat → Int32) : Prop := ∀ j : Nat, (j : Int) ≤ i.toInt → ¬ (j : Int) = k.toInt → f j = g j ∧ 0 ≤ (g j).toInt ∧ (g j).toInt < i.toInt
theorem en_h {i : Int32} {f g : Nat → Int32} (h : EN i f g) : HO i i f g := fun j h1 h2 => h j (by omega)
theorem dec_t {k m : Int32} (h0 : 0 < k) (e : m = k + (-1)) : m.toInt = k.toInt - 1 := by
  subst e
  have a := t_lt h0
  rw [z_0] at a
  have b := Int32.toInt_le k
  have b9 : k.toInt ≤ 2147483647 := b
  have zm : (-1 : Int32).toInt = -1 := rfl
  rw [ya (a := k) (b := -1) (by rw [zm]; omega) (by rw [zm]; omega), zm]
  rfl
theorem sub_t {k : Int32} (h0 : 0 < k) : (k - 1).toInt = k.toInt - 1 := by
  have a := t_lt h0
  rw [z_0] at a
  have b := Int32.toInt_le k
  have b9 : k.toInt ≤ 2147483647 := b
  rw [yb (a := k) (b := 1) (by rw [z_1]; omega) (by rw [z_1]; omega), z_1]
theorem sub_n {k : Int32} (h0 : 0 < k) : ((k - 1).toNatClampNeg : Int) = k.toInt - 1 := by
  have a := t_lt h0
  rw [z_0] at a
  rw [nat_of (Int32.le_iff_toInt_le.mpr (by rw [z_0, sub_t h0]; omega)), sub_t h0]
theorem ho_s {i k m : Int32} {f g : Nat → Int32} {u v : Int32} (h : HO i k f g) (h0 : 0 < k) (h1 : k ≤ i) (e : m = k + (-1)) (eu : u = f (k - 1).toNatClampNeg) (ev : v = g (k - 1).toNatClampNeg) : HO i m (upd f k.toNatClampNeg u) (upd g k.toNatClampNeg v) := by
  have em := dec_t h0 e
  have sn := sub_n h0
  have nk := nat_of (Int32.le_of_lt h0)
  have b := t_le h1
  have p := h (k - 1).toNatClampNeg (by omega) (by omega)
  intro j hj hn
  unfold upd
  by_cases c : j = k.toNatClampNeg
  · rw [if_pos c, if_pos c, eu, ev]
    exact p
  · rw [if_neg c, if_neg c]
    exact h j hj (by omega)
theorem ho_e {i k m : Int32} {f g : Nat → Int32} (h : HO i k f g) (h0 : 0 ≤ k) (h1 : k ≤ i) (i0 : 0 ≤ i) (i1 : i ≤ 39) (e : m = i + 1) : EN m (upd f k.toNatClampNeg i) (upd g k.toNatClampNeg i) := by
  subst e
  have em := inc_t i0 (Int32.le_trans i1 (by decide))
  have nk := nat_of h0
  have b := t_le h1
  have c0 := t_le i0
  rw [z_0] at c0
  intro j hj
  rw [em] at hj ⊢
  unfold upd
  by_cases c : j = k.toNatClampNeg
  · rw [if_pos c, if_pos c]
    exact ⟨rfl, c0, by omega⟩
  · rw [if_neg c, if_neg c]
    have q := h j (by omega) (by omega)
    exact ⟨q.1, q.2.1, by omega⟩
theorem px_at {n p : Int32} {f g : Nat → Int32} (h : PX n f g) (h0 : 0 ≤ p.toInt) (h1 : p.toInt < n.toInt) : f p.toNatClampNeg = g p.toNatClampNeg := h _ (by rw [nat_of (Int32.le_iff_toInt_le.mpr (by rw [z_0]; exact h0))]; exact h1)
set_option maxHeartbeats 1000000 in
theorem arrange2 {n : Int32} {W W9 ys ys9 sO sO9 h xs xs9 w q q9 a b : Nat → Int32} (n0 : 0 ≤ n) (n1 : n ≤ 40) (hW : WY W W9) (es : PX n sO sO9) (ex : PX n xs xs9) (ey : PX n ys ys9)
    (ha : f_Layout_arrange n W ys sO h xs w q = some a) (hb : f_Mo_sort n q9 W9 ys9 h sO9 xs9 w = some b) : EN n a b := by
  unfold f_Layout_arrange at ha
  unfold f_Mo_sort at hb
  refine lp_two (fun (s t : Int32 × (Nat → Int32)) => s.1 = t.1 ∧ 0 ≤ s.1 ∧ s.1 ≤ n ∧ EN s.1 s.2 t.2) (fun a b => EN n a b) ?_ _ _ _ _ ?_ a b ha hb
  · intro f g hfg s t hI a b ha hb
    obtain ⟨i, qs⟩ := s
    obtain ⟨i9, qt⟩ := t
    dsimp only at hI
    obtain ⟨e, i0, i1, hE⟩ := hI
    subst e
    unfold f_Layout_arrange_L2 at ha
    unfold f_Mo_sort_L2 at hb
    dsimp only at ha hb
    by_cases c : n ≤ i
    · rw [if_pos c] at ha hb
      have e : i = n := Int32.le_antisymm i1 c
      rw [← Option.some.inj ha, ← Option.some.inj hb, ← e]
      exact hE
    · rw [if_neg c] at ha hb
      have il := Int32.not_le.mp c
      have it := t_lt il
      have i0t := t_le i0
      rw [z_0] at i0t
      have n1t := t_le n1
      rw [z_40] at n1t
      have i39 : i ≤ 39 := Int32.le_iff_toInt_le.mpr (by show i.toInt ≤ 39; omega)
      obtain ⟨r, hr, ha⟩ := bd_e ha
      refine lp_two (fun (s t : Int32 × (Nat → Int32)) => s.1 = t.1 ∧ 0 ≤ s.1 ∧ s.1 ≤ i ∧ HO i s.1 s.2 t.2) (fun a b => EN n a b) ?_ _ _ _ _ ?_ a b ha hb
      · intro f1 g1 hfg1 s t hI a b ha hb
        obtain ⟨k, ks⟩ := s
        obtain ⟨k9, kt⟩ := t
        dsimp only at hI
        obtain ⟨e, k0, k1, hH⟩ := hI
        subst e
        unfold f_Layout_arrange_L18 at ha
        unfold f_Mo_sort_L12 at hb
        dsimp only at ha hb
        have fin : ∀ a b, (gq k 40 <| nl (i + (1 : Int32)) fun v => f (v, (upd ks (k).toNatClampNeg i))) = some a → (gq k 40 <| nl (i + (1 : Int32)) fun v => g (v, (upd kt (k).toNatClampNeg i))) = some b → EN n a b := by
          intro a b ha hb
          obtain ⟨_, ha⟩ := gq_e ha
          obtain ⟨_, hb⟩ := gq_e hb
          refine hfg _ _ ?_ a b ha hb
          have em := inc_t i0 (Int32.le_trans i39 (by decide))
          exact ⟨rfl, Int32.le_iff_toInt_le.mpr (by show (0 : Int) ≤ (i + 1).toInt; omega), Int32.le_iff_toInt_le.mpr (by show (i + 1).toInt ≤ n.toInt; omega), ho_e hH k0 k1 i0 i39 rfl⟩
        by_cases d : k ≤ 0
        · rw [if_pos d] at ha hb
          exact fin a b ha hb
        · rw [if_neg d] at ha hb
          have kp := Int32.not_le.mp d
          obtain ⟨_, ha⟩ := gq_e ha
          obtain ⟨_, hb⟩ := gq_e hb
          obtain ⟨r1, hr1, ha⟩ := bd_e ha
          obtain ⟨r2, hr2, hb⟩ := bd_e hb
          obtain ⟨r3, hr3, hb⟩ := bd_e hb
          have sn := sub_n kp
          have kt0 := t_lt kp
          rw [z_0] at kt0
          have k1t := t_le k1
          have pq := hH (k - 1).toNatClampNeg (by omega) (by omega)
          rw [pq.1] at hr1
          have e12 : r1 = r2 := strip2 hW (px_at es pq.2.1 (by omega)) (px_at ex pq.2.1 (by omega)) (px_at ey pq.2.1 (by omega)) hr1 hr2
          have e3 : r = r3 := strip2 hW (px_at es i0t it) (px_at ex i0t it) (px_at ey i0t it) hr hr3
          subst e12
          subst e3
          by_cases c2 : r1 ≤ r
          · rw [if_pos c2] at ha hb
            exact fin a b ha hb
          · rw [if_neg c2] at ha hb
            obtain ⟨_, ha⟩ := gq_e ha
            obtain ⟨_, ha⟩ := gq_e ha
            obtain ⟨_, hb⟩ := gq_e hb
            obtain ⟨_, hb⟩ := gq_e hb
            refine hfg1 _ _ ?_ a b ha hb
            have dt := dec_t (m := k + (-1)) kp rfl
            exact ⟨rfl, Int32.le_iff_toInt_le.mpr (by show (0 : Int) ≤ (k + -1).toInt; omega), Int32.le_iff_toInt_le.mpr (by show (k + -1).toInt ≤ i.toInt; omega), ho_s hH kp k1 rfl rfl rfl⟩
      · exact ⟨rfl, i0, Int32.le_refl _, en_h hE⟩
  · exact ⟨rfl, Int32.le_refl _, n0, fun j hj => by rw [z_0] at hj; omega⟩
