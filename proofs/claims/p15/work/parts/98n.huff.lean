/-! joining the two least: how many are left -/
def cnt (u w : Nat → Int32) : Nat → Nat
  | 0 => 0
  | n + 1 => cnt u w n + (if u n = 0 ∧ 0 < w n then 1 else 0)
theorem cnt_some (u w : Nat → Int32) : ∀ n : Nat, 1 ≤ cnt u w n → ∃ j, j < n ∧ u j = 0 ∧ 0 < w j := by
  intro n
  induction n with
  | zero => intro h; exact absurd (show 1 ≤ 0 from h) (by decide)
  | succ n ih =>
    intro h
    by_cases c : u n = 0 ∧ 0 < w n
    · exact ⟨n, Nat.lt_succ_self n, c⟩
    · unfold cnt at h
      rw [if_neg c] at h
      obtain ⟨j, hj, e⟩ := ih h
      exact ⟨j, Nat.lt_succ_of_lt hj, e⟩
theorem cnt_mono (u w : Nat → Int32) {m n : Nat} (h : m ≤ n) : cnt u w m ≤ cnt u w n := by
  induction n with
  | zero => rw [Nat.le_zero.mp h]; exact Nat.le_refl _
  | succ n ih =>
    by_cases c : m = n + 1
    · subst c; exact Nat.le_refl _
    · have h1 := ih (by omega)
      have e : cnt u w (n + 1) = cnt u w n + (if u n = 0 ∧ 0 < w n then 1 else 0) := rfl
      rw [e]
      omega
theorem cnt_eq {u u1 w w1 : Nat → Int32} : ∀ n : Nat, (∀ j, j < n → u1 j = u j ∧ w1 j = w j) → cnt u1 w1 n = cnt u w n := by
  intro n
  induction n with
  | zero => intro _; rfl
  | succ n ih =>
    intro h
    unfold cnt
    rw [ih (fun j hj => h j (by omega)), (h n (by omega)).1, (h n (by omega)).2]
theorem cnt_used {u w : Nat → Int32} {a : Nat} {v : Int32} (hv : ¬ v = 0) (hu : u a = 0) (hw : 0 < w a) : ∀ n : Nat, a < n → cnt (upd u a v) w n + 1 = cnt u w n := by
  intro n
  induction n with
  | zero => intro h; exact absurd h (by omega)
  | succ n ih =>
    intro h
    by_cases c : a = n
    · subst c
      have e : cnt (upd u a v) w a = cnt u w a := cnt_eq a (fun j hj => ⟨by unfold upd; rw [if_neg (by omega)], rfl⟩)
      unfold cnt
      rw [e, if_neg (by unfold upd; rw [if_pos rfl]; exact fun h => hv h.1), if_pos ⟨hu, hw⟩]
    · have e := ih (by omega)
      have f : upd u a v n = u n := by unfold upd; rw [if_neg (by omega)]
      unfold cnt
      rw [f]
      omega
def LN (u w : Nat → Int32) (r n : Int32) : Prop := (r = -1 ∧ ∀ j : Nat, (j : Int) < n.toInt → ¬ (u j = 0 ∧ 0 < w j)) ∨ (0 ≤ r ∧ r.toInt < n.toInt ∧ u r.toNatClampNeg = 0 ∧ 0 < w r.toNatClampNeg)
theorem z_0 : (0 : Int32).toInt = 0 := rfl
theorem z_1 : (1 : Int32).toInt = 1 := rfl
theorem z_15 : (15 : Int32).toInt = 15 := rfl
theorem z_16 : (16 : Int32).toInt = 16 := rfl
theorem z_30 : (30 : Int32).toInt = 30 := rfl
theorem z_31 : (31 : Int32).toInt = 31 := rfl
theorem z_32 : (32 : Int32).toInt = 32 := rfl
theorem z_40 : (40 : Int32).toInt = 40 := rfl
theorem t_le {a b : Int32} (h : a ≤ b) : a.toInt ≤ b.toInt := Int32.le_iff_toInt_le.mp h
theorem t_lt {a b : Int32} (h : a < b) : a.toInt < b.toInt := Int32.lt_iff_toInt_lt.mp h
theorem inc_t {k : Int32} (h0 : 0 ≤ k) (h1 : k ≤ 40) : (k + 1).toInt = k.toInt + 1 := by
  have a := t_le h0
  have b := t_le h1
  rw [z_0] at a
  rw [z_40] at b
  have y := ya (a := k) (b := 1) (by rw [z_1]; omega) (by rw [z_1]; omega)
  rw [y, z_1]
theorem ln_0 (u w : Nat → Int32) : LN u w (-1) 0 := Or.inl ⟨rfl, fun j h => by rw [z_0] at h; omega⟩
theorem ln_keep {u w : Nat → Int32} {r k : Int32} (h : LN u w r k) (h0 : 0 ≤ k) (h1 : k ≤ 30) (hk : ¬ r = -1 ∨ ¬ (u k.toNatClampNeg = 0 ∧ 0 < w k.toNatClampNeg)) : LN u w r (k + 1) := by
  have e := inc_t h0 (Int32.le_trans h1 (by decide))
  have nk := nat_of h0
  rcases h with ⟨hr, h⟩ | ⟨a, b, c⟩
  · rcases hk with hk | hk
    · exact absurd hr hk
    · refine Or.inl ⟨hr, fun j hj => ?_⟩
      rw [e] at hj
      by_cases d : j = k.toNatClampNeg
      · subst d; exact hk
      · exact h j (by omega)
  · exact Or.inr ⟨a, by rw [e]; omega, c⟩
theorem ln_take {u w : Nat → Int32} {k : Int32} (h0 : 0 ≤ k) (h1 : k ≤ 30) (hu : u k.toNatClampNeg = 0) (hw : ¬ w k.toNatClampNeg ≤ 0) : LN u w k (k + 1) :=
  Or.inr ⟨h0, by rw [inc_t h0 (Int32.le_trans h1 (by decide))]; omega, hu, Int32.not_le.mp hw⟩
def ZZ (w u o : Nat → Int32) (n : Int32) : Prop := ∀ j : Nat, (j : Int) < n.toInt → w j = 0 ∧ u j = 0 ∧ o j = -1
theorem zz_0 (w u o : Nat → Int32) : ZZ w u o 0 := fun j h => by rw [z_0] at h; omega
theorem zz_s {w u o : Nat → Int32} {n m : Int32} (h : ZZ w u o n) (h0 : 0 ≤ n) (h1 : n ≤ 31) (e : m = n + 1) : ZZ (upd w n.toNatClampNeg 0) (upd u n.toNatClampNeg (vp_nar .boolean (0 : Int32))) (upd o n.toNatClampNeg (-1)) m := by
  subst e
  have e := inc_t h0 (Int32.le_trans h1 (by decide))
  have nk := nat_of h0
  intro j hj
  rw [e] at hj
  unfold upd
  by_cases c : j = n.toNatClampNeg
  · rw [if_pos c, if_pos c, if_pos c]; exact ⟨rfl, rfl, rfl⟩
  · rw [if_neg c, if_neg c, if_neg c]; exact h j (by omega)
def BW (w : Nat → Int32) (n : Int32) : Prop := ∀ j : Nat, j < 32 → 0 ≤ (w j).toInt ∧ (w j).toInt ≤ n.toInt
theorem bz_w0 {w u o : Nat → Int32} (h : ZZ w u o 32) : BW w 0 := fun j hj => by
  rw [(h j (by rw [z_32]; omega)).1, z_0]
  omega
theorem bz_ws {w : Nat → Int32} {n m s x : Int32} (h : BW w n) (h0 : 0 ≤ n) (h1 : n ≤ 39) (s0 : 0 ≤ s) (s1 : s ≤ 15) (ex : x = w s.toNatClampNeg + 1) (e : m = n + 1) : BW (upd w s.toNatClampNeg x) m := by
  subst e
  have e := inc_t h0 (Int32.le_trans h1 (by decide))
  have ns := nat_of s0
  have b1 := t_le s1
  rw [z_15] at b1
  have bn := t_le h1
  have z39 : (39 : Int32).toInt = 39 := rfl
  rw [z39] at bn
  have hw := h s.toNatClampNeg (by omega)
  intro j hj
  rw [e]
  unfold upd
  by_cases c : j = s.toNatClampNeg
  · rw [if_pos c, ex]
    have y := ya (a := w s.toNatClampNeg) (b := 1) (by rw [z_1]; omega) (by rw [z_1]; omega)
    rw [y, z_1]
    omega
  · rw [if_neg c]
    have := h j hj
    omega
theorem bz_wm {w : Nat → Int32} {n : Int32} (h : BW w n) (h1 : n ≤ 40) : BW w 40 := fun j hj => by
  have a := h j hj
  have b := t_le h1
  omega
def CT (u w : Nat → Int32) (n c : Int32) : Prop := c.toInt = (cnt u w n.toNatClampNeg : Int)
theorem ctn_0 (u w : Nat → Int32) : CT u w 0 0 := rfl
theorem nat_inc {n : Int32} (h0 : 0 ≤ n) (h1 : n ≤ 40) : (n + 1).toNatClampNeg = n.toNatClampNeg + 1 := by
  have e := inc_t h0 h1
  have a := nat_of h0
  have b := t_le h0
  rw [z_0] at b
  have c := nat_of (n := n + 1) (Int32.le_iff_toInt_le.mpr (by rw [z_0, e]; omega))
  omega
theorem ctn_no {u w : Nat → Int32} {n c : Int32} (h : CT u w n c) (h0 : 0 ≤ n) (h1 : n ≤ 15) (hw : w n.toNatClampNeg ≤ 0) : CT u w (n + 1) c := by
  unfold CT at h ⊢
  rw [nat_inc h0 (Int32.le_trans h1 (by decide))]
  unfold cnt
  rw [if_neg (fun q => absurd q.2 (Int32.not_lt.mpr hw))]
  exact h
theorem ctn_yes {u w : Nat → Int32} {n c : Int32} (h : CT u w n c) (h0 : 0 ≤ n) (h1 : n ≤ 15) (c0 : 0 ≤ c) (c1 : c ≤ 16) (hu : u n.toNatClampNeg = 0) (hw : ¬ w n.toNatClampNeg ≤ 0) : CT u w (n + 1) (c + 1) := by
  unfold CT at h ⊢
  rw [nat_inc h0 (Int32.le_trans h1 (by decide)), inc_t c0 (Int32.le_trans c1 (by decide))]
  unfold cnt
  rw [if_pos ⟨hu, Int32.not_le.mp hw⟩]
  omega
def CG (u w : Nat → Int32) (n c : Int32) : Prop := c.toInt ≤ (cnt u w n.toNatClampNeg : Int)
theorem cg_of {u w : Nat → Int32} {n c : Int32} (h : CT u w n c) (h0 : 0 ≤ n) (h1 : n ≤ 16) : CG u w 16 c := by
  unfold CT at h
  unfold CG
  have a := nat_of h0
  have b := t_le h1
  rw [z_16] at b
  have e : (16 : Int32).toNatClampNeg = 16 := rfl
  rw [e]
  have m := cnt_mono u w (m := n.toNatClampNeg) (n := 16) (by omega)
  omega
def HU (u w o : Nat → Int32) (n l : Int32) : Prop := l.toInt ≤ (cnt u w n.toNatClampNeg : Int) ∧ (∀ j : Nat, n.toNatClampNeg ≤ j → j < 32 → u j = 0) ∧ (∀ j : Nat, j < 32 → 0 ≤ (w j).toInt ∧ (w j).toInt ≤ 64 * 2 ^ (n.toNatClampNeg - 16)) ∧ ∀ j : Nat, j < 32 → o j = -1 ∨ (16 ≤ (o j).toInt ∧ (o j).toInt < n.toInt ∧ (j : Int) < (o j).toInt)
theorem hu_0 {u w w0 o : Nat → Int32} {l : Int32} (hc : CG u w 16 l) (hb : BW w 40) (hz : ZZ w0 u o 32) : HU u w o 16 l := by
  refine ⟨hc, fun j _ hj => (hz j (by rw [z_32]; omega)).2.1, fun j hj => ?_, fun j hj => Or.inl (hz j (by rw [z_32]; omega)).2.2⟩
  have a := hb j hj
  rw [z_40] at a
  have e : (16 : Int32).toNatClampNeg - 16 = 0 := rfl
  rw [e]
  omega
theorem ln_pos {u w : Nat → Int32} {r n : Int32} (h : LN u w r n) (h0 : 0 ≤ n) (hc : 1 ≤ cnt u w n.toNatClampNeg) : 0 ≤ r ∧ r.toInt < n.toInt ∧ u r.toNatClampNeg = 0 ∧ 0 < w r.toNatClampNeg := by
  rcases h with ⟨-, h⟩ | h
  · obtain ⟨j, hj, e⟩ := cnt_some u w _ hc
    have a := nat_of h0
    exact absurd e (h j (by omega))
  · exact h
theorem hu_a {u w o : Nat → Int32} {n l a : Int32} (h : HU u w o n l) (ha : LN u w a n) (n0 : 16 ≤ n) (hl : ¬ l ≤ 1) : 0 ≤ a := by
  have b := t_lt (Int32.not_le.mp hl)
  rw [z_1] at b
  have c := h.1
  exact (ln_pos ha (Int32.le_trans (by decide) n0) (by omega)).1
theorem nar1 : vp_nar .boolean (1 : Int32) = 1 := rfl
theorem hu_cnt {u w o : Nat → Int32} {n l a : Int32} (h : HU u w o n l) (ha : LN u w a n) (n0 : 16 ≤ n) (hl : ¬ l ≤ 1) : cnt (upd u a.toNatClampNeg (vp_nar .boolean (1 : Int32))) w n.toNatClampNeg + 1 = cnt u w n.toNatClampNeg := by
  have b := t_lt (Int32.not_le.mp hl)
  rw [z_1] at b
  have c := h.1
  have p := ln_pos ha (Int32.le_trans (by decide) n0) (by omega)
  have na := nat_of p.1
  have nn := nat_of (n := n) (Int32.le_trans (by decide) n0)
  exact cnt_used (by rw [nar1]; decide) p.2.2.1 p.2.2.2 _ (by omega)
theorem hu_b {u w o : Nat → Int32} {n l a b : Int32} (h : HU u w o n l) (ha : LN u w a n) (hb : LN (upd u a.toNatClampNeg (vp_nar .boolean (1 : Int32))) w b n) (n0 : 16 ≤ n) (hl : ¬ l ≤ 1) : 0 ≤ b := by
  have q := t_lt (Int32.not_le.mp hl)
  rw [z_1] at q
  have c := h.1
  have e := hu_cnt h ha n0 hl
  exact (ln_pos hb (Int32.le_trans (by decide) n0) (by omega)).1
theorem pow2 (n : Nat) (h1 : 16 ≤ n) : (2 : Int) ^ (n + 1 - 16) = 2 * 2 ^ (n - 16) := by
  have e : n + 1 - 16 = (n - 16) + 1 := by omega
  rw [e, Int.pow_succ]
  omega
theorem pow_b (k : Nat) (h : k ≤ 15) : (1 : Int) ≤ 2 ^ k ∧ (2 : Int) ^ k ≤ 32768 := by
  have f : ∀ k : Nat, k ≤ 15 → (1 : Int) ≤ 2 ^ k ∧ (2 : Int) ^ k ≤ 32768 := by decide
  exact f k h
set_option maxHeartbeats 1000000 in
theorem hu_s {u w o : Nat → Int32} {n l a b x m k : Int32} (h : HU u w o n l) (ha : LN u w a n) (hb : LN (upd u a.toNatClampNeg (vp_nar .boolean (1 : Int32))) w b n) (n0 : 16 ≤ n) (n1 : n ≤ 30) (hl : ¬ l ≤ 1) (hl2 : l ≤ 16) (ex : x = w a.toNatClampNeg + w b.toNatClampNeg) (em : m = n + 1) (ek : k = l + (-1)) : HU (upd (upd u a.toNatClampNeg (vp_nar .boolean (1 : Int32))) b.toNatClampNeg (vp_nar .boolean (1 : Int32))) (upd w n.toNatClampNeg x) (upd (upd o a.toNatClampNeg n) b.toNatClampNeg n) m k := by
  obtain ⟨h1, h2, h3, h4⟩ := id h
  have zn : (0 : Int32) ≤ n := Int32.le_trans (by decide) n0
  have q := t_lt (Int32.not_le.mp hl)
  rw [z_1] at q
  have q2 := t_le hl2
  rw [z_16] at q2
  have e1 := hu_cnt h ha n0 hl
  have p := ln_pos ha zn (by omega)
  have pb := ln_pos hb zn (by omega)
  have e2 := cnt_used (v := vp_nar .boolean (1 : Int32)) (by rw [nar1]; decide) pb.2.2.1 pb.2.2.2 n.toNatClampNeg (by have := nat_of pb.1; have := nat_of zn; omega)
  have na := nat_of p.1
  have nb := nat_of pb.1
  have nn := nat_of zn
  have t0 := t_le n0
  have t1 := t_le n1
  rw [z_16] at t0
  rw [z_30] at t1
  have mi := inc_t zn (Int32.le_trans n1 (by decide))
  have mn := nat_inc zn (Int32.le_trans n1 (by decide))
  have kk : k.toInt = l.toInt - 1 := by
    subst ek
    have zm : (-1 : Int32).toInt = -1 := rfl
    have y := ya (a := l) (b := -1) (by rw [zm]; omega) (by rw [zm]; omega)
    rw [y, zm]; rfl
  subst em
  have bound := pow_b (n.toNatClampNeg - 16) (by omega)
  have wa := h3 a.toNatClampNeg (by omega)
  have wb := h3 b.toNatClampNeg (by omega)
  have pa := t_lt p.2.2.2
  have pbb := t_lt pb.2.2.2
  rw [z_0] at pa pbb
  have xx : x.toInt = (w a.toNatClampNeg).toInt + (w b.toNatClampNeg).toInt := by
    rw [ex]
    exact ya (by omega) (by omega)
  have f1 : ∀ j : Nat, n.toNatClampNeg ≤ j → j < 32 → upd (upd u a.toNatClampNeg (vp_nar .boolean (1 : Int32))) b.toNatClampNeg (vp_nar .boolean (1 : Int32)) j = 0 := by
    intro j hj hj2
    unfold upd
    rw [if_neg (by omega), if_neg (by omega)]
    exact h2 j hj hj2
  refine ⟨?_, ?_, ?_, ?_⟩
  · rw [mn, kk]
    unfold cnt
    have e3 : cnt (upd (upd u a.toNatClampNeg (vp_nar .boolean (1 : Int32))) b.toNatClampNeg (vp_nar .boolean (1 : Int32))) (upd w n.toNatClampNeg x) n.toNatClampNeg = cnt (upd (upd u a.toNatClampNeg (vp_nar .boolean (1 : Int32))) b.toNatClampNeg (vp_nar .boolean (1 : Int32))) w n.toNatClampNeg := cnt_eq _ (fun j hj => ⟨rfl, by unfold upd; rw [if_neg (by omega)]⟩)
    have e4 : upd w n.toNatClampNeg x n.toNatClampNeg = x := by unfold upd; rw [if_pos rfl]
    rw [e3, e4, if_pos ⟨f1 _ (Nat.le_refl _) (by omega), Int32.lt_iff_toInt_lt.mpr (by rw [z_0]; omega)⟩]
    omega
  · intro j hj hj2
    rw [mn] at hj
    exact f1 j (by omega) hj2
  · intro j hj
    rw [mn, pow2 _ (by omega)]
    unfold upd
    by_cases c : j = n.toNatClampNeg
    · rw [if_pos c, xx]
      omega
    · rw [if_neg c]
      have := h3 j hj
      omega
  · intro j hj
    rw [mi]
    unfold upd
    by_cases c : j = b.toNatClampNeg
    · rw [if_pos c]
      right
      have := pb.2.1
      omega
    · rw [if_neg c]
      by_cases d : j = a.toNatClampNeg
      · rw [if_pos d]
        right
        have := p.2.1
        omega
      · rw [if_neg d]
        rcases h4 j hj with g | g
        · exact Or.inl g
        · right
          omega
def OV (o : Nat → Int32) : Prop := ∀ j : Nat, j < 32 → o j = -1 ∨ (16 ≤ (o j).toInt ∧ (o j).toInt ≤ 30 ∧ (j : Int) < (o j).toInt)
theorem hu_ov {u w o : Nat → Int32} {n l : Int32} (h : HU u w o n l) (h1 : n ≤ 31) : OV o := fun j hj => by
  have t1 := t_le h1
  rw [z_31] at t1
  rcases h.2.2.2 j hj with g | g
  · exact Or.inl g
  · exact Or.inr (by omega)
theorem ov_at {o : Nat → Int32} (h : OV o) (k : Int32) (h0 : 0 ≤ k) (h1 : k ≤ 31) : o k.toNatClampNeg = -1 ∨ (16 ≤ o k.toNatClampNeg ∧ o k.toNatClampNeg ≤ 30 ∧ k < o k.toNatClampNeg) := by
  have a := nat_of h0
  have t1 := t_le h1
  rw [z_31] at t1
  rcases h k.toNatClampNeg (by omega) with g | g
  · exact Or.inl g
  · right
    refine ⟨Int32.le_iff_toInt_le.mpr (by rw [z_16]; omega), Int32.le_iff_toInt_le.mpr (by rw [z_30]; omega), Int32.lt_iff_toInt_lt.mpr (by omega)⟩
