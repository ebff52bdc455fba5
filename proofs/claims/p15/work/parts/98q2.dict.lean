/-! the dictionary: the class's samples and the reference's -/
theorem tq_or {w m : Int64} {j : Nat} (hj : j < 64) (hm : m.toBitVec = BitVec.twoPow 64 j) : (w ||| m) = w ↔ w.toBitVec.getLsbD j = true := by
  rw [← Int64.toBitVec_inj, Int64.toBitVec_or, hm]
  constructor
  · intro h
    have t := congrArg (fun x => x.getLsbD j) h
    simp only [BitVec.getLsbD_or, BitVec.getLsbD_twoPow] at t
    simpa [hj] using t.symm
  · intro h
    apply BitVec.eq_of_getLsbD_eq
    intro i hi
    rw [BitVec.getLsbD_or, BitVec.getLsbD_twoPow]
    by_cases e : j = i
    · subst e; rw [h, Bool.true_or]
    · simp [e]
theorem tq_and {w m : Int64} {j : Nat} (hj : j < 64) (hm : m.toBitVec = BitVec.twoPow 64 j) : (w &&& (m ^^^ (-1))) = w ↔ w.toBitVec.getLsbD j = false := by
  have ha : (-1 : Int64).toBitVec = BitVec.allOnes 64 := by decide
  rw [← Int64.toBitVec_inj, Int64.toBitVec_and, Int64.toBitVec_xor, hm, ha]
  constructor
  · intro h
    have t := congrArg (fun x => x.getLsbD j) h
    simp only [BitVec.getLsbD_and, BitVec.getLsbD_xor, BitVec.getLsbD_twoPow, BitVec.getLsbD_allOnes] at t
    simpa [hj] using t.symm
  · intro h
    apply BitVec.eq_of_getLsbD_eq
    intro i hi
    rw [BitVec.getLsbD_and, BitVec.getLsbD_xor, BitVec.getLsbD_twoPow, BitVec.getLsbD_allOnes]
    by_cases e : j = i
    · subst e; rw [h, Bool.false_and]
    · simp [e, hi]
theorem tq_is {w m : Int64} {j : Nat} (hj : j < 64) (hm : m.toBitVec = BitVec.twoPow 64 j) : (w &&& m) = 0 ↔ w.toBitVec.getLsbD j = false := by
  rw [← Int64.toBitVec_inj, Int64.toBitVec_and, hm]
  constructor
  · intro h
    have t := congrArg (fun x => x.getLsbD j) h
    simp only [BitVec.getLsbD_and, BitVec.getLsbD_twoPow] at t
    simpa [hj] using t
  · intro h
    apply BitVec.eq_of_getLsbD_eq
    intro i hi
    rw [BitVec.getLsbD_and, BitVec.getLsbD_twoPow]
    by_cases e : j = i
    · subst e; rw [h]; simp
    · simp [e]
theorem bit_or {w m : Int64} {j : Nat} (hj : j < 64) (hm : m.toBitVec = BitVec.twoPow 64 j) (i : Nat) : (w ||| m).toBitVec.getLsbD i = (w.toBitVec.getLsbD i || decide (i = j)) := by
  rw [Int64.toBitVec_or, hm, BitVec.getLsbD_or, BitVec.getLsbD_twoPow]
  by_cases e : j = i
  · subst e; simp [hj]
  · simp [e, Ne.symm e]
theorem bit_an {w m : Int64} {j : Nat} (hj : j < 64) (hm : m.toBitVec = BitVec.twoPow 64 j) {i : Nat} (hi : i < 64) : (w &&& (m ^^^ (-1))).toBitVec.getLsbD i = (w.toBitVec.getLsbD i && !decide (i = j)) := by
  have ha : (-1 : Int64).toBitVec = BitVec.allOnes 64 := by decide
  rw [Int64.toBitVec_and, Int64.toBitVec_xor, hm, ha, BitVec.getLsbD_and, BitVec.getLsbD_xor, BitVec.getLsbD_twoPow, BitVec.getLsbD_allOnes]
  by_cases e : j = i
  · subst e; simp [hj]
  · simp [e, Ne.symm e, hi]
theorem one_sh : ∀ k : Nat, k < 64 → ((1 : Int64) <<< ((Int32.ofNat k).toInt64 &&& 63)).toBitVec = BitVec.twoPow 64 k := by decide +kernel
theorem one_at {n : Int32} {k : Nat} (h : n.toInt = (k : Int)) (hk : k < 64) : ((1 : Int64) <<< (n.toInt64 &&& 63)).toBitVec = BitVec.twoPow 64 k := by
  have e : n = Int32.ofNat k := (ofn h.symm).symm
  rw [e]
  exact one_sh k hk
theorem cmp_0 {x y : Int64} : lg_cmp x y = 0 ↔ x = y := by
  unfold lg_cmp
  constructor
  · intro h
    by_cases c : x > y
    · rw [if_pos c] at h; exact absurd h (by decide)
    · rw [if_neg c] at h
      by_cases d : x = y
      · exact d
      · rw [if_neg d] at h; exact absurd h (by decide)
  · intro h
    subst h
    rw [if_neg (Int64.lt_irrefl), if_pos rfl]
/-- bit (x, v) of a symbol, in the class at v * width + x, in the reference at 8 v + x -/
def SR (w : Nat → Int32) (s d : Nat → Int64) : Prop := ∀ i : Nat, i < 16 → ∀ x v : Nat, x < (w i).toNatClampNeg → v < 8 → (s i).toBitVec.getLsbD (v * (w i).toNatClampNeg + x) = (d i).toBitVec.getLsbD (8 * v + x)
theorem ix_inj {w x v x9 v9 : Nat} (hx : x < w) (hx9 : x9 < w) (h : v * w + x = v9 * w + x9) : v = v9 ∧ x = x9 := by
  have a : (v * w + x) / w = v := by
    rw [Nat.mul_comm, Nat.mul_add_div (by omega), Nat.div_eq_of_lt hx]; omega
  have b : (v9 * w + x9) / w = v9 := by
    rw [Nat.mul_comm, Nat.mul_add_div (by omega), Nat.div_eq_of_lt hx9]; omega
  have c : v = v9 := by rw [← a, ← b, h]
  subst c
  exact ⟨rfl, by omega⟩
theorem sr_sym {w : Nat → Int32} {s d : Nat → Int64} {i : Nat} {p : Int32} (h : SR w s d) : SR (upd w i p) (vp_updL s i 0) (vp_updL d i 0) := by
  intro j hj x v hx hv
  unfold upd at hx ⊢
  unfold vp_updL
  by_cases c : j = i
  · simp only [c, if_true]
    show (0#64).getLsbD _ = (0#64).getLsbD _
    simp
  · simp only [c, if_false] at hx ⊢
    exact h j hj x v hx hv
theorem nat_le {a : Int32} {n : Nat} (h0 : 0 ≤ a) (h : a.toInt ≤ (n : Int)) : a.toNatClampNeg ≤ n := by
  have := nat_of h0
  omega
set_option maxHeartbeats 1000000 in
theorem sr_put {w : Nat → Int32} {s d : Nat → Int64} {i x v : Nat} {m m9 : Int64} {W : Nat} (h : SR w s d) (hi : i < 16) (eW : (w i).toNatClampNeg = W) (hW : W ≤ 8) (hx : x < W) (hv : v < 8) (hm : m.toBitVec = BitVec.twoPow 64 (v * W + x)) (hm9 : m9.toBitVec = BitVec.twoPow 64 (8 * v + x)) :
    SR w (vp_updL s i (s i ||| m)) (vp_updL d i (d i ||| m9)) ∧ SR w (vp_updL s i (s i &&& (m ^^^ (-1)))) (vp_updL d i (d i &&& (m9 ^^^ (-1)))) := by
  have b1 : v * W ≤ 7 * 8 := Nat.mul_le_mul (by omega) hW
  constructor
  · intro j hj x9 v9 hx9 hv9
    unfold vp_updL
    by_cases c : j = i
    · subst c
      simp only [if_true]
      rw [bit_or (j := v * W + x) (by omega) hm, bit_or (j := 8 * v + x) (by omega) hm9, h j hj x9 v9 hx9 hv9, eW]
      rw [eW] at hx9
      congr 1
      have : (v9 * W + x9 = v * W + x) ↔ (8 * v9 + x9 = 8 * v + x) := by
        constructor
        · intro q
          obtain ⟨e1, e2⟩ := ix_inj hx9 hx q
          omega
        · intro q
          have e1 : v9 = v := by omega
          have e2 : x9 = x := by omega
          rw [e1, e2]
      exact decide_eq_decide.mpr this
    · simp only [c, if_false]
      exact h j hj x9 v9 hx9 hv9
  · intro j hj x9 v9 hx9 hv9
    unfold vp_updL
    by_cases c : j = i
    · subst c
      simp only [if_true]
      have b2 : v9 * W ≤ 7 * 8 := Nat.mul_le_mul (by omega) hW
      rw [eW] at hx9
      rw [bit_an (j := v * W + x) (by omega) hm (by rw [eW]; omega), bit_an (j := 8 * v + x) (by omega) hm9 (by omega), h j hj x9 v9 (by rw [eW]; exact hx9) hv9, eW]
      congr 2
      have : (v9 * W + x9 = v * W + x) ↔ (8 * v9 + x9 = 8 * v + x) := by
        constructor
        · intro q
          obtain ⟨e1, e2⟩ := ix_inj hx9 hx q
          omega
        · intro q
          have e1 : v9 = v := by omega
          have e2 : x9 = x := by omega
          rw [e1, e2]
      exact decide_eq_decide.mpr this
    · simp only [c, if_false]
      exact h j hj x9 v9 hx9 hv9
theorem updL_same (f : Nat → Int64) (k : Nat) (x : Int64) : vp_updL f k x k = x := by
  unfold vp_updL
  rw [if_pos rfl]
set_option maxHeartbeats 2000000 in
set_option maxRecDepth 20000 in
/-- put, in the class and in the reference -/
theorem pt_TM (out : Nat → Int64) (c : Int32) (w h : Nat → Int32) (s d : Nat → Int64) (p1 p2 p3 p4 : Int32) (hc : 0 ≤ c ∧ c ≤ 16) (hw : R w 0 8) (hh : R h 0 8) (hs : SR w s d) (h4 : p4 = 0 ∨ p4 = 1) :
    (f_Law_put out c w h s p1 p2 p3 p4 = some (1, out, s) ∧ f_Mo_put c d w h p1 p2 p3 p4 = some (0, 1, d)) ∨
    ∃ (q : Int32) (s9 d9 : Nat → Int64), f_Law_put out c w h s p1 p2 p3 p4 = some (0, vp_updL out ((0 : Int32)).toNatClampNeg (if q = 0 then 0 else 1), s9) ∧ f_Mo_put c d w h p1 p2 p3 p4 = some (q, 0, d9) ∧ SR w s9 d9 := by
  have z01 : ¬ (1 : Int32) ≤ 0 := by decide
  have z00 : (0 : Int32) ≤ 0 := by decide
  have n10 : ¬ (1 : Int32) = 0 := by decide
  have b19 : (1 : Int32) = 0 ∨ (1 : Int32) = 1 := Or.inr rfl
  by_cases a1 : p1 < 0
  · left
    constructor
    · simp [f_Law_put, f_Top_put, f_Dictionary_has, f_Top_isWithin, bd, jn, bz, a1]
    · simp only [f_Mo_put, f_Mo_isIn, bd, jn, if_pos a1, Option.bind_some, if_true, if_neg z01]
  by_cases a2 : c - 1 < p1
  · left
    constructor
    · simp [f_Law_put, f_Top_put, f_Dictionary_has, f_Top_isWithin, bd, jn, bz, a1, a2]
    · simp only [f_Mo_put, f_Mo_isIn, bd, jn, if_neg a1, if_pos a2, Option.bind_some, if_true, if_neg z01]
  have i0 : 0 ≤ p1 := Int32.not_lt.mp a1
  have i1 : p1 < 16 := by
    have q := Int32.not_lt.mp a2
    have y := yb (a := c) (b := 1) (by rw [z_1]; have := t_le hc.1; rw [z_0] at this; omega) (by rw [z_1]; have := t_le hc.2; rw [z_16] at this; omega)
    have q2 := t_le q
    rw [y, z_1] at q2
    have q3 := t_le hc.2
    rw [z_16] at q3
    exact Int32.lt_iff_toInt_lt.mpr (by rw [z_16]; omega)
  have g := in_gq (n := 16) (N := 16) rfl i0 i1
  have ni := nat_of i0
  have t1 := t_lt i1
  rw [z_16] at t1
  have hi : p1.toNatClampNeg < 16 := by omega
  have wr := hw p1.toNatClampNeg
  have hr := hh p1.toNatClampNeg
  by_cases a3 : p2 < 0
  · left
    constructor
    · simp only [f_Law_put, f_Top_put, f_Dictionary_has, f_Dictionary_hasSample, f_Top_isWithin, bd, jn, bz, gq, if_neg a1, if_neg a2, if_pos a3, if_neg g, if_neg n10, or_true, Option.bind_some, if_true]
    · simp only [f_Mo_put, f_Mo_isIn, f_Mo_isSample, bd, jn, gq, if_neg g, if_neg a1, if_neg a2, if_pos a3, if_neg n10, Option.bind_some, if_true, if_neg z01]
  by_cases a4 : w p1.toNatClampNeg - 1 < p2
  · left
    constructor
    · simp only [f_Law_put, f_Top_put, f_Dictionary_has, f_Dictionary_hasSample, f_Top_isWithin, bd, jn, bz, gq, if_neg a1, if_neg a2, if_neg a3, if_pos a4, if_neg g, if_neg n10, or_true, Option.bind_some, if_true]
    · simp only [f_Mo_put, f_Mo_isIn, f_Mo_isSample, bd, jn, gq, if_neg g, if_neg a1, if_neg a2, if_neg a3, if_pos a4, if_neg n10, Option.bind_some, if_true, if_neg z01]
  by_cases a5 : p3 < 0
  · left
    constructor
    · simp only [f_Law_put, f_Top_put, f_Dictionary_has, f_Dictionary_hasSample, f_Top_isWithin, bd, jn, bz, gq, if_neg a1, if_neg a2, if_neg a3, if_neg a4, if_pos a5, if_neg g, if_neg n10, or_true, Option.bind_some, if_true]
    · simp only [f_Mo_put, f_Mo_isIn, f_Mo_isSample, bd, jn, gq, if_neg g, if_neg a1, if_neg a2, if_neg a3, if_neg a4, if_pos a5, if_neg n10, Option.bind_some, if_true, if_neg z01]
  by_cases a6 : h p1.toNatClampNeg - 1 < p3
  · left
    constructor
    · simp only [f_Law_put, f_Top_put, f_Dictionary_has, f_Dictionary_hasSample, f_Top_isWithin, bd, jn, bz, gq, if_neg a1, if_neg a2, if_neg a3, if_neg a4, if_neg a5, if_pos a6, if_neg g, if_neg n10, or_true, Option.bind_some, if_true]
    · simp only [f_Mo_put, f_Mo_isIn, f_Mo_isSample, bd, jn, gq, if_neg g, if_neg a1, if_neg a2, if_neg a3, if_neg a4, if_neg a5, if_pos a6, if_neg n10, Option.bind_some, if_true, if_neg z01]
  right
  have x0 : 0 ≤ p2 := Int32.not_lt.mp a3
  have v0 : 0 ≤ p3 := Int32.not_lt.mp a5
  have z8 : (8 : Int32).toInt = 8 := rfl
  have wt0 := t_le wr.1
  have wt1 := t_le wr.2
  have ht0 := t_le hr.1
  have ht1 := t_le hr.2
  rw [z_0] at wt0 ht0
  rw [z8] at wt1 ht1
  have x1 : p2.toInt + 1 ≤ (w p1.toNatClampNeg).toInt := by
    have q := t_le (Int32.not_lt.mp a4)
    rw [yb (a := w p1.toNatClampNeg) (b := 1) (by rw [z_1]; omega) (by rw [z_1]; omega), z_1] at q
    omega
  have v1 : p3.toInt + 1 ≤ (h p1.toNatClampNeg).toInt := by
    have q := t_le (Int32.not_lt.mp a6)
    rw [yb (a := h p1.toNatClampNeg) (b := 1) (by rw [z_1]; omega) (by rw [z_1]; omega), z_1] at q
    omega
  have xt := t_le x0
  have vt := t_le v0
  rw [z_0] at xt vt
  have nx := nat_of x0
  have nv := nat_of v0
  have nw9 := nat_of wr.1
  have pm0 : 0 ≤ p3.toInt * (w p1.toNatClampNeg).toInt := Int.mul_nonneg vt wt0
  have pm1 : p3.toInt * (w p1.toNatClampNeg).toInt ≤ 7 * 8 := Int.mul_le_mul (by omega) wt1 wt0 (by decide)
  have e1 := i_mul (a := p3) (b := w p1.toNatClampNeg) rfl rfl (by omega) (by omega)
  have e2 : (p3 * w p1.toNatClampNeg + p2).toInt = p3.toInt * (w p1.toNatClampNeg).toInt + p2.toInt := by
    rw [ya (by rw [e1]; omega) (by rw [e1]; omega), e1]
  have e3 : ((8 : Int32) * p3 + p2).toInt = 8 * p3.toInt + p2.toInt := by
    have y := i_mul (a := 8) (b := p3) z8 rfl (by omega) (by omega)
    rw [ya (by rw [y]; omega) (by rw [y]; omega), y]
  have k1 : (p3 * w p1.toNatClampNeg + p2).toInt = ((p3.toNatClampNeg * (w p1.toNatClampNeg).toNatClampNeg + p2.toNatClampNeg : Nat) : Int) := by
    rw [e2, Int.natCast_add, Int.natCast_mul, nx, nv, nw9]
  have k2 : ((8 : Int32) * p3 + p2).toInt = ((8 * p3.toNatClampNeg + p2.toNatClampNeg : Nat) : Int) := by
    rw [e3, Int.natCast_add, Int.natCast_mul, nx, nv]; rfl
  have j1 : p3.toNatClampNeg * (w p1.toNatClampNeg).toNatClampNeg + p2.toNatClampNeg < 64 := by
    have : ((p3.toNatClampNeg * (w p1.toNatClampNeg).toNatClampNeg + p2.toNatClampNeg : Nat) : Int) < 64 := by rw [← k1, e2]; omega
    omega
  have j2 : 8 * p3.toNatClampNeg + p2.toNatClampNeg < 64 := by omega
  have m1 := one_at k1 j1
  have m2 := one_at k2 j2
  have bs := hs p1.toNatClampNeg hi p2.toNatClampNeg p3.toNatClampNeg (by omega) (by omega)
  have pu := sr_put (x := p2.toNatClampNeg) (v := p3.toNatClampNeg) hs hi rfl (by omega) (by omega) (by omega) m1 m2
  have tT : f_Law_put out c w h s p1 p2 p3 p4 = (if (lg_cmp (if p4 = 0 then s p1.toNatClampNeg &&& (((1 : Int64) <<< ((p3 * w p1.toNatClampNeg + p2).toInt64 &&& 63)) ^^^ (-1)) else s p1.toNatClampNeg ||| ((1 : Int64) <<< ((p3 * w p1.toNatClampNeg + p2).toInt64 &&& 63))) (s p1.toNatClampNeg)) = 0 then some (0, vp_updL out ((0 : Int32)).toNatClampNeg 0, vp_updL s p1.toNatClampNeg (if p4 = 0 then s p1.toNatClampNeg &&& (((1 : Int64) <<< ((p3 * w p1.toNatClampNeg + p2).toInt64 &&& 63)) ^^^ (-1)) else s p1.toNatClampNeg ||| ((1 : Int64) <<< ((p3 * w p1.toNatClampNeg + p2).toInt64 &&& 63)))) else some (0, vp_updL out ((0 : Int32)).toNatClampNeg 1, vp_updL s p1.toNatClampNeg (if p4 = 0 then s p1.toNatClampNeg &&& (((1 : Int64) <<< ((p3 * w p1.toNatClampNeg + p2).toInt64 &&& 63)) ^^^ (-1)) else s p1.toNatClampNeg ||| ((1 : Int64) <<< ((p3 * w p1.toNatClampNeg + p2).toInt64 &&& 63))))) := by
    have g0 := in_gq (i := 0) (n := 1) (N := 1) rfl (by decide) (by decide)
    have b1 : (1 : Int32) = 0 ∨ (1 : Int32) = 1 := Or.inr rfl
    rcases h4 with r4 | r4
    · subst r4
      simp only [f_Law_put, f_Top_put, f_Dictionary_has, f_Dictionary_hasSample, f_Dictionary_sampleNumber, f_Top_withBit, f_Top_isWithin, bd, jn, nl, bz, gq, if_neg a1, if_neg a2, if_neg a3, if_neg a4, if_neg a5, if_neg a6, if_neg g, if_neg g0, if_neg n10, or_true, Option.bind_some, if_true, updL_same]
      split <;> rfl
    · subst r4
      simp only [f_Law_put, f_Top_put, f_Dictionary_has, f_Dictionary_hasSample, f_Dictionary_sampleNumber, f_Top_withBit, f_Top_isWithin, bd, jn, nl, bz, gq, if_neg a1, if_neg a2, if_neg a3, if_neg a4, if_neg a5, if_neg a6, if_neg g, if_neg g0, if_neg n10, or_true, if_true, Option.bind_some, updL_same]
      split <;> rfl
  have tM : f_Mo_put c d w h p1 p2 p3 p4 = some (if (if d p1.toNatClampNeg &&& ((1 : Int64) <<< (((8 : Int32) * p3 + p2).toInt64 &&& 63)) = 0 then (0 : Int32) else 1) = p4 then 0 else 1, 0, vp_updL d p1.toNatClampNeg (if p4 = 0 then d p1.toNatClampNeg &&& (((1 : Int64) <<< (((8 : Int32) * p3 + p2).toInt64 &&& 63)) ^^^ (-1)) else d p1.toNatClampNeg ||| ((1 : Int64) <<< (((8 : Int32) * p3 + p2).toInt64 &&& 63)))) := by
    by_cases bb : d p1.toNatClampNeg &&& ((1 : Int64) <<< (((8 : Int32) * p3 + p2).toInt64 &&& 63)) = 0
    · have bb9 := cmp_0.mpr bb
      rcases h4 with r4 | r4
      · subst r4
        simp only [f_Mo_put, f_Mo_isIn, f_Mo_isSample, bd, jn, nl, gq, if_neg g, if_neg a1, if_neg a2, if_neg a3, if_neg a4, if_neg a5, if_neg a6, if_neg n10, if_pos z00, if_pos bb, if_pos bb9, Option.bind_some, if_true]
      · subst r4
        have q01 : ¬ (0 : Int32) = 1 := by decide
        simp only [f_Mo_put, f_Mo_isIn, f_Mo_isSample, bd, jn, nl, gq, if_neg g, if_neg a1, if_neg a2, if_neg a3, if_neg a4, if_neg a5, if_neg a6, if_neg n10, if_pos z00, if_pos bb, if_pos bb9, Option.bind_some, if_neg q01]
    · have bb9 : ¬ lg_cmp (d p1.toNatClampNeg &&& ((1 : Int64) <<< (((8 : Int32) * p3 + p2).toInt64 &&& 63))) 0 = 0 := fun q => bb (cmp_0.mp q)
      rcases h4 with r4 | r4
      · subst r4
        simp only [f_Mo_put, f_Mo_isIn, f_Mo_isSample, bd, jn, nl, gq, if_neg g, if_neg a1, if_neg a2, if_neg a3, if_neg a4, if_neg a5, if_neg a6, if_neg n10, if_pos z00, if_neg bb, if_neg bb9, Option.bind_some, if_true]
      · subst r4
        simp only [f_Mo_put, f_Mo_isIn, f_Mo_isSample, bd, jn, nl, gq, if_neg g, if_neg a1, if_neg a2, if_neg a3, if_neg a4, if_neg a5, if_neg a6, if_neg n10, if_pos z00, if_neg bb, if_neg bb9, Option.bind_some, if_true]
  rcases h4 with r4 | r4
  · subst r4
    rw [if_pos rfl] at tM
    rw [if_pos rfl] at tT
    by_cases bb : (s p1.toNatClampNeg).toBitVec.getLsbD (p3.toNatClampNeg * (w p1.toNatClampNeg).toNatClampNeg + p2.toNatClampNeg) = false
    · have c1 := cmp_0.mpr ((tq_and j1 m1).mpr bb)
      have c2 := (tq_is j2 m2).mpr (by rw [← bs]; exact bb)
      rw [if_pos c1] at tT
      rw [if_pos c2, if_pos rfl] at tM
      exact ⟨0, _, _, by rw [if_pos rfl]; exact tT, tM, pu.2⟩
    · have c1 : ¬ _ := fun q => bb ((tq_and j1 m1).mp (cmp_0.mp q))
      have c2 : ¬ _ := fun q => bb (by rw [bs]; exact (tq_is j2 m2).mp q)
      rw [if_neg c1] at tT
      rw [if_neg c2, if_neg n10] at tM
      exact ⟨1, _, _, by rw [if_neg n10]; exact tT, tM, pu.2⟩
  · subst r4
    rw [if_neg n10] at tM
    rw [if_neg n10] at tT
    by_cases bb : (s p1.toNatClampNeg).toBitVec.getLsbD (p3.toNatClampNeg * (w p1.toNatClampNeg).toNatClampNeg + p2.toNatClampNeg) = false
    · have c1 : ¬ _ := fun q => absurd ((tq_or j1 m1).mp (cmp_0.mp q)) (by rw [bb]; decide)
      have c2 := (tq_is j2 m2).mpr (by rw [← bs]; exact bb)
      rw [if_neg c1] at tT
      rw [if_pos c2, if_neg (by decide)] at tM
      exact ⟨1, _, _, by rw [if_neg n10]; exact tT, tM, pu.1⟩
    · have bt : (s p1.toNatClampNeg).toBitVec.getLsbD (p3.toNatClampNeg * (w p1.toNatClampNeg).toNatClampNeg + p2.toNatClampNeg) = true := by simpa using bb
      have c1 := cmp_0.mpr ((tq_or j1 m1).mpr bt)
      have c2 : ¬ _ := fun q => bb (by rw [bs]; exact (tq_is j2 m2).mp q)
      rw [if_pos c1] at tT
      rw [if_neg c2, if_pos rfl] at tM
      exact ⟨0, _, _, by rw [if_pos rfl]; exact tT, tM, pu.1⟩
