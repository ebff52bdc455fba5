theorem tc_clear {w d : Nat → Int32} {n : Nat} {o : Int32 × Int32 × (Nat → Int32) × Int32 × Int32 × (Nat → Int32)} (h : f_Top_clear w n d = some o) : o.1 = 0 := by
  unfold f_Top_clear at h
  obtain ⟨a, _, h⟩ := bd_e h
  obtain ⟨b, _, h⟩ := bd_e h
  have h := Option.some.inj h
  rw [← h]
theorem lp_all {σ ρ : Type} {F : (σ → Option ρ) → σ → Option ρ} (Q : ρ → Prop) (hF : ∀ (self : σ → Option ρ), (∀ s o, self s = some o → Q o) → ∀ s o, F self s = some o → Q o) : ∀ (n : Nat) (s : σ) (o : ρ), lp F n s = some o → Q o := by
  intro n
  induction n with
  | zero => intro s o h; exact absurd h (by simp [lp])
  | succ n ih => intro s o h; exact hF (lp F n) ih s o h
theorem mc_clear {w d : Nat → Int32} {o : Int32 × Int32 × Int32 × Int32 × Int32 × Int32 × (Nat → Int32) × (Nat → Int32)} (h : f_Mo_clear w d = some o) : o.2.1 = 0 := by
  unfold f_Mo_clear at h
  refine lp_all (fun o : Int32 × Int32 × Int32 × Int32 × Int32 × Int32 × (Nat → Int32) × (Nat → Int32) => o.2.1 = 0) ?_ _ _ _ h
  intro self hs s o h
  obtain ⟨v, a⟩ := s
  unfold f_Mo_clear_L32 at h
  dsimp only at h
  by_cases c : (4 : Int32) ≤ v
  · rw [if_pos c] at h
    refine lp_all (fun o : Int32 × Int32 × Int32 × Int32 × Int32 × Int32 × (Nat → Int32) × (Nat → Int32) => o.2.1 = 0) ?_ _ _ _ h
    intro self hs s o h
    obtain ⟨v, b⟩ := s
    unfold f_Mo_clear_L52 at h
    dsimp only at h
    by_cases c : (576 : Int32) ≤ v
    · rw [if_pos c] at h
      have h := Option.some.inj h
      rw [← h]
    · rw [if_neg c] at h
      obtain ⟨_, h⟩ := gq_e h
      exact hs _ _ h
  · rw [if_neg c] at h
    obtain ⟨_, h⟩ := gq_e h
    exact hs _ _ h
theorem sc_add {c : Int32} : c + 1 - 1 = c := by
  have := Int32.add_sub_cancel c 1
  exact this
/-- symbol of the class: which answer, and what changes -/
theorem sy_T (out : Nat → Int64) (c : Int32) (w h : Nat → Int32) (s : Nat → Int64) (p1 p2 : Int32) (hc : 0 ≤ c ∧ c ≤ 16) :
    ((p1 < 1 ∨ 8 < p1 ∨ p2 < 1 ∨ 8 < p2) ∧ f_Law_symbol out c w h s p1 p2 = some (1, out, c, w, h, s)) ∨
    (¬ (p1 < 1 ∨ 8 < p1 ∨ p2 < 1 ∨ 8 < p2) ∧ c = 16 ∧ f_Law_symbol out c w h s p1 p2 = some (2, out, c, w, h, s)) ∨
    (¬ (p1 < 1 ∨ 8 < p1 ∨ p2 < 1 ∨ 8 < p2) ∧ c < 16 ∧ f_Law_symbol out c w h s p1 p2 = some (0, vp_updL out ((0 : Int32)).toNatClampNeg c.toInt64, c + 1, upd w c.toNatClampNeg p1, upd h c.toNatClampNeg p2, vp_updL s c.toNatClampNeg 0)) := by
  by_cases a1 : p1 < 1
  · exact Or.inl ⟨Or.inl a1, by simp [f_Law_symbol, f_Top_symbol, f_Top_isWithin, bd, jn, a1]⟩
  by_cases a2 : 8 < p1
  · exact Or.inl ⟨Or.inr (Or.inl a2), by simp [f_Law_symbol, f_Top_symbol, f_Top_isWithin, bd, jn, a1, a2]⟩
  by_cases a3 : p2 < 1
  · exact Or.inl ⟨Or.inr (Or.inr (Or.inl a3)), by simp [f_Law_symbol, f_Top_symbol, f_Top_isWithin, bd, jn, a1, a2, a3]⟩
  by_cases a4 : 8 < p2
  · exact Or.inl ⟨Or.inr (Or.inr (Or.inr a4)), by simp [f_Law_symbol, f_Top_symbol, f_Top_isWithin, bd, jn, a1, a2, a3, a4]⟩
  have nb : ¬ (p1 < 1 ∨ 8 < p1 ∨ p2 < 1 ∨ 8 < p2) := by
    rintro (q | q | q | q)
    · exact a1 q
    · exact a2 q
    · exact a3 q
    · exact a4 q
  by_cases a5 : c < 16
  · refine Or.inr (Or.inr ⟨nb, a5, ?_⟩)
    have g := in_gq (n := 16) (N := 16) rfl hc.1 a5
    have g0 := in_gq (i := 0) (n := 1) (N := 1) rfl (by decide) (by decide)
    have e : c + 1 - 1 = c := sc_add
    simp only [f_Law_symbol, f_Top_symbol, f_Top_isWithin, f_Dictionary_add, bd, jn, nl, gq, if_neg a1, if_neg a2, if_neg a3, if_neg a4, if_pos a5, if_neg g, if_neg g0, Option.bind_some, e]
    rfl
  · have e : c = 16 := by
      have q := Int32.not_lt.mp a5
      exact Int32.le_antisymm hc.2 q
    exact Or.inr (Or.inl ⟨nb, e, by simp [f_Law_symbol, f_Top_symbol, f_Top_isWithin, bd, jn, a1, a2, a3, a4, a5]⟩)
/-- symbol of the reference -/
theorem sy_M (c : Int32) (w h : Nat → Int32) (s : Nat → Int64) (p1 p2 : Int32) (hc : 0 ≤ c ∧ c ≤ 16) :
    ((p1 < 1 ∨ 8 < p1 ∨ p2 < 1 ∨ 8 < p2) ∧ f_Mo_symbol c w h s p1 p2 = some (0, 1, c, w, h, s)) ∨
    (¬ (p1 < 1 ∨ 8 < p1 ∨ p2 < 1 ∨ 8 < p2) ∧ c = 16 ∧ f_Mo_symbol c w h s p1 p2 = some (0, 2, c, w, h, s)) ∨
    (¬ (p1 < 1 ∨ 8 < p1 ∨ p2 < 1 ∨ 8 < p2) ∧ c < 16 ∧ f_Mo_symbol c w h s p1 p2 = some (c, 0, c + 1, upd w c.toNatClampNeg p1, upd h c.toNatClampNeg p2, vp_updL s c.toNatClampNeg 0)) := by
  by_cases a1 : p1 < 1
  · exact Or.inl ⟨Or.inl a1, by simp [f_Mo_symbol, f_Mo_isIn, bd, jn, a1]⟩
  by_cases a2 : 8 < p1
  · exact Or.inl ⟨Or.inr (Or.inl a2), by simp [f_Mo_symbol, f_Mo_isIn, bd, jn, a1, a2]⟩
  by_cases a3 : p2 < 1
  · exact Or.inl ⟨Or.inr (Or.inr (Or.inl a3)), by simp [f_Mo_symbol, f_Mo_isIn, bd, jn, a1, a2, a3]⟩
  by_cases a4 : 8 < p2
  · exact Or.inl ⟨Or.inr (Or.inr (Or.inr a4)), by simp [f_Mo_symbol, f_Mo_isIn, bd, jn, a1, a2, a3, a4]⟩
  have nb : ¬ (p1 < 1 ∨ 8 < p1 ∨ p2 < 1 ∨ 8 < p2) := by
    rintro (q | q | q | q)
    · exact a1 q
    · exact a2 q
    · exact a3 q
    · exact a4 q
  by_cases a5 : c = 16
  · exact Or.inr (Or.inl ⟨nb, a5, by simp [f_Mo_symbol, f_Mo_isIn, bd, jn, a1, a2, a3, a4, a5]⟩)
  · have a6 : c < 16 := by
      rcases Int32.lt_or_eq_of_le hc.2 with q | q
      · exact q
      · exact absurd q a5
    refine Or.inr (Or.inr ⟨nb, a6, ?_⟩)
    have g := in_gq (n := 16) (N := 16) rfl hc.1 a6
    have e : c + 1 - 1 = c := sc_add
    have z : (0 : Int32) ≤ 0 := by decide
    simp only [f_Mo_symbol, f_Mo_isIn, bd, jn, nl, gq, if_neg a1, if_neg a2, if_neg a3, if_neg a4, if_neg a5, if_neg g, if_pos z, Option.bind_some, e]
    rfl

/-! the dictionary: the class's samples and the reference's -/
theorem tq_or {w m : Int64} {j : Nat} (hj : j < 64) (hm : m.toBitVec = BitVec.twoPow 64 j) : (w ||| m) = w ↔ w.toBitVec.getLsbD j = true := by
  rw [← Int64.toBitVec_inj, Int64.toBitVec_or, hm]
  constructor
  · intro h
    have t := congrArg (fun x => x.getLsbD j) h
    simp only [BitVec.getLsbD_or, BitVec.getLsbD_twoPow] at t
    simpa [hj] using t.symm
  · intro h
    apply BitVec.eq_of_getLsbD_eq
    intro i hi
    rw [BitVec.getLsbD_or, BitVec.getLsbD_twoPow]
    by_cases e : j = i
    · subst e; rw [h, Bool.true_or]
    · simp [e]
theorem tq_and {w m : Int64} {j : Nat} (hj : j < 64) (hm : m.toBitVec = BitVec.twoPow 64 j) : (w &&& (m ^^^ (-1))) = w ↔ w.toBitVec.getLsbD j = false := by
  have ha : (-1 : Int64).toBitVec = BitVec.allOnes 64 := by decide
  rw [← Int64.toBitVec_inj, Int64.toBitVec_and, Int64.toBitVec_xor, hm, ha]
  constructor
  · intro h
    have t := congrArg (fun x => x.getLsbD j) h
    simp only [BitVec.getLsbD_and, BitVec.getLsbD_xor, BitVec.getLsbD_twoPow, BitVec.getLsbD_allOnes] at t
    simpa [hj] using t.symm
  · intro h
    apply BitVec.eq_of_getLsbD_eq
    intro i hi
    rw [BitVec.getLsbD_and, BitVec.getLsbD_xor, BitVec.getLsbD_twoPow, BitVec.getLsbD_allOnes]
    by_cases e : j = i
    · subst e; rw [h, Bool.false_and]
    · simp [e, hi]
theorem tq_is {w m : Int64} {j : Nat} (hj : j < 64) (hm : m.toBitVec = BitVec.twoPow 64 j) : (w &&& m) = 0 ↔ w.toBitVec.getLsbD j = false := by
  rw [← Int64.toBitVec_inj, Int64.toBitVec_and, hm]
  constructor
  · intro h
    have t := congrArg (fun x => x.getLsbD j) h
    simp only [BitVec.getLsbD_and, BitVec.getLsbD_twoPow] at t
    simpa [hj] using t
  · intro h
    apply BitVec.eq_of_getLsbD_eq
    intro i hi
    rw [BitVec.getLsbD_and, BitVec.getLsbD_twoPow]
    by_cases e : j = i
    · subst e; rw [h]; simp
    · simp [e]
theorem bit_or {w m : Int64} {j : Nat} (hj : j < 64) (hm : m.toBitVec = BitVec.twoPow 64 j) (i : Nat) : (w ||| m).toBitVec.getLsbD i = (w.toBitVec.getLsbD i || decide (i = j)) := by
  rw [Int64.toBitVec_or, hm, BitVec.getLsbD_or, BitVec.getLsbD_twoPow]
  by_cases e : j = i
  · subst e; simp [hj]
  · simp [e, Ne.symm e]
theorem bit_an {w m : Int64} {j : Nat} (hj : j < 64) (hm : m.toBitVec = BitVec.twoPow 64 j) {i : Nat} (hi : i < 64) : (w &&& (m ^^^ (-1))).toBitVec.getLsbD i = (w.toBitVec.getLsbD i && !decide (i = j)) := by
  have ha : (-1 : Int64).toBitVec = BitVec.allOnes 64 := by decide
  rw [Int64.toBitVec_and, Int64.toBitVec_xor, hm, ha, BitVec.getLsbD_and, BitVec.getLsbD_xor, BitVec.getLsbD_twoPow, BitVec.getLsbD_allOnes]
  by_cases e : j = i
  · subst e; simp [hj]
  · simp [e, Ne.symm e, hi]
theorem one_sh : ∀ k : Nat, k < 64 → ((1 : Int64) <<< ((Int32.ofNat k).toInt64 &&& 63)).toBitVec = BitVec.twoPow 64 k := by decide +kernel
theorem one_at {n : Int32} {k : Nat} (h : n.toInt = (k : Int)) (hk : k < 64) : ((1 : Int64) <<< (n.toInt64 &&& 63)).toBitVec = BitVec.twoPow 64 k := by
  have e : n = Int32.ofNat k := (ofn h.symm).symm
  rw [e]
  exact one_sh k hk
theorem cmp_0 {x y : Int64} : lg_cmp x y = 0 ↔ x = y := by
  unfold lg_cmp
  constructor
  · intro h
    by_cases c : x > y
    · rw [if_pos c] at h; exact absurd h (by decide)
    · rw [if_neg c] at h
      by_cases d : x = y
      · exact d
      · rw [if_neg d] at h; exact absurd h (by decide)
  · intro h
    subst h
    rw [if_neg (Int64.lt_irrefl), if_pos rfl]
/-- bit (x, v) of a symbol, in the class at v * width + x, in the reference at 8 v + x -/
def SR (w : Nat → Int32) (s d : Nat → Int64) : Prop := ∀ i : Nat, i < 16 → ∀ x v : Nat, x < (w i).toNatClampNeg → v < 8 → (s i).toBitVec.getLsbD (v * (w i).toNatClampNeg + x) = (d i).toBitVec.getLsbD (8 * v + x)
theorem ix_inj {w x v x9 v9 : Nat} (hx : x < w) (hx9 : x9 < w) (h : v * w + x = v9 * w + x9) : v = v9 ∧ x = x9 := by
  have a : (v * w + x) / w = v := by
    rw [Nat.mul_comm, Nat.mul_add_div (by omega), Nat.div_eq_of_lt hx]; omega
  have b : (v9 * w + x9) / w = v9 := by
    rw [Nat.mul_comm, Nat.mul_add_div (by omega), Nat.div_eq_of_lt hx9]; omega
  have c : v = v9 := by rw [← a, ← b, h]
  subst c
  exact ⟨rfl, by omega⟩
theorem sr_sym {w : Nat → Int32} {s d : Nat → Int64} {i : Nat} {p : Int32} (h : SR w s d) : SR (upd w i p) (vp_updL s i 0) (vp_updL d i 0) := by
  intro j hj x v hx hv
  unfold upd at hx ⊢
  unfold vp_updL
  by_cases c : j = i
  · simp only [c, if_true]
    show (0#64).getLsbD _ = (0#64).getLsbD _
    simp
  · simp only [c, if_false] at hx ⊢
    exact h j hj x v hx hv
theorem nat_le {a : Int32} {n : Nat} (h0 : 0 ≤ a) (h : a.toInt ≤ (n : Int)) : a.toNatClampNeg ≤ n := by
  have := nat_of h0
  omega
set_option maxHeartbeats 1000000 in
theorem sr_put {w : Nat → Int32} {s d : Nat → Int64} {i x v : Nat} {m m9 : Int64} {W : Nat} (h : SR w s d) (hi : i < 16) (eW : (w i).toNatClampNeg = W) (hW : W ≤ 8) (hx : x < W) (hv : v < 8) (hm : m.toBitVec = BitVec.twoPow 64 (v * W + x)) (hm9 : m9.toBitVec = BitVec.twoPow 64 (8 * v + x)) :
    SR w (vp_updL s i (s i ||| m)) (vp_updL d i (d i ||| m9)) ∧ SR w (vp_updL s i (s i &&& (m ^^^ (-1)))) (vp_updL d i (d i &&& (m9 ^^^ (-1)))) := by
  have b1 : v * W ≤ 7 * 8 := Nat.mul_le_mul (by omega) hW
  constructor
  · intro j hj x9 v9 hx9 hv9
    unfold vp_updL
    by_cases c : j = i
    · subst c
      simp only [if_true]
      rw [bit_or (j := v * W + x) (by omega) hm, bit_or (j := 8 * v + x) (by omega) hm9, h j hj x9 v9 hx9 hv9, eW]
      rw [eW] at hx9
      congr 1
      have : (v9 * W + x9 = v * W + x) ↔ (8 * v9 + x9 = 8 * v + x) := by
        constructor
        · intro q
          obtain ⟨e1, e2⟩ := ix_inj hx9 hx q
          omega
        · intro q
          have e1 : v9 = v := by omega
          have e2 : x9 = x := by omega
          rw [e1, e2]
      exact decide_eq_decide.mpr this
    · simp only [c, if_false]
      exact h j hj x9 v9 hx9 hv9
  · intro j hj x9 v9 hx9 hv9
    unfold vp_updL
    by_cases c : j = i
    · subst c
      simp only [if_true]
      have b2 : v9 * W ≤ 7 * 8 := Nat.mul_le_mul (by omega) hW
      rw [eW] at hx9
      rw [bit_an (j := v * W + x) (by omega) hm (by rw [eW]; omega), bit_an (j := 8 * v + x) (by omega) hm9 (by omega), h j hj x9 v9 (by rw [eW]; exact hx9) hv9, eW]
      congr 2
      have : (v9 * W + x9 = v * W + x) ↔ (8 * v9 + x9 = 8 * v + x) := by
        constructor
        · intro q
          obtain ⟨e1, e2⟩ := ix_inj hx9 hx q
          omega
        · intro q
          have e1 : v9 = v := by omega
          have e2 : x9 = x := by omega
          rw [e1, e2]
      exact decide_eq_decide.mpr this
    · simp only [c, if_false]
      exact h j hj x9 v9 hx9 hv9
theorem updL_same (f : Nat → Int64) (k : Nat) (x : Int64) : vp_updL f k x k = x := by
  unfold vp_updL
  rw [if_pos rfl]
set_option maxHeartbeats 2000000 in
set_option maxRecDepth 20000 in
/-- put, in the class and in the reference -/
theorem pt_TM (out : Nat → Int64) (c : Int32) (w h : Nat → Int32) (s d : Nat → Int64) (p1 p2 p3 p4 : Int32) (hc : 0 ≤ c ∧ c ≤ 16) (hw : R w 0 8) (hh : R h 0 8) (hs : SR w s d) (h4 : p4 = 0 ∨ p4 = 1) :
    (f_Law_put out c w h s p1 p2 p3 p4 = some (1, out, s) ∧ f_Mo_put c d w h p1 p2 p3 p4 = some (0, 1, d)) ∨
    ∃ (q : Int32) (s9 d9 : Nat → Int64), f_Law_put out c w h s p1 p2 p3 p4 = some (0, vp_updL out ((0 : Int32)).toNatClampNeg (if q = 0 then 0 else 1), s9) ∧ f_Mo_put c d w h p1 p2 p3 p4 = some (q, 0, d9) ∧ SR w s9 d9 := by
  have z01 : ¬ (1 : Int32) ≤ 0 := by decide
  have z00 : (0 : Int32) ≤ 0 := by decide
  have n10 : ¬ (1 : Int32) = 0 := by decide
  have b19 : (1 : Int32) = 0 ∨ (1 : Int32) = 1 := Or.inr rfl
  by_cases a1 : p1 < 0
  · left
    constructor
    · simp [f_Law_put, f_Top_put, f_Dictionary_has, f_Top_isWithin, bd, jn, bz, a1]
    · simp only [f_Mo_put, f_Mo_isIn, bd, jn, if_pos a1, Option.bind_some, if_true, if_neg z01]
  by_cases a2 : c - 1 < p1
  · left
    constructor
    · simp [f_Law_put, f_Top_put, f_Dictionary_has, f_Top_isWithin, bd, jn, bz, a1, a2]
    · simp only [f_Mo_put, f_Mo_isIn, bd, jn, if_neg a1, if_pos a2, Option.bind_some, if_true, if_neg z01]
  have i0 : 0 ≤ p1 := Int32.not_lt.mp a1
  have i1 : p1 < 16 := by
    have q := Int32.not_lt.mp a2
    have y := yb (a := c) (b := 1) (by rw [z_1]; have := t_le hc.1; rw [z_0] at this; omega) (by rw [z_1]; have := t_le hc.2; rw [z_16] at this; omega)
    have q2 := t_le q
    rw [y, z_1] at q2
    have q3 := t_le hc.2
    rw [z_16] at q3
    exact Int32.lt_iff_toInt_lt.mpr (by rw [z_16]; omega)
  have g := in_gq (n := 16) (N := 16) rfl i0 i1
  have ni := nat_of i0
  have t1 := t_lt i1
  rw [z_16] at t1
  have hi : p1.toNatClampNeg < 16 := by omega
  have wr := hw p1.toNatClampNeg
  have hr := hh p1.toNatClampNeg
  by_cases a3 : p2 < 0
  · left
    constructor
    · simp only [f_Law_put, f_Top_put, f_Dictionary_has, f_Dictionary_hasSample, f_Top_isWithin, bd, jn, bz, gq, if_neg a1, if_neg a2, if_pos a3, if_neg g, if_neg n10, or_true, Option.bind_some, if_true]
    · simp only [f_Mo_put, f_Mo_isIn, f_Mo_isSample, bd, jn, gq, if_neg g, if_neg a1, if_neg a2, if_pos a3, if_neg n10, Option.bind_some, if_true, if_neg z01]
  by_cases a4 : w p1.toNatClampNeg - 1 < p2
  · left
    constructor
    · simp only [f_Law_put, f_Top_put, f_Dictionary_has, f_Dictionary_hasSample, f_Top_isWithin, bd, jn, bz, gq, if_neg a1, if_neg a2, if_neg a3, if_pos a4, if_neg g, if_neg n10, or_true, Option.bind_some, if_true]
    · simp only [f_Mo_put, f_Mo_isIn, f_Mo_isSample, bd, jn, gq, if_neg g, if_neg a1, if_neg a2, if_neg a3, if_pos a4, if_neg n10, Option.bind_some, if_true, if_neg z01]
  by_cases a5 : p3 < 0
  · left
    constructor
    · simp only [f_Law_put, f_Top_put, f_Dictionary_has, f_Dictionary_hasSample, f_Top_isWithin, bd, jn, bz, gq, if_neg a1, if_neg a2, if_neg a3, if_neg a4, if_pos a5, if_neg g, if_neg n10, or_true, Option.bind_some, if_true]
    · simp only [f_Mo_put, f_Mo_isIn, f_Mo_isSample, bd, jn, gq, if_neg g, if_neg a1, if_neg a2, if_neg a3, if_neg a4, if_pos a5, if_neg n10, Option.bind_some, if_true, if_neg z01]
  by_cases a6 : h p1.toNatClampNeg - 1 < p3
  · left
    constructor
    · simp only [f_Law_put, f_Top_put, f_Dictionary_has, f_Dictionary_hasSample, f_Top_isWithin, bd, jn, bz, gq, if_neg a1, if_neg a2, if_neg a3, if_neg a4, if_neg a5, if_pos a6, if_neg g, if_neg n10, or_true, Option.bind_some, if_true]
    · simp only [f_Mo_put, f_Mo_isIn, f_Mo_isSample, bd, jn, gq, if_neg g, if_neg a1, if_neg a2, if_neg a3, if_neg a4, if_neg a5, if_pos a6, if_neg n10, Option.bind_some, if_true, if_neg z01]
  right
  have x0 : 0 ≤ p2 := Int32.not_lt.mp a3
  have v0 : 0 ≤ p3 := Int32.not_lt.mp a5
  have z8 : (8 : Int32).toInt = 8 := rfl
  have wt0 := t_le wr.1
  have wt1 := t_le wr.2
  have ht0 := t_le hr.1
  have ht1 := t_le hr.2
  rw [z_0] at wt0 ht0
  rw [z8] at wt1 ht1
  have x1 : p2.toInt + 1 ≤ (w p1.toNatClampNeg).toInt := by
    have q := t_le (Int32.not_lt.mp a4)
    rw [yb (a := w p1.toNatClampNeg) (b := 1) (by rw [z_1]; omega) (by rw [z_1]; omega), z_1] at q
    omega
  have v1 : p3.toInt + 1 ≤ (h p1.toNatClampNeg).toInt := by
    have q := t_le (Int32.not_lt.mp a6)
    rw [yb (a := h p1.toNatClampNeg) (b := 1) (by rw [z_1]; omega) (by rw [z_1]; omega), z_1] at q
    omega
  have xt := t_le x0
  have vt := t_le v0
  rw [z_0] at xt vt
  have nx := nat_of x0
  have nv := nat_of v0
  have nw9 := nat_of wr.1
  have pm0 : 0 ≤ p3.toInt * (w p1.toNatClampNeg).toInt := Int.mul_nonneg vt wt0
  have pm1 : p3.toInt * (w p1.toNatClampNeg).toInt ≤ 7 * 8 := Int.mul_le_mul (by omega) wt1 wt0 (by decide)
  have e1 := i_mul (a := p3) (b := w p1.toNatClampNeg) rfl rfl (by omega) (by omega)
  have e2 : (p3 * w p1.toNatClampNeg + p2).toInt = p3.toInt * (w p1.toNatClampNeg).toInt + p2.toInt := by
    rw [ya (by rw [e1]; omega) (by rw [e1]; omega), e1]
  have e3 : ((8 : Int32) * p3 + p2).toInt = 8 * p3.toInt + p2.toInt := by
    have y := i_mul (a := 8) (b := p3) z8 rfl (by omega) (by omega)
    rw [ya (by rw [y]; omega) (by rw [y]; omega), y]
  have k1 : (p3 * w p1.toNatClampNeg + p2).toInt = ((p3.toNatClampNeg * (w p1.toNatClampNeg).toNatClampNeg + p2.toNatClampNeg : Nat) : Int) := by
    rw [e2, Int.natCast_add, Int.natCast_mul, nx, nv, nw9]
  have k2 : ((8 : Int32) * p3 + p2).toInt = ((8 * p3.toNatClampNeg + p2.toNatClampNeg : Nat) : Int) := by
    rw [e3, Int.natCast_add, Int.natCast_mul, nx, nv]; rfl
  have j1 : p3.toNatClampNeg * (w p1.toNatClampNeg).toNatClampNeg + p2.toNatClampNeg < 64 := by
    have : ((p3.toNatClampNeg * (w p1.toNatClampNeg).toNatClampNeg + p2.toNatClampNeg : Nat) : Int) < 64 := by rw [← k1, e2]; omega
    omega
  have j2 : 8 * p3.toNatClampNeg + p2.toNatClampNeg < 64 := by omega
  have m1 := one_at k1 j1
  have m2 := one_at k2 j2
  have bs := hs p1.toNatClampNeg hi p2.toNatClampNeg p3.toNatClampNeg (by omega) (by omega)
  have pu := sr_put (x := p2.toNatClampNeg) (v := p3.toNatClampNeg) hs hi rfl (by omega) (by omega) (by omega) m1 m2
  have tT : f_Law_put out c w h s p1 p2 p3 p4 = (if (lg_cmp (if p4 = 0 then s p1.toNatClampNeg &&& (((1 : Int64) <<< ((p3 * w p1.toNatClampNeg + p2).toInt64 &&& 63)) ^^^ (-1)) else s p1.toNatClampNeg ||| ((1 : Int64) <<< ((p3 * w p1.toNatClampNeg + p2).toInt64 &&& 63))) (s p1.toNatClampNeg)) = 0 then some (0, vp_updL out ((0 : Int32)).toNatClampNeg 0, vp_updL s p1.toNatClampNeg (if p4 = 0 then s p1.toNatClampNeg &&& (((1 : Int64) <<< ((p3 * w p1.toNatClampNeg + p2).toInt64 &&& 63)) ^^^ (-1)) else s p1.toNatClampNeg ||| ((1 : Int64) <<< ((p3 * w p1.toNatClampNeg + p2).toInt64 &&& 63)))) else some (0, vp_updL out ((0 : Int32)).toNatClampNeg 1, vp_updL s p1.toNatClampNeg (if p4 = 0 then s p1.toNatClampNeg &&& (((1 : Int64) <<< ((p3 * w p1.toNatClampNeg + p2).toInt64 &&& 63)) ^^^ (-1)) else s p1.toNatClampNeg ||| ((1 : Int64) <<< ((p3 * w p1.toNatClampNeg + p2).toInt64 &&& 63))))) := by
    have g0 := in_gq (i := 0) (n := 1) (N := 1) rfl (by decide) (by decide)
    have b1 : (1 : Int32) = 0 ∨ (1 : Int32) = 1 := Or.inr rfl
    rcases h4 with r4 | r4
    · subst r4
      simp only [f_Law_put, f_Top_put, f_Dictionary_has, f_Dictionary_hasSample, f_Dictionary_sampleNumber, f_Top_withBit, f_Top_isWithin, bd, jn, nl, bz, gq, if_neg a1, if_neg a2, if_neg a3, if_neg a4, if_neg a5, if_neg a6, if_neg g, if_neg g0, if_neg n10, or_true, Option.bind_some, if_true, updL_same]
      split <;> rfl
    · subst r4
      simp only [f_Law_put, f_Top_put, f_Dictionary_has, f_Dictionary_hasSample, f_Dictionary_sampleNumber, f_Top_withBit, f_Top_isWithin, bd, jn, nl, bz, gq, if_neg a1, if_neg a2, if_neg a3, if_neg a4, if_neg a5, if_neg a6, if_neg g, if_neg g0, if_neg n10, or_true, if_true, Option.bind_some, updL_same]
      split <;> rfl
  have tM : f_Mo_put c d w h p1 p2 p3 p4 = some (if (if d p1.toNatClampNeg &&& ((1 : Int64) <<< (((8 : Int32) * p3 + p2).toInt64 &&& 63)) = 0 then (0 : Int32) else 1) = p4 then 0 else 1, 0, vp_updL d p1.toNatClampNeg (if p4 = 0 then d p1.toNatClampNeg &&& (((1 : Int64) <<< (((8 : Int32) * p3 + p2).toInt64 &&& 63)) ^^^ (-1)) else d p1.toNatClampNeg ||| ((1 : Int64) <<< (((8 : Int32) * p3 + p2).toInt64 &&& 63)))) := by
    by_cases bb : d p1.toNatClampNeg &&& ((1 : Int64) <<< (((8 : Int32) * p3 + p2).toInt64 &&& 63)) = 0
    · have bb9 := cmp_0.mpr bb
      rcases h4 with r4 | r4
      · subst r4
        simp only [f_Mo_put, f_Mo_isIn, f_Mo_isSample, bd, jn, nl, gq, if_neg g, if_neg a1, if_neg a2, if_neg a3, if_neg a4, if_neg a5, if_neg a6, if_neg n10, if_pos z00, if_pos bb, if_pos bb9, Option.bind_some, if_true]
      · subst r4
        have q01 : ¬ (0 : Int32) = 1 := by decide
        simp only [f_Mo_put, f_Mo_isIn, f_Mo_isSample, bd, jn, nl, gq, if_neg g, if_neg a1, if_neg a2, if_neg a3, if_neg a4, if_neg a5, if_neg a6, if_neg n10, if_pos z00, if_pos bb, if_pos bb9, Option.bind_some, if_neg q01]
    · have bb9 : ¬ lg_cmp (d p1.toNatClampNeg &&& ((1 : Int64) <<< (((8 : Int32) * p3 + p2).toInt64 &&& 63))) 0 = 0 := fun q => bb (cmp_0.mp q)
      rcases h4 with r4 | r4
      · subst r4
        simp only [f_Mo_put, f_Mo_isIn, f_Mo_isSample, bd, jn, nl, gq, if_neg g, if_neg a1, if_neg a2, if_neg a3, if_neg a4, if_neg a5, if_neg a6, if_neg n10, if_pos z00, if_neg bb, if_neg bb9, Option.bind_some, if_true]
      · subst r4
        simp only [f_Mo_put, f_Mo_isIn, f_Mo_isSample, bd, jn, nl, gq, if_neg g, if_neg a1, if_neg a2, if_neg a3, if_neg a4, if_neg a5, if_neg a6, if_neg n10, if_pos z00, if_neg bb, if_neg bb9, Option.bind_some, if_true]
  rcases h4 with r4 | r4
  · subst r4
    rw [if_pos rfl] at tM
    rw [if_pos rfl] at tT
    by_cases bb : (s p1.toNatClampNeg).toBitVec.getLsbD (p3.toNatClampNeg * (w p1.toNatClampNeg).toNatClampNeg + p2.toNatClampNeg) = false
    · have c1 := cmp_0.mpr ((tq_and j1 m1).mpr bb)
      have c2 := (tq_is j2 m2).mpr (by rw [← bs]; exact bb)
      rw [if_pos c1] at tT
      rw [if_pos c2, if_pos rfl] at tM
      exact ⟨0, _, _, by rw [if_pos rfl]; exact tT, tM, pu.2⟩
    · have c1 : ¬ _ := fun q => bb ((tq_and j1 m1).mp (cmp_0.mp q))
      have c2 : ¬ _ := fun q => bb (by rw [bs]; exact (tq_is j2 m2).mp q)
      rw [if_neg c1] at tT
      rw [if_neg c2, if_neg n10] at tM
      exact ⟨1, _, _, by rw [if_neg n10]; exact tT, tM, pu.2⟩
  · subst r4
    rw [if_neg n10] at tM
    rw [if_neg n10] at tT
    by_cases bb : (s p1.toNatClampNeg).toBitVec.getLsbD (p3.toNatClampNeg * (w p1.toNatClampNeg).toNatClampNeg + p2.toNatClampNeg) = false
    · have c1 : ¬ _ := fun q => absurd ((tq_or j1 m1).mp (cmp_0.mp q)) (by rw [bb]; decide)
      have c2 := (tq_is j2 m2).mpr (by rw [← bs]; exact bb)
      rw [if_neg c1] at tT
      rw [if_pos c2, if_neg (by decide)] at tM
      exact ⟨1, _, _, by rw [if_neg n10]; exact tT, tM, pu.1⟩
    · have bt : (s p1.toNatClampNeg).toBitVec.getLsbD (p3.toNatClampNeg * (w p1.toNatClampNeg).toNatClampNeg + p2.toNatClampNeg) = true := by simpa using bb
      have c1 := cmp_0.mpr ((tq_or j1 m1).mpr bt)
      have c2 : ¬ _ := fun q => bb (by rw [bs]; exact (tq_is j2 m2).mp q)
      rw [if_pos c1] at tT
      rw [if_neg c2, if_pos rfl] at tM
      exact ⟨0, _, _, by rw [if_pos rfl]; exact tT, tM, pu.1⟩

def DR (z : TS) (y : MS) : Prop := z.di_count = y.mo_symbols ∧ z.di_widths = y.mo_wide ∧ z.di_heights = y.mo_high ∧ SR z.di_widths z.di_samples y.mo_dark
abbrev II (z : TS) (y : MS) : Prop := IT z ∧ IM y ∧ DR z y
set_option maxRecDepth 20000 in
theorem st3_symbol (z : TS) (y : MS) (p1 p2 : Int32) (hI : II z y) : ∃ (z1 : TS) (y1 : MS) (k q : Int32), T_symbol z p1 p2 = some (k, z1) ∧ M_symbol y p1 p2 = some (q, y1) ∧ M_thrown y1  = some k ∧ (k = 0 → z1.out (0 : Int32).toNatClampNeg = q.toInt64) ∧ II z1 y1 := by
  obtain ⟨hz, hy, hj⟩ := hI
  obtain ⟨r9, n1, n2, n3, n4, n5, hT, iz⟩ := hT_symbol z p1 p2 hz
  obtain ⟨m9, u1, u2, u3, u4, u5, hM, iy⟩ := hM_symbol y p1 p2 hy
  obtain ⟨j1, j2, j3, j4⟩ := hj
  have hc := hz.2.1
  have e1 := hT
  have e2 := hM
  unfold T_symbol at e1
  unfold M_symbol at e2
  rcases sy_T z.out z.di_count z.di_widths z.di_heights z.di_samples p1 p2 hc with ⟨b, e⟩ | ⟨b, c, e⟩ | ⟨b, c, e⟩ <;> rcases sy_M y.mo_symbols y.mo_wide y.mo_high y.mo_dark p1 p2 (by rw [← j1]; exact hc) with ⟨b9, e9⟩ | ⟨b9, c9, e9⟩ | ⟨b9, c9, e9⟩
  · rw [e] at e1
    rw [e9] at e2
    obtain ⟨a1, a2⟩ := Prod.mk.inj (Option.some.inj e1)
    obtain ⟨a3, a4⟩ := Prod.mk.inj (Option.some.inj e2)
    rw [← a1, ← a2] at hT
    rw [← a3, ← a4] at hM
    rw [← a2] at iz
    rw [← a4] at iy
    exact ⟨_, _, _, _, hT, hM, rfl, fun h => absurd (show (1 : Int32) = 0 from h) (by decide), iz, iy, j1, j2, j3, j4⟩
  · exact absurd b b9
  · exact absurd b b9
  · exact absurd b9 b
  · rw [e] at e1
    rw [e9] at e2
    obtain ⟨a1, a2⟩ := Prod.mk.inj (Option.some.inj e1)
    obtain ⟨a3, a4⟩ := Prod.mk.inj (Option.some.inj e2)
    rw [← a1, ← a2] at hT
    rw [← a3, ← a4] at hM
    rw [← a2] at iz
    rw [← a4] at iy
    exact ⟨_, _, _, _, hT, hM, rfl, fun h => absurd (show (2 : Int32) = 0 from h) (by decide), iz, iy, j1, j2, j3, j4⟩
  · rw [← j1, c] at c9
    exact absurd c9 (by decide)
  · exact absurd b9 b
  · rw [j1, c9] at c
    exact absurd c (by decide)
  · rw [e] at e1
    rw [e9] at e2
    obtain ⟨a1, a2⟩ := Prod.mk.inj (Option.some.inj e1)
    obtain ⟨a3, a4⟩ := Prod.mk.inj (Option.some.inj e2)
    rw [← a1, ← a2] at hT
    rw [← a3, ← a4] at hM
    rw [← a2] at iz
    rw [← a4] at iy
    refine ⟨_, _, _, _, hT, hM, rfl, fun _ => ?_, iz, iy, ?_, ?_, ?_, ?_⟩
    · show vp_updL z.out ((0 : Int32)).toNatClampNeg z.di_count.toInt64 (0 : Int32).toNatClampNeg = y.mo_symbols.toInt64
      rw [updL_same, j1]
    · show z.di_count + 1 = y.mo_symbols + 1
      rw [j1]
    · show upd z.di_widths z.di_count.toNatClampNeg p1 = upd y.mo_wide y.mo_symbols.toNatClampNeg p1
      rw [j1, j2]
    · show upd z.di_heights z.di_count.toNatClampNeg p2 = upd y.mo_high y.mo_symbols.toNatClampNeg p2
      rw [j1, j3]
    · show SR (upd z.di_widths z.di_count.toNatClampNeg p1) (vp_updL z.di_samples z.di_count.toNatClampNeg 0) (vp_updL y.mo_dark y.mo_symbols.toNatClampNeg 0)
      rw [← j1]
      exact sr_sym j4
set_option maxRecDepth 20000 in
theorem st3_put (z : TS) (y : MS) (p1 p2 p3 p4 : Int32) (h4 : p4 = 0 ∨ p4 = 1) (hI : II z y) : ∃ (z1 : TS) (y1 : MS) (k q : Int32), T_put z p1 p2 p3 p4 = some (k, z1) ∧ M_put y p1 p2 p3 p4 = some (q, y1) ∧ M_thrown y1  = some k ∧ (k = 0 → z1.out (0 : Int32).toNatClampNeg = (if q = 0 then 0 else 1)) ∧ II z1 y1 := by
  obtain ⟨hz, hy, hj⟩ := hI
  obtain ⟨r9, n1, n2, hT, iz⟩ := hT_put z p1 p2 p3 p4 hz
  obtain ⟨m9, u1, u2, hM, iy⟩ := hM_put y p1 p2 p3 p4 hy
  obtain ⟨j1, j2, j3, j4⟩ := hj
  have e1 := hT
  have e2 := hM
  unfold T_put at e1
  unfold M_put at e2
  have hw : R z.di_widths 0 8 := by
    obtain ⟨-, -, -, -, -, -, -, -, q, -⟩ := id hz
    exact q
  have hh : R z.di_heights 0 8 := by
    obtain ⟨-, -, -, -, -, -, -, -, -, q, -⟩ := id hz
    exact q
  rcases pt_TM z.out z.di_count z.di_widths z.di_heights z.di_samples y.mo_dark p1 p2 p3 p4 hz.2.1 hw hh j4 h4 with ⟨e, e9⟩ | ⟨q, s9, d9, e, e9, j9⟩
  · rw [e] at e1
    rw [j1, j2, j3] at e9
    rw [e9] at e2
    obtain ⟨a1, a2⟩ := Prod.mk.inj (Option.some.inj e1)
    obtain ⟨a3, a4⟩ := Prod.mk.inj (Option.some.inj e2)
    rw [← a1, ← a2] at hT
    rw [← a3, ← a4] at hM
    rw [← a2] at iz
    rw [← a4] at iy
    exact ⟨_, _, _, _, hT, hM, rfl, fun h => absurd (show (1 : Int32) = 0 from h) (by decide), iz, iy, j1, j2, j3, j4⟩
  · rw [e] at e1
    rw [j1, j2, j3] at e9
    rw [e9] at e2
    obtain ⟨a1, a2⟩ := Prod.mk.inj (Option.some.inj e1)
    obtain ⟨a3, a4⟩ := Prod.mk.inj (Option.some.inj e2)
    rw [← a1, ← a2] at hT
    rw [← a3, ← a4] at hM
    rw [← a2] at iz
    rw [← a4] at iy
    exact ⟨_, _, _, _, hT, hM, rfl, fun _ => (show vp_updL z.out ((0 : Int32)).toNatClampNeg (if q = 0 then 0 else 1) ((0 : Int32)).toNatClampNeg = (if q = 0 then 0 else 1) from updL_same _ _ _), iz, iy, j1, j2, j3, j9⟩
theorem st3_clear (z : TS) (y : MS) (hI : II z y) : ∃ (z1 : TS) (y1 : MS), T_clear z  = some z1 ∧ M_clear y  = some y1 ∧ II z1 y1 := by
  obtain ⟨hz, hy, hj⟩ := hI
  obtain ⟨n1, n2, n3, n4, n5, n6, hT, iz⟩ := hT_clear z hz
  obtain ⟨u1, u2, u3, u4, u5, u6, u7, u8, hM, iy⟩ := hM_clear y hy
  obtain ⟨j1, j2, j3, j4⟩ := hj
  refine ⟨_, _, hT, hM, iz, iy, ?_, j2, j3, j4⟩
  unfold T_clear at hT
  unfold M_clear at hM
  obtain ⟨o1, e1, f1⟩ := Option.map_eq_some_iff.mp hT
  obtain ⟨o2, e2, f2⟩ := Option.map_eq_some_iff.mp hM
  have g1 := tc_clear e1
  have g2 := mc_clear e2
  have k1 := congrArg TS.di_count f1
  have k2 := congrArg MS.mo_symbols f2
  have k3 : n1 = o1.1 := k1.symm
  have k4 : u2 = o2.2.1 := k2.symm
  show n1 = u2
  rw [k3, k4, g1, g2]
theorem cmp_symbol_0 {t k q : Int32} {x : Int64} (h : k = 0 → x = q.toInt64) : t = k → k = 0 → ¬ (lg_cmp x q.toInt64) = 0 → False := fun _ e n => n (by rw [h e]; exact cmp_0.mpr rfl)
theorem cmp_symbol_1 {k : Int32} {P : Prop} (_ : P) : ¬ k = k → False := fun h => h rfl
theorem cmp_put_0 {k q p4 : Int32} {x : Int64} (h : k = 0 → x = (if q = 0 then 0 else 1)) : p4 = 0 → p4 = 0 → k = k → k = 0 → q = 0 → ¬ (lg_cmp x (0 : Int64)) = 0 → False := fun _ _ _ e q0 n => n (by rw [h e, if_pos q0]; exact cmp_0.mpr rfl)
theorem cmp_put_1 {k q p4 : Int32} {x : Int64} (h : k = 0 → x = (if q = 0 then 0 else 1)) : p4 = 0 → p4 = 0 → k = k → k = 0 → ¬ q = 0 → ¬ (lg_cmp x (1 : Int64)) = 0 → False := fun _ _ _ e q0 n => n (by rw [h e, if_neg q0]; exact cmp_0.mpr rfl)
theorem cmp_put_2 {k p4 : Int32} {P : Prop} (_ : P) : p4 = 0 → p4 = 0 → ¬ k = k → False := fun _ _ h => h rfl
theorem cmp_put_3 {k q p4 : Int32} {x : Int64} (h : k = 0 → x = (if q = 0 then 0 else 1)) : ¬ p4 = 0 → ¬ p4 = 0 → k = k → k = 0 → q = 0 → ¬ (lg_cmp x (0 : Int64)) = 0 → False := fun _ _ _ e q0 n => n (by rw [h e, if_pos q0]; exact cmp_0.mpr rfl)
theorem cmp_put_4 {k q p4 : Int32} {x : Int64} (h : k = 0 → x = (if q = 0 then 0 else 1)) : ¬ p4 = 0 → ¬ p4 = 0 → k = k → k = 0 → ¬ q = 0 → ¬ (lg_cmp x (1 : Int64)) = 0 → False := fun _ _ _ e q0 n => n (by rw [h e, if_neg q0]; exact cmp_0.mpr rfl)
theorem cmp_put_5 {k p4 : Int32} {P : Prop} (_ : P) : ¬ p4 = 0 → ¬ p4 = 0 → ¬ k = k → False := fun _ _ h => h rfl

set_option maxRecDepth 20000 in
theorem stepsC : StepsC II := ⟨(fun z y p1 p2 p3 p4 hI => by
    obtain ⟨z1, y1, k, q, hT, hM, -, -, hJ⟩ := st3_symbol z y p1 p2 hI
    exact ⟨z1, y1, k, q, hT, hM, hJ⟩), (fun z y p1 p2 p3 p4 hI => by
    obtain ⟨z1, y1, k, q, hT, hM, ht, ho, hJ⟩ := st3_put z y p1 p2 p3 (if p4 = 0 then (0 : Int32) else 1) (by by_cases c : p4 = 0 <;> simp [c]) hI
    exact ⟨z1, y1, k, q, k, hT, hM, ht, cmp_put_0 ho, cmp_put_1 ho, cmp_put_2 ho, cmp_put_3 ho, cmp_put_4 ho, cmp_put_5 ho, hJ⟩), (fun z y p1 p2 p3 p4 hI => by
    obtain ⟨hz, hy, hj⟩ := hI
    obtain ⟨t_r9, t_n_out, t_n_la_count, t_n_la_symbolOf, t_n_la_xs, t_n_la_ys, t_n_la_differs, hT, iz⟩ := hT_instance z p1 p2 p3 hz
    obtain ⟨m_r9, m_n_mo_thrown, m_n_mo_instances, m_n_mo_symbolOf, m_n_mo_xs, m_n_mo_ys, m_n_mo_differs, hM, iy⟩ := hM_instance y p1 p2 p3 hy
    exact ⟨_, _, t_r9, m_r9, hT, hM, ⟨iz, iy, hj⟩⟩), (fun z y p1 p2 p3 p4 hI => by
    obtain ⟨hz, hy, hj⟩ := hI
    obtain ⟨t_r9, t_n_out, t_n_la_differs, hT, iz⟩ := hT_refine z p1 p2 p3 (if p4 = 0 then (0 : Int32) else 1) hz
    obtain ⟨m_r9, m_n_mo_thrown, m_n_mo_differs, hM, iy⟩ := hM_refine y p1 p2 p3 (if p4 = 0 then (0 : Int32) else 1) hy
    exact ⟨_, _, t_r9, m_r9, hT, hM, ⟨iz, iy, hj⟩⟩), (fun z y p1 p2 p3 p4 hI => by
    obtain ⟨hz, hy, hj⟩ := hI
    obtain ⟨t_r9, t_n_out, t_n_la_ways, hT, iz⟩ := hT_way z p1 p2 hz
    obtain ⟨m_r9, m_n_mo_thrown, m_n_mo_ways, hM, iy⟩ := hM_way y p1 p2 hy
    exact ⟨_, _, t_r9, m_r9, hT, hM, ⟨iz, iy, hj⟩⟩), (fun z y p1 p2 p3 p4 hI => by
    obtain ⟨hz, hy, hj⟩ := hI
    obtain ⟨t_r9, t_n_out, t_n_la_ys, t_n_la_symbolOf, t_n_la_xs, t_n_la_sequence, t_n_na_weights, t_n_na_joinedTo, t_n_na_lengths, t_n_na_codes, t_n_wr_keeping, t_n_wr_count, t_n_tb_count, t_n_tb_bytes, t_n_la_differs, hT, iz⟩ := hT_order_C z p1 hz
    obtain ⟨m_r9, m_n_mo_thrown, m_n_mo_told, m_n_mo_keeps, m_n_mo_ordered, m_n_mo_ys, m_n_mo_symbolOf, m_n_mo_xs, m_n_mo_out, m_n_mo_row, m_n_mo_codes, m_n_mo_lengths, m_n_mo_differs, m_n_mo_weight, m_n_mo_used, m_n_mo_over, hM, iy⟩ := hM_order y p1 hy
    exact ⟨_, _, t_r9, m_r9, hT, hM, ⟨iz, iy, hj⟩⟩), (fun z y p1 p2 p3 p4 hI => by
    obtain ⟨hz, hy, hj⟩ := hI
    obtain ⟨t_r9, t_n_la_sequence, t_n_pg_dark, hT, iz⟩ := hT_compose z  hz
    obtain ⟨m_r9, m_n_mo_thrown, m_n_mo_page, m_n_mo_ordered, hM, iy⟩ := hM_compose y  hy
    exact ⟨_, _, t_r9, m_r9, hT, hM, ⟨iz, iy, hj⟩⟩), (fun z y p1 p2 p3 p4 hI => by
    obtain ⟨hz, hy, hj⟩ := hI
    obtain ⟨t_r9, t_n_out, hT, iz⟩ := hT_at z p1 p2 hz
    obtain ⟨m_r9, m_n_mo_thrown, hM, iy⟩ := hM_at y p1 p2 hy
    exact ⟨_, _, t_r9, m_r9, hT, hM, ⟨iz, iy, hj⟩⟩), (fun z y p1 p2 p3 p4 hI => by
    obtain ⟨hz, hy, hj⟩ := hI
    obtain ⟨t_r9, t_n_la_sequence, t_n_na_weights, t_n_na_joinedTo, t_n_na_lengths, t_n_na_codes, t_n_wr_keeping, t_n_wr_count, t_n_tb_count, t_n_tb_bytes, hT, iz⟩ := hT_write_C z  hz
    obtain ⟨m_r9, m_n_mo_thrown, m_n_mo_told, m_n_mo_keeps, m_n_mo_toldBytes, m_n_mo_ordered, m_n_mo_out, m_n_mo_row, m_n_mo_codes, m_n_mo_lengths, m_n_mo_weight, m_n_mo_used, m_n_mo_over, hM, iy⟩ := hM_write y  hy
    exact ⟨_, _, t_r9, m_r9, hT, hM, ⟨iz, iy, hj⟩⟩), (fun z y p1 p2 p3 p4 hI => by
    obtain ⟨hz, hy, hj⟩ := hI
    obtain ⟨t_r9, t_n_out, hT, iz⟩ := hT_byteAt z p1 hz
    obtain ⟨m_r9, m_n_mo_thrown, hM, iy⟩ := hM_byteAt y p1 hy
    exact ⟨_, _, t_r9, m_r9, hT, hM, ⟨iz, iy, hj⟩⟩), (fun z y p1 p2 p3 p4 hI => by
    obtain ⟨hz, hy, hj⟩ := hI
    obtain ⟨t_r9, t_n_out, t_n_cb_count, t_n_cb_bytes, hT, iz⟩ := hT_feed z p1 hz
    obtain ⟨m_r9, m_n_mo_thrown, m_n_mo_came, m_n_mo_in, hM, iy⟩ := hM_feed y p1 hy
    exact ⟨_, _, t_r9, m_r9, hT, hM, ⟨iz, iy, hj⟩⟩), (fun z y p1 p2 p3 p4 hI => by
    obtain ⟨hz, hy, hj⟩ := hI
    obtain ⟨t_r9, t_n_out, t_n_cb_count, t_n_cb_bytes, hT, iz⟩ := hT_pass z  hz
    obtain ⟨m_r9, m_n_mo_thrown, m_n_mo_came, m_n_mo_in, hM, iy⟩ := hM_pass y  hy
    exact ⟨_, _, t_r9, m_r9, hT, hM, ⟨iz, iy, hj⟩⟩), (fun z y p1 p2 p3 p4 hI => by
    obtain ⟨hz, hy, hj⟩ := hI
    obtain ⟨t_r9, t_n_tr_layout, t_n_tr_refusedAt, t_n_sp_count, t_n_rd_place, t_n_rd_refusal, t_n_sp_ways, t_n_cb_count, t_n_na_lengths, t_n_na_codes, t_n_sp_symbolOf, t_n_sp_xs, t_n_sp_ys, t_n_sp_differs, hT, iz⟩ := hT_read_C z  hz
    obtain ⟨m_r9, m_n_mo_thrown, m_n_mo_instances, m_n_mo_came, m_n_mo_at, m_n_mo_refused, m_n_mo_place, m_n_mo_readMany, m_n_mo_readWays, m_n_mo_row, m_n_mo_lengths, m_n_mo_codes, m_n_mo_readSymbol, m_n_mo_readX, m_n_mo_readY, m_n_mo_readDiffers, m_n_mo_symbolOf, m_n_mo_xs, m_n_mo_ys, m_n_mo_differs, m_n_mo_ways, hM, iy⟩ := hM_read y  hy
    exact ⟨_, _, t_r9, t_n_tr_layout, m_r9, hT, hM, by
      by_cases c : t_n_tr_layout = 0
      · rw [if_pos c]; exact ⟨iz, iy, hj⟩
      · rw [if_neg c]; exact ⟨swap_IT iz, iy, hj⟩⟩), (fun z y p1 p2 p3 p4 hI => by
    obtain ⟨hz, hy, hj⟩ := hI
    obtain ⟨t_r9, t_n_out, hT, iz⟩ := hT_place z p1 p2 hz
    obtain ⟨m_r9, m_n_mo_thrown, hM, iy⟩ := hM_place y p1 p2 hy
    exact ⟨_, _, t_r9, m_r9, hT, hM, ⟨iz, iy, hj⟩⟩), (fun z y p1 p2 p3 p4 hI => by
    obtain ⟨hz, hy, hj⟩ := hI
    obtain ⟨k, hT⟩ := hT_told z p1 hz
    obtain ⟨m_r9, m_n_mo_thrown, hM, iy⟩ := hM_told y p1 hy
    exact ⟨_, k, m_r9, hT, hM, ⟨hz, iy, hj⟩⟩), (fun z y p1 p2 p3 p4 hI => st3_clear z y hI)⟩
set_option maxRecDepth 20000 in
theorem stepsF : StepsF II := ⟨(fun z y p1 p2 p3 p4 hI => by
    obtain ⟨z1, y1, k, q, hT, hM, -, -, hJ⟩ := st3_symbol z y p1 p2 hI
    exact ⟨z1, y1, k, q, hT, hM, hJ⟩), (fun z y p1 p2 p3 p4 hI => by
    obtain ⟨z1, y1, k, q, hT, hM, ht, ho, hJ⟩ := st3_put z y p1 p2 p3 (if p4 = 0 then (0 : Int32) else 1) (by by_cases c : p4 = 0 <;> simp [c]) hI
    exact ⟨z1, y1, k, q, k, hT, hM, ht, cmp_put_0 ho, cmp_put_1 ho, cmp_put_2 ho, cmp_put_3 ho, cmp_put_4 ho, cmp_put_5 ho, hJ⟩), (fun z y p1 p2 p3 p4 hI => by
    obtain ⟨hz, hy, hj⟩ := hI
    obtain ⟨t_r9, t_n_out, t_n_la_count, t_n_la_symbolOf, t_n_la_xs, t_n_la_ys, t_n_la_differs, hT, iz⟩ := hT_instance z p1 p2 p3 hz
    obtain ⟨m_r9, m_n_mo_thrown, m_n_mo_instances, m_n_mo_symbolOf, m_n_mo_xs, m_n_mo_ys, m_n_mo_differs, hM, iy⟩ := hM_instance y p1 p2 p3 hy
    exact ⟨_, _, t_r9, m_r9, hT, hM, ⟨iz, iy, hj⟩⟩), (fun z y p1 p2 p3 p4 hI => by
    obtain ⟨hz, hy, hj⟩ := hI
    obtain ⟨t_r9, t_n_out, t_n_la_differs, hT, iz⟩ := hT_refine z p1 p2 p3 (if p4 = 0 then (0 : Int32) else 1) hz
    obtain ⟨m_r9, m_n_mo_thrown, m_n_mo_differs, hM, iy⟩ := hM_refine y p1 p2 p3 (if p4 = 0 then (0 : Int32) else 1) hy
    exact ⟨_, _, t_r9, m_r9, hT, hM, ⟨iz, iy, hj⟩⟩), (fun z y p1 p2 p3 p4 hI => by
    obtain ⟨hz, hy, hj⟩ := hI
    obtain ⟨t_r9, t_n_out, t_n_la_ways, hT, iz⟩ := hT_way z p1 p2 hz
    obtain ⟨m_r9, m_n_mo_thrown, m_n_mo_ways, hM, iy⟩ := hM_way y p1 p2 hy
    exact ⟨_, _, t_r9, m_r9, hT, hM, ⟨iz, iy, hj⟩⟩), (fun z y p1 p2 p3 p4 hI => by
    obtain ⟨hz, hy, hj⟩ := hI
    obtain ⟨t_r9, t_n_out, t_n_la_ys, t_n_la_symbolOf, t_n_la_xs, t_n_la_sequence, t_n_wr_keeping, t_n_wr_count, t_n_tb_count, t_n_tb_bytes, t_n_na_row, t_n_la_differs, hT, iz⟩ := hT_order_F z p1 hz
    obtain ⟨m_r9, m_n_mo_thrown, m_n_mo_told, m_n_mo_keeps, m_n_mo_ordered, m_n_mo_ys, m_n_mo_symbolOf, m_n_mo_xs, m_n_mo_out, m_n_mo_row, m_n_mo_codes, m_n_mo_lengths, m_n_mo_differs, m_n_mo_weight, m_n_mo_used, m_n_mo_over, hM, iy⟩ := hM_order y p1 hy
    exact ⟨_, _, t_r9, m_r9, hT, hM, ⟨iz, iy, hj⟩⟩), (fun z y p1 p2 p3 p4 hI => by
    obtain ⟨hz, hy, hj⟩ := hI
    obtain ⟨t_r9, t_n_la_sequence, t_n_pg_dark, hT, iz⟩ := hT_compose z  hz
    obtain ⟨m_r9, m_n_mo_thrown, m_n_mo_page, m_n_mo_ordered, hM, iy⟩ := hM_compose y  hy
    exact ⟨_, _, t_r9, m_r9, hT, hM, ⟨iz, iy, hj⟩⟩), (fun z y p1 p2 p3 p4 hI => by
    obtain ⟨hz, hy, hj⟩ := hI
    obtain ⟨t_r9, t_n_out, hT, iz⟩ := hT_at z p1 p2 hz
    obtain ⟨m_r9, m_n_mo_thrown, hM, iy⟩ := hM_at y p1 p2 hy
    exact ⟨_, _, t_r9, m_r9, hT, hM, ⟨iz, iy, hj⟩⟩), (fun z y p1 p2 p3 p4 hI => by
    obtain ⟨hz, hy, hj⟩ := hI
    obtain ⟨t_r9, t_n_la_sequence, t_n_wr_keeping, t_n_wr_count, t_n_tb_count, t_n_tb_bytes, t_n_na_row, hT, iz⟩ := hT_write_F z  hz
    obtain ⟨m_r9, m_n_mo_thrown, m_n_mo_told, m_n_mo_keeps, m_n_mo_toldBytes, m_n_mo_ordered, m_n_mo_out, m_n_mo_row, m_n_mo_codes, m_n_mo_lengths, m_n_mo_weight, m_n_mo_used, m_n_mo_over, hM, iy⟩ := hM_write y  hy
    exact ⟨_, _, t_r9, m_r9, hT, hM, ⟨iz, iy, hj⟩⟩), (fun z y p1 p2 p3 p4 hI => by
    obtain ⟨hz, hy, hj⟩ := hI
    obtain ⟨t_r9, t_n_out, hT, iz⟩ := hT_byteAt z p1 hz
    obtain ⟨m_r9, m_n_mo_thrown, hM, iy⟩ := hM_byteAt y p1 hy
    exact ⟨_, _, t_r9, m_r9, hT, hM, ⟨iz, iy, hj⟩⟩), (fun z y p1 p2 p3 p4 hI => by
    obtain ⟨hz, hy, hj⟩ := hI
    obtain ⟨t_r9, t_n_out, t_n_cb_count, t_n_cb_bytes, hT, iz⟩ := hT_feed z p1 hz
    obtain ⟨m_r9, m_n_mo_thrown, m_n_mo_came, m_n_mo_in, hM, iy⟩ := hM_feed y p1 hy
    exact ⟨_, _, t_r9, m_r9, hT, hM, ⟨iz, iy, hj⟩⟩), (fun z y p1 p2 p3 p4 hI => by
    obtain ⟨hz, hy, hj⟩ := hI
    obtain ⟨t_r9, t_n_out, t_n_cb_count, t_n_cb_bytes, hT, iz⟩ := hT_pass z  hz
    obtain ⟨m_r9, m_n_mo_thrown, m_n_mo_came, m_n_mo_in, hM, iy⟩ := hM_pass y  hy
    exact ⟨_, _, t_r9, m_r9, hT, hM, ⟨iz, iy, hj⟩⟩), (fun z y p1 p2 p3 p4 hI => by
    obtain ⟨hz, hy, hj⟩ := hI
    obtain ⟨t_r9, t_n_tr_layout, t_n_tr_refusedAt, t_n_sp_count, t_n_rd_place, t_n_rd_refusal, t_n_sp_ways, t_n_cb_count, t_n_na_row, t_n_sp_symbolOf, t_n_sp_xs, t_n_sp_ys, t_n_sp_differs, hT, iz⟩ := hT_read_F z  hz
    obtain ⟨m_r9, m_n_mo_thrown, m_n_mo_instances, m_n_mo_came, m_n_mo_at, m_n_mo_refused, m_n_mo_place, m_n_mo_readMany, m_n_mo_readWays, m_n_mo_row, m_n_mo_lengths, m_n_mo_codes, m_n_mo_readSymbol, m_n_mo_readX, m_n_mo_readY, m_n_mo_readDiffers, m_n_mo_symbolOf, m_n_mo_xs, m_n_mo_ys, m_n_mo_differs, m_n_mo_ways, hM, iy⟩ := hM_read y  hy
    exact ⟨_, _, t_r9, t_n_tr_layout, m_r9, hT, hM, by
      by_cases c : t_n_tr_layout = 0
      · rw [if_pos c]; exact ⟨iz, iy, hj⟩
      · rw [if_neg c]; exact ⟨swap_IT iz, iy, hj⟩⟩), (fun z y p1 p2 p3 p4 hI => by
    obtain ⟨hz, hy, hj⟩ := hI
    obtain ⟨t_r9, t_n_out, hT, iz⟩ := hT_place z p1 p2 hz
    obtain ⟨m_r9, m_n_mo_thrown, hM, iy⟩ := hM_place y p1 p2 hy
    exact ⟨_, _, t_r9, m_r9, hT, hM, ⟨iz, iy, hj⟩⟩), (fun z y p1 p2 p3 p4 hI => by
    obtain ⟨hz, hy, hj⟩ := hI
    obtain ⟨k, hT⟩ := hT_told z p1 hz
    obtain ⟨m_r9, m_n_mo_thrown, hM, iy⟩ := hM_told y p1 hy
    exact ⟨_, k, m_r9, hT, hM, ⟨hz, iy, hj⟩⟩), (fun z y p1 p2 p3 p4 hI => st3_clear z y hI)⟩
