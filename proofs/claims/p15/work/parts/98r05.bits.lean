/-! DRAFT: the samples that differ, in the class row by row of the symbol's width, in the reference in rows of 8 -/
def BX (w h : Nat) (a b : Int64) : Prop := (∀ x v : Nat, x < w → v < h → a.toBitVec.getLsbD (v * w + x) = b.toBitVec.getLsbD (8 * v + x)) ∧ (∀ j : Nat, w * h ≤ j → a.toBitVec.getLsbD j = false) ∧ (∀ x v : Nat, x < 8 → v < 8 → (w ≤ x ∨ h ≤ v) → b.toBitVec.getLsbD (8 * v + x) = false)
theorem bit_z (j : Nat) : (0 : Int64).toBitVec.getLsbD j = false := by
  show (0#64).getLsbD j = false
  simp
theorem bx_0 (w h : Nat) : BX w h 0 0 := ⟨fun _ _ _ _ => by rw [bit_z, bit_z], fun j _ => bit_z j, fun _ _ _ _ _ => bit_z _⟩
theorem ix_lt {w h x v : Nat} (hx : x < w) (hv : v < h) : v * w + x < w * h := by
  have : (v + 1) * w ≤ h * w := Nat.mul_le_mul_right w hv
  rw [Nat.add_mul, Nat.one_mul, Nat.mul_comm h w] at this
  omega
theorem wh_le {w h : Nat} (hw : w ≤ 8) (hh : h ≤ 8) : w * h ≤ 64 := Nat.mul_le_mul hw hh
theorem ix_eq {w x v x9 v9 : Nat} (hw : w ≤ 8) (hx : x < w) (hx9 : x9 < w) : (v9 * w + x9 = v * w + x) ↔ (8 * v9 + x9 = 8 * v + x) := by
  constructor
  · intro q
    obtain ⟨e1, e2⟩ := ix_inj hx9 hx q
    omega
  · intro q
    have e1 : v9 = v := by omega
    have e2 : x9 = x := by omega
    rw [e1, e2]
theorem bx_or {w h x v : Nat} {a b m m9 : Int64} (hw : w ≤ 8) (hh : h ≤ 8) (hx : x < w) (hv : v < h) (hm : m.toBitVec = BitVec.twoPow 64 (v * w + x)) (hm9 : m9.toBitVec = BitVec.twoPow 64 (8 * v + x)) (hB : BX w h a b) : BX w h (a ||| m) (b ||| m9) := by
  have l1 := ix_lt hx hv
  have l2 := wh_le hw hh
  obtain ⟨h1, h2, h3⟩ := hB
  refine ⟨fun x9 v9 hx9 hv9 => ?_, fun j hj => ?_, fun x9 v9 hx9 hv9 ho => ?_⟩
  · rw [bit_or (j := v * w + x) (by omega) hm, bit_or (j := 8 * v + x) (by omega) hm9, h1 x9 v9 hx9 hv9]
    congr 1
    exact decide_eq_decide.mpr (ix_eq hw hx hx9)
  · rw [bit_or (j := v * w + x) (by omega) hm, h2 j hj, Bool.false_or]
    exact decide_eq_false (by omega)
  · rw [bit_or (j := 8 * v + x) (by omega) hm9, h3 x9 v9 hx9 hv9 ho, Bool.false_or]
    exact decide_eq_false (by omega)
theorem bx_an {w h x v : Nat} {a b m m9 : Int64} (hw : w ≤ 8) (hh : h ≤ 8) (hx : x < w) (hv : v < h) (hm : m.toBitVec = BitVec.twoPow 64 (v * w + x)) (hm9 : m9.toBitVec = BitVec.twoPow 64 (8 * v + x)) (hB : BX w h a b) : BX w h (a &&& (m ^^^ (-1))) (b &&& (m9 ^^^ (-1))) := by
  have l1 := ix_lt hx hv
  have l2 := wh_le hw hh
  obtain ⟨h1, h2, h3⟩ := hB
  refine ⟨fun x9 v9 hx9 hv9 => ?_, fun j hj => ?_, fun x9 v9 hx9 hv9 ho => ?_⟩
  · have l3 := ix_lt hx9 hv9
    rw [bit_an (j := v * w + x) (by omega) hm (by omega), bit_an (j := 8 * v + x) (by omega) hm9 (by omega), h1 x9 v9 hx9 hv9]
    congr 2
    exact decide_eq_decide.mpr (ix_eq hw hx hx9)
  · by_cases c : j < 64
    · rw [bit_an (j := v * w + x) (by omega) hm c, h2 j hj, Bool.false_and]
    · exact BitVec.getLsbD_of_ge _ _ (by omega)
  · rw [bit_an (j := 8 * v + x) (by omega) hm9 (by omega), h3 x9 v9 hx9 hv9 ho, Bool.false_and]
theorem bx_z {w h : Nat} {a b : Int64} (hw : w ≤ 8) (hh : h ≤ 8) (hB : BX w h a b) : a = 0 ↔ b = 0 := by
  obtain ⟨h1, h2, h3⟩ := hB
  constructor
  · intro e
    subst e
    apply Int64.toBitVec_inj.mp
    apply BitVec.eq_of_getLsbD_eq
    intro j hj
    have ej : j = 8 * (j / 8) + j % 8 := by omega
    show b.toBitVec.getLsbD j = (0 : Int64).toBitVec.getLsbD j
    rw [bit_z, ej]
    by_cases c : j % 8 < w ∧ j / 8 < h
    · rw [← h1 _ _ c.1 c.2, bit_z]
    · exact h3 _ _ (by omega) (by omega) (by omega)
  · intro e
    subst e
    apply Int64.toBitVec_inj.mp
    apply BitVec.eq_of_getLsbD_eq
    intro j hj
    show a.toBitVec.getLsbD j = (0 : Int64).toBitVec.getLsbD j
    rw [bit_z]
    by_cases c : w * h ≤ j
    · exact h2 j c
    · have w0 : 0 < w := by
        rcases Nat.eq_zero_or_pos w with q | q
        · rw [q, Nat.zero_mul] at c; omega
        · exact q
      have m := Nat.mod_lt j w0
      have d : j / w < h := Nat.div_lt_of_lt_mul (by omega)
      have e : j / w * w + j % w = j := Nat.div_add_mod' j w
      have q := h1 (j % w) (j / w) m d
      rw [e, bit_z] at q
      exact q
/-- the differing samples of the first n instances -/
def DX (n : Int32) (sO w h : Nat → Int32) (df df9 : Nat → Int64) : Prop := ∀ j : Nat, (j : Int) < n.toInt → BX (w (sO j).toNatClampNeg).toNatClampNeg (h (sO j).toNatClampNeg).toNatClampNeg (df j) (df9 j)
/-- the symbols of the first n instances are there -/
def SO (n dc : Int32) (sO : Nat → Int32) : Prop := ∀ j : Nat, (j : Int) < n.toInt → 0 ≤ (sO j).toInt ∧ (sO j).toInt < dc.toInt
theorem cl8 {w : Nat → Int32} (hw : R w 0 8) (k : Nat) : (w k).toNatClampNeg ≤ 8 := by
  have a := hw k
  exact nat_le a.1 (by have := t_le a.2; exact this)
theorem cl_t {w : Nat → Int32} (hw : R w 0 8) (k : Nat) : ((w k).toNatClampNeg : Int) = (w k).toInt := nat_of (hw k).1
