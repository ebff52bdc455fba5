/-! rows of symbols: every symbol stands in it -/
def SJ (f : Nat → Int32) : Prop := ∀ s : Int32, 0 ≤ s → s ≤ 15 → ∃ j : Nat, j ≤ 15 ∧ f j = s
def ID (f : Nat → Int32) (n : Int32) : Prop := ∀ j : Nat, (j : Int) < n.toInt → f j = Int32.ofNat j
theorem nat_of {n : Int32} (h : 0 ≤ n) : ((n.toNatClampNeg : Nat) : Int) = n.toInt := by
  have := Int32.le_iff_toInt_le.mp h
  have z : (0 : Int32).toInt = 0 := rfl
  show ((n.toInt.toNat : Nat) : Int) = n.toInt
  omega
theorem id_0 (f : Nat → Int32) : ID f 0 := fun j h => by
  have z : (0 : Int32).toInt = 0 := rfl
  omega
theorem id_upd {f : Nat → Int32} {n m : Int32} (h : ID f n) (h0 : 0 ≤ n) (h1 : n ≤ 15) (e : m = n + 1) : ID (upd f n.toNatClampNeg n) m := by
  intro j hj
  have a := nat_of h0
  have em : m.toInt = n.toInt + 1 := by
    subst e
    have z : (1 : Int32).toInt = 1 := rfl
    have b := Int32.le_iff_toInt_le.mp h1
    have z15 : (15 : Int32).toInt = 15 := rfl
    have c := Int32.le_iff_toInt_le.mp h0
    have z0 : (0 : Int32).toInt = 0 := rfl
    have y := ya (a := n) (b := 1) (by omega) (by omega)
    rw [y, z]
  unfold upd
  by_cases c : j = n.toNatClampNeg
  · simp only [c, if_true]
    exact (ofn (by omega)).symm
  · simp only [c, if_false]
    exact h j (by omega)
theorem id_sj {f : Nat → Int32} {n : Int32} (h : ID f n) (hn : 16 ≤ n) : SJ f := by
  intro s h0 h1
  have a := nat_of h0
  have b := Int32.le_iff_toInt_le.mp h1
  have z15 : (15 : Int32).toInt = 15 := rfl
  have c := Int32.le_iff_toInt_le.mp hn
  have z16 : (16 : Int32).toInt = 16 := rfl
  refine ⟨s.toNatClampNeg, by omega, ?_⟩
  rw [h _ (by omega)]
  exact ofn (by omega)
def TF (f g : Nat → Int32) (i k : Int32) : Prop := ∀ j : Nat, g j = if (i.toInt < (j : Int) ∧ (j : Int) ≤ k.toInt) then f (j - 1) else f j
theorem tf_0 (f : Nat → Int32) (k : Int32) : TF f f k k := fun j => by
  rw [if_neg (by omega)]
theorem tf_s {f g : Nat → Int32} {i m k w : Int32} (h : TF f g i k) (h0 : 0 < i) (h1 : i ≤ k) (h2 : k ≤ 15) (e : m = i + (-1)) (ew : w = g (i - 1).toNatClampNeg) : TF f (upd g i.toNatClampNeg w) m k := by
  have z0 : (0 : Int32).toInt = 0 := rfl
  have z1 : (1 : Int32).toInt = 1 := rfl
  have zm : (-1 : Int32).toInt = -1 := rfl
  have z15 : (15 : Int32).toInt = 15 := rfl
  have a0 := Int32.lt_iff_toInt_lt.mp h0
  have a1 := Int32.le_iff_toInt_le.mp h1
  have a2 := Int32.le_iff_toInt_le.mp h2
  have em : m.toInt = i.toInt - 1 := by
    subst e
    have y := ya (a := i) (b := -1) (by omega) (by omega)
    rw [y, zm]; rfl
  have es : (i - 1).toInt = i.toInt - 1 := by
    have y := yb (a := i) (b := 1) (by omega) (by omega)
    rw [y, z1]
  have ni := nat_of (n := i) (Int32.le_iff_toInt_le.mpr (by omega))
  have ns := nat_of (n := i - 1) (Int32.le_iff_toInt_le.mpr (by omega))
  intro j
  unfold upd
  by_cases c : j = i.toNatClampNeg
  · simp only [c, if_true]
    rw [if_pos (by omega), ew, h, if_neg (by omega)]
    congr 1
    omega
  · simp only [c, if_false]
    rw [h j]
    by_cases d : i.toInt < (j : Int) ∧ (j : Int) ≤ k.toInt
    · rw [if_pos d, if_pos (by omega)]
    · rw [if_neg d, if_neg (by omega)]
theorem tf_sj {f g : Nat → Int32} {i k s : Int32} (h : TF f g i k) (hi : i ≤ 0) (hi0 : 0 ≤ i) (k0 : 0 ≤ k) (k1 : k ≤ 15) (e : s = f k.toNatClampNeg) : SJ f → SJ (upd g ((0 : Int32)).toNatClampNeg s) := by
  intro hf v h0 h1
  have z0 : (0 : Int32).toInt = 0 := rfl
  have z15 : (15 : Int32).toInt = 15 := rfl
  have a0 := Int32.le_iff_toInt_le.mp hi
  have a1 := Int32.le_iff_toInt_le.mp hi0
  have b0 := Int32.le_iff_toInt_le.mp k0
  have b1 := Int32.le_iff_toInt_le.mp k1
  have nk := nat_of k0
  have n0 : (0 : Int32).toNatClampNeg = 0 := rfl
  obtain ⟨j, hj, ej⟩ := hf v h0 h1
  rw [n0]
  unfold upd
  by_cases c : j = k.toNatClampNeg
  · exact ⟨0, by omega, by simp only [if_true]; rw [e, ← c, ej]⟩
  · by_cases d : (j : Int) < k.toInt
    · refine ⟨j + 1, by omega, ?_⟩
      rw [if_neg (by omega), h, if_pos (by omega)]
      simpa using ej
    · by_cases z : j = 0
      · exfalso
        omega
      · refine ⟨j, hj, ?_⟩
        rw [if_neg z, h, if_neg (by omega), ej]
theorem mulnz {w h d : Int32} (h0 : 0 ≤ d) (h1 : d < w * h) : ¬ w = 0 := by
  intro e
  subst e
  have z : (0 : Int32) * h = 0 := Int32.zero_mul
  rw [z] at h1
  exact absurd h1 (Int32.not_lt.mpr h0)
