theorem sar_e (x : Int32) : ∀ k : Nat, k ≤ 14 → (x >>> (Int32.ofNat k &&& 31)).toInt = x.toInt / 2 ^ k := by
  intro k hk
  have e : (x >>> (Int32.ofNat k &&& 31)).toInt = x.toInt / 2 ^ ((Int32.ofNat k &&& 31).toBitVec.smod 32).toNat := by
    show (x.toBitVec.sshiftRight ((Int32.ofNat k &&& 31).toBitVec.smod 32).toNat).toInt = _
    rw [BitVec.toInt_sshiftRight, Int.shiftRight_eq_div_pow]
    rfl
  have f : ∀ k : Nat, k ≤ 14 → ((Int32.ofNat k &&& 31).toBitVec.smod 32).toNat = k := by decide
  rw [e, f k hk]
theorem pw_e : ∀ k : Nat, k ≤ 14 → (pw (Int32.ofNat k)).toInt = 2 ^ k := by decide
theorem sarp {x j : Int32} (h0 : 0 ≤ j) (h1 : j ≤ 13) (h : ¬ x >>> (j &&& 31) ≤ 0) : pw j ≤ x := by
  have b := Int32.le_iff_toInt_le.mp h1
  have z : (13 : Int32).toInt = 13 := rfl
  rw [z] at b
  revert h
  refine i32_cases (P := fun j => ¬ x >>> (j &&& 31) ≤ 0 → pw j ≤ x) 13 h0 b ?_
  intro k hk h
  have h2 := Int32.lt_iff_toInt_lt.mp (Int32.not_le.mp h)
  have z0 : (0 : Int32).toInt = 0 := rfl
  rw [z0, sar_e x k (by omega)] at h2
  refine Int32.le_iff_toInt_le.mpr ?_
  rw [pw_e k (by omega)]
  have p : (0 : Int) < 2 ^ k := Int.pow_pos (by decide)
  have h3 : 1 * 2 ^ k ≤ x.toInt := (Int.le_ediv_iff_mul_le p).mp h2
  omega
theorem pw_le6 (j : Int32) (h0 : 0 ≤ j) (h1 : j ≤ 13) : pw j ≤ 127 → j ≤ 6 := by
  have b := Int32.le_iff_toInt_le.mp h1
  have z : (13 : Int32).toInt = 13 := rfl
  rw [z] at b
  exact i32_cases (P := fun j => pw j ≤ 127 → j ≤ 6) 13 h0 b (by decide)
theorem pw_ge (j : Int32) (h0 : 0 ≤ j) (h1 : j ≤ 13) : j + 1 ≤ pw j := by
  have b := Int32.le_iff_toInt_le.mp h1
  have z : (13 : Int32).toInt = 13 := rfl
  rw [z] at b
  exact i32_cases (P := fun j => j + 1 ≤ pw j) 13 h0 b (by decide)
def NF (f : Nat → Int32) (s k : Int32) : Prop := ∀ j : Nat, (j : Int) < k.toInt → ¬ f j = s
theorem nf_0 (f : Nat → Int32) (s : Int32) : NF f s 0 := fun j h => by
  have z : (0 : Int32).toInt = 0 := rfl
  omega
theorem nf_s {f : Nat → Int32} {s k m : Int32} (h : NF f s k) (h0 : 0 ≤ k) (h1 : k ≤ 15) (hk : ¬ f k.toNatClampNeg = s) (e : m = k + 1) : NF f s m := by
  intro j hj
  have a := nat_of h0
  have z : (1 : Int32).toInt = 1 := rfl
  have b := Int32.le_iff_toInt_le.mp h1
  have z15 : (15 : Int32).toInt = 15 := rfl
  have c := Int32.le_iff_toInt_le.mp h0
  have z0 : (0 : Int32).toInt = 0 := rfl
  have em : m.toInt = k.toInt + 1 := by
    subst e
    have y := ya (a := k) (b := 1) (by omega) (by omega)
    rw [y, z]
  by_cases d : j = k.toNatClampNeg
  · subst d; exact hk
  · exact h j (by omega)
theorem nf_le {f : Nat → Int32} {s k : Int32} (hs : SJ f) (h : NF f s k) (h0 : 0 ≤ s) (h1 : s ≤ 15) : k ≤ 15 := by
  obtain ⟨j, hj, e⟩ := hs s h0 h1
  have z15 : (15 : Int32).toInt = 15 := rfl
  refine Int32.le_iff_toInt_le.mpr ?_
  by_cases c : (j : Int) < k.toInt
  · exact absurd e (h j c)
  · omega
