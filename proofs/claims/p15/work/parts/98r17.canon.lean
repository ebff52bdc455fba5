/-! DRAFT: codes by lengths: a full code leaves no prefix without a symbol -/
def ctL (le : Nat → Int32) (l : Nat) : Nat → Nat
  | 0 => 0
  | m + 1 => ctL le l m + if (le m).toNatClampNeg = l then 1 else 0
def nxL (le : Nat → Int32) (d : Nat) : Nat → Nat
  | 0 => 0
  | l + 1 => 2 * nxL le d l + ctL le (l + 1) d
theorem ct_le (le : Nat → Int32) (l : Nat) : ∀ m : Nat, ctL le l m ≤ m := by
  intro m
  induction m with
  | zero => exact Nat.le_refl _
  | succ m ih =>
    unfold ctL
    by_cases c : (le m).toNatClampNeg = l
    · rw [if_pos c]; omega
    · rw [if_neg c]; omega
theorem ct_ex (le : Nat → Int32) (l : Nat) : ∀ m k : Nat, k < ctL le l m → ∃ j : Nat, j < m ∧ (le j).toNatClampNeg = l ∧ ctL le l j = k := by
  intro m
  induction m with
  | zero => intro k hk; exact absurd hk (Nat.not_lt_zero k)
  | succ m ih =>
    intro k hk
    unfold ctL at hk
    by_cases c : (le m).toNatClampNeg = l
    · rw [if_pos c] at hk
      by_cases d : k = ctL le l m
      · exact ⟨m, by omega, c, d.symm⟩
      · obtain ⟨j, h1, h2⟩ := ih k (by omega)
        exact ⟨j, by omega, h2⟩
    · rw [if_neg c] at hk
      obtain ⟨j, h1, h2⟩ := ih k (by omega)
      exact ⟨j, by omega, h2⟩
theorem of_1 (x : Nat) : Int32.ofNat (x + 1) = Int32.ofNat x + 1 := Int32.ofNat_add x 1
theorem of_2 (x : Nat) : Int32.ofNat (2 * x) = 2 * Int32.ofNat x := Int32.ofNat_mul 2 x
set_option maxRecDepth 20000 in
set_option maxHeartbeats 1000000 in
theorem assign_e {dc : Int32} {le cd a : Nat → Int32} (d0 : 0 ≤ dc.toInt) (hd : dc.toInt ≤ 16) (hl : ∀ j : Nat, (j : Int) < dc.toInt → 0 ≤ (le j).toInt ∧ (le j).toInt ≤ 15) (ha : f_CodeNames_assignCodes dc le cd = some a) : ∀ j : Nat, (j : Int) < dc.toInt → 1 ≤ (le j).toNatClampNeg → a j = Int32.ofNat (2 * nxL le dc.toNatClampNeg ((le j).toNatClampNeg - 1) + ctL le (le j).toNatClampNeg j) := by
  have z15 : (15 : Int32).toInt = 15 := rfl
  have dN := nat_of (n := dc) (Int32.le_iff_toInt_le.mpr (by rw [z_0]; exact d0))
  unfold f_CodeNames_assignCodes at ha
  refine lp_one (fun (s : Int32 × Int32 × (Nat → Int32)) => ∃ l : Nat, s.1.toInt = (l : Int) ∧ 1 ≤ l ∧ l ≤ 16 ∧ s.2.1 = Int32.ofNat (nxL le dc.toNatClampNeg (l - 1)) ∧ ∀ j : Nat, (j : Int) < dc.toInt → 1 ≤ (le j).toNatClampNeg → (le j).toNatClampNeg < l → s.2.2 j = Int32.ofNat (2 * nxL le dc.toNatClampNeg ((le j).toNatClampNeg - 1) + ctL le (le j).toNatClampNeg j)) (fun a => ∀ j : Nat, (j : Int) < dc.toInt → 1 ≤ (le j).toNatClampNeg → a j = Int32.ofNat (2 * nxL le dc.toNatClampNeg ((le j).toNatClampNeg - 1) + ctL le (le j).toNatClampNeg j)) ?_ FU _ ?_ a ha
  · intro f hf s hI a ha
    obtain ⟨n, nx, cd⟩ := s
    obtain ⟨l, en, l1, l16, enx, hA⟩ := hI
    dsimp only at en enx hA
    unfold f_CodeNames_assignCodes_L4 at ha
    dsimp only [nl] at ha
    by_cases c : (15 : Int32) < n
    · rw [if_pos c] at ha
      have c9 := t_lt c
      rw [← Option.some.inj ha]
      intro j hj h1
      have hj15 := hl j hj
      have jn := nat_of (n := le j) (Int32.le_iff_toInt_le.mpr (by rw [z_0]; exact hj15.1))
      exact hA j hj h1 (by omega)
    · rw [if_neg c] at ha
      have c9 := t_le (Int32.not_lt.mp c)
      have sh : nx <<< ((1 : Int32) &&& 31) = 2 * nx := by
        have := sh1 (v := nx) (b := 0) (Or.inl rfl)
        rw [Int32.add_zero] at this
        rw [← this]
        exact (Int32.or_zero).symm
      rw [sh, enx, ← of_2] at ha
      have ni := inc_i (k := n) (by omega) (by omega)
      refine lp_one (fun (s : Int32 × Int32 × (Nat → Int32)) => 0 ≤ s.1.toInt ∧ s.1.toInt ≤ dc.toInt ∧ s.2.1 = Int32.ofNat (2 * nxL le dc.toNatClampNeg (l - 1) + ctL le l s.1.toNatClampNeg) ∧ ∀ j : Nat, (j : Int) < dc.toInt → 1 ≤ (le j).toNatClampNeg → ((le j).toNatClampNeg < l ∨ ((le j).toNatClampNeg = l ∧ (j : Int) < s.1.toInt)) → s.2.2 j = Int32.ofNat (2 * nxL le dc.toNatClampNeg ((le j).toNatClampNeg - 1) + ctL le (le j).toNatClampNeg j)) (fun a => ∀ j : Nat, (j : Int) < dc.toInt → 1 ≤ (le j).toNatClampNeg → a j = Int32.ofNat (2 * nxL le dc.toNatClampNeg ((le j).toNatClampNeg - 1) + ctL le (le j).toNatClampNeg j)) ?_ FU _ ?_ a ha
      · intro f1 hf1 s hI a ha
        obtain ⟨i, nx, cd⟩ := s
        obtain ⟨i0, i1, enx, hA⟩ := hI
        dsimp only at i0 i1 enx hA
        have iN := nat_of (n := i) (Int32.le_iff_toInt_le.mpr (by rw [z_0]; exact i0))
        unfold f_CodeNames_assignCodes_L16 at ha
        dsimp only [jn, nl] at ha
        by_cases c2 : dc ≤ i
        · rw [if_pos c2] at ha
          have c29 := t_le c2
          have ei : i.toNatClampNeg = dc.toNatClampNeg := by omega
          refine hf (n + 1, nx, cd) ⟨l + 1, by show (n + 1).toInt = ((l + 1 : Nat) : Int); omega, by omega, by omega, ?_, ?_⟩ a ha
          · show nx = Int32.ofNat (nxL le dc.toNatClampNeg (l + 1 - 1))
            rw [enx, ei]
            have el : l + 1 - 1 = (l - 1) + 1 := by omega
            rw [el]
            have e2 : nxL le dc.toNatClampNeg (l - 1 + 1) = 2 * nxL le dc.toNatClampNeg (l - 1) + ctL le (l - 1 + 1) dc.toNatClampNeg := rfl
            rw [e2]
            have e3 : l - 1 + 1 = l := by omega
            rw [e3]
          · intro j hj h1 h2
            exact hA j hj h1 (by omega)
        · rw [if_neg c2] at ha
          have c29 := t_lt (Int32.not_le.mp c2)
          have ii := inc_i (k := i) (by omega) (by omega)
          obtain ⟨_, ha⟩ := gq_e ha
          have li := hl i.toNatClampNeg (by omega)
          have lN := nat_of (n := le i.toNatClampNeg) (Int32.le_iff_toInt_le.mpr (by rw [z_0]; exact li.1))
          have iN1 := nat_of (n := i + 1) (Int32.le_iff_toInt_le.mpr (by rw [z_0]; omega))
          have ei1 : (i + 1).toNatClampNeg = i.toNatClampNeg + 1 := by omega
          by_cases cl : le i.toNatClampNeg = n
          · rw [if_pos cl] at ha
            obtain ⟨_, ha⟩ := gq_e ha
            have elN : (le i.toNatClampNeg).toNatClampNeg = l := by rw [cl] at lN ⊢; omega
            refine hf1 (i + 1, nx + 1, upd cd i.toNatClampNeg nx) ⟨by show 0 ≤ (i + 1).toInt; omega, by show (i + 1).toInt ≤ dc.toInt; omega, ?_, ?_⟩ a ha
            · show nx + 1 = Int32.ofNat (2 * nxL le dc.toNatClampNeg (l - 1) + ctL le l (i + 1).toNatClampNeg)
              rw [ei1]
              unfold ctL
              rw [if_pos elN, ← Nat.add_assoc, of_1, enx]
            · intro j hj h1 h2
              show upd cd i.toNatClampNeg nx j = _
              by_cases q : j = i.toNatClampNeg
              · rw [upd_c q, q, elN, enx]
              · rw [upd_n q]
                refine hA j hj h1 ?_
                have h2 : (le j).toNatClampNeg < l ∨ ((le j).toNatClampNeg = l ∧ (j : Int) < (i + 1).toInt) := h2
                omega
          · rw [if_neg cl] at ha
            have elN : ¬ (le i.toNatClampNeg).toNatClampNeg = l := fun z => cl (Int32.toInt_inj.mp (by omega))
            refine hf1 (i + 1, nx, cd) ⟨by show 0 ≤ (i + 1).toInt; omega, by show (i + 1).toInt ≤ dc.toInt; omega, ?_, ?_⟩ a ha
            · show nx = Int32.ofNat (2 * nxL le dc.toNatClampNeg (l - 1) + ctL le l (i + 1).toNatClampNeg)
              rw [ei1]
              unfold ctL
              rw [if_neg elN, Nat.add_zero, enx]
            · intro j hj h1 h2
              have h2 : (le j).toNatClampNeg < l ∨ ((le j).toNatClampNeg = l ∧ (j : Int) < (i + 1).toInt) := h2
              refine hA j hj h1 ?_
              by_cases q : j = i.toNatClampNeg
              · left
                rw [q] at h2 ⊢
                omega
              · omega
      · refine ⟨p0_0, by show (0 : Int) ≤ dc.toInt; omega, ?_, fun j hj h1 h2 => ?_⟩
        · show Int32.ofNat (2 * nxL le dc.toNatClampNeg (l - 1)) = Int32.ofNat (2 * nxL le dc.toNatClampNeg (l - 1) + ctL le l ((0 : Int32)).toNatClampNeg)
          have z : ctL le l ((0 : Int32)).toNatClampNeg = 0 := rfl
          rw [z, Nat.add_zero]
        · have h2 : (le j).toNatClampNeg < l ∨ ((le j).toNatClampNeg = l ∧ (j : Int) < (0 : Int)) := h2
          exact hA j hj h1 (by omega)
  · exact ⟨1, rfl, by omega, by omega, rfl, fun j hj h1 h2 => by omega⟩
/-- the lengths' weights, up to a length -/
def kS (le : Nat → Int32) (l : Nat) : Nat → Nat
  | 0 => 0
  | m + 1 => kS le l m + if 1 ≤ (le m).toNatClampNeg ∧ (le m).toNatClampNeg ≤ l then 2 ^ (15 - (le m).toNatClampNeg) else 0
theorem kS_0 (le : Nat → Int32) : ∀ m : Nat, kS le 0 m = 0 := by
  intro m
  induction m with
  | zero => rfl
  | succ m ih =>
    unfold kS
    rw [if_neg (by omega), ih]
theorem kS_s (le : Nat → Int32) (l : Nat) : ∀ m : Nat, kS le (l + 1) m = kS le l m + ctL le (l + 1) m * 2 ^ (15 - (l + 1)) := by
  intro m
  induction m with
  | zero => show 0 = 0 + 0 * _; rw [Nat.zero_mul]
  | succ m ih =>
    unfold kS ctL
    rw [ih]
    by_cases c : (le m).toNatClampNeg = l + 1
    · rw [if_pos (by omega), if_neg (by omega), if_pos c, c, Nat.add_mul, Nat.one_mul]
      omega
    · rw [if_neg c, Nat.add_zero (ctL le (l + 1) m)]
      by_cases d : 1 ≤ (le m).toNatClampNeg ∧ (le m).toNatClampNeg ≤ l
      · rw [if_pos d, if_pos (by omega)]
        omega
      · rw [if_neg d, if_neg (by omega)]
        omega
theorem kraft (le : Nat → Int32) (d : Nat) : ∀ l : Nat, l ≤ 15 → nxL le d l * 2 ^ (15 - l) = kS le l d := by
  intro l
  induction l with
  | zero => intro _; rw [kS_0]; show 0 * _ = 0; rw [Nat.zero_mul]
  | succ l ih =>
    intro hl
    rw [kS_s, ← ih (by omega)]
    have e : nxL le d (l + 1) = 2 * nxL le d l + ctL le (l + 1) d := rfl
    have p : 2 ^ (15 - l) = 2 * 2 ^ (15 - (l + 1)) := by
      have : 15 - l = (15 - (l + 1)) + 1 := by omega
      rw [this, Nat.pow_succ, Nat.mul_comm]
    rw [e, p, Nat.add_mul]
    congr 1
    rw [Nat.mul_assoc, Nat.mul_left_comm]
/-- sums as the programs make them -/
def smI (le : Nat → Int32) : Nat → Int32
  | 0 => 0
  | m + 1 => if le m ≤ 0 then smI le m else smI le m + ((32768 : Int32) >>> (le m &&& 31))
def usI (le : Nat → Int32) : Nat → Int32
  | 0 => 0
  | m + 1 => if le m ≤ 0 then usI le m else usI le m + 1
theorem k15 : ∀ k : Nat, k ≤ 15 → ((32768 : Int32) >>> (Int32.ofNat k &&& 31)) = Int32.ofNat (2 ^ (15 - k)) := by decide
theorem pow_15 : ∀ k : Nat, k ≤ 15 → 1 ≤ k → 2 ^ (15 - k) ≤ 16384 := by decide
theorem sm_e {le : Nat → Int32} : ∀ m : Nat, m ≤ 16 → (∀ j : Nat, j < m → 0 ≤ (le j).toInt ∧ (le j).toInt ≤ 15) → smI le m = Int32.ofNat (kS le 15 m) ∧ kS le 15 m ≤ m * 16384 := by
  intro m
  induction m with
  | zero => intro _ _; exact ⟨rfl, Nat.le_refl _⟩
  | succ m ih =>
    intro hm h
    obtain ⟨i1, i2⟩ := ih (by omega) (fun j hj => h j (by omega))
    have hm9 := h m (by omega)
    have lN := nat_of (n := le m) (Int32.le_iff_toInt_le.mpr (by rw [z_0]; exact hm9.1))
    unfold smI kS
    by_cases c : le m ≤ 0
    · have c9 := t_le c
      rw [z_0] at c9
      rw [if_pos c, if_neg (by omega)]
      refine ⟨i1, ?_⟩
      have e : (m + 1) * 16384 = m * 16384 + 16384 := by rw [Nat.add_mul, Nat.one_mul]
      rw [e, Nat.add_zero]
      exact Nat.le_trans i2 (Nat.le_add_right _ _)
    · have c9 := t_lt (Int32.not_le.mp c)
      rw [z_0] at c9
      rw [if_neg c, if_pos (by omega), i1]
      have e : le m = Int32.ofNat (le m).toNatClampNeg := (ofn lN).symm
      have k := k15 (le m).toNatClampNeg (by omega)
      rw [← e] at k
      rw [k, ← Int32.ofNat_add]
      have b := pow_15 (le m).toNatClampNeg (by omega) (by omega)
      refine ⟨rfl, ?_⟩
      have e9 : (m + 1) * 16384 = m * 16384 + 16384 := by rw [Nat.add_mul, Nat.one_mul]
      rw [e9]
      exact Nat.add_le_add i2 b
theorem us_r {le : Nat → Int32} : ∀ m : Nat, m ≤ 16 → 0 ≤ (usI le m).toInt ∧ (usI le m).toInt ≤ m := by
  intro m
  induction m with
  | zero => intro _; exact ⟨p0_0, by show (0 : Int) ≤ 0; omega⟩
  | succ m ih =>
    intro hm
    have i := ih (by omega)
    unfold usI
    by_cases c : le m ≤ 0
    · rw [if_pos c]; omega
    · rw [if_neg c, inc_i (by omega) (by omega)]; omega
theorem us_0 {le : Nat → Int32} : ∀ m : Nat, m ≤ 16 → usI le m = 0 → smI le m = 0 ∧ ∀ j : Nat, j < m → le j ≤ 0 := by
  intro m
  induction m with
  | zero => intro _ _; exact ⟨rfl, fun j hj => absurd hj (Nat.not_lt_zero j)⟩
  | succ m ih =>
    intro hm hu
    unfold usI at hu
    unfold smI
    by_cases c : le m ≤ 0
    · rw [if_pos c] at hu ⊢
      obtain ⟨h1, h2⟩ := ih (by omega) hu
      refine ⟨h1, fun j hj => ?_⟩
      by_cases q : j = m
      · rw [q]; exact c
      · exact h2 j (by omega)
    · exfalso
      rw [if_neg c] at hu
      have r := us_r (le := le) m (by omega)
      have i := inc_i (k := usI le m) (by omega) (by omega)
      rw [hu, z_0] at i
      omega
theorem us_1 {le : Nat → Int32} : ∀ m : Nat, m ≤ 16 → usI le m = 1 → ∀ j : Nat, j < m → ¬ le j ≤ 0 → smI le m = (32768 : Int32) >>> (le j &&& 31) := by
  intro m
  induction m with
  | zero => intro _ _ j hj; exact absurd hj (Nat.not_lt_zero j)
  | succ m ih =>
    intro hm hu j hj hp
    unfold usI at hu
    unfold smI
    by_cases c : le m ≤ 0
    · rw [if_pos c] at hu ⊢
      have q : ¬ j = m := fun z => hp (by rw [z]; exact c)
      exact ih (by omega) hu j (by omega) hp
    · rw [if_neg c] at hu ⊢
      have u0 : usI le m = 0 := by
        have r := us_r (le := le) m (by omega)
        have i := inc_i (k := usI le m) (by omega) (by omega)
        rw [hu, z_1] at i
        exact zero_t.mpr (by omega)
      obtain ⟨h1, h2⟩ := us_0 m (by omega) u0
      have q : j = m := by
        by_cases z : j = m
        · exact z
        · exact absurd (h2 j (by omega)) hp
      rw [h1, Int32.zero_add, q]
/-- a prefix that no code ends is the beginning of one -/
theorem may_ex {le : Nat → Int32} {d : Nat} (hK : nxL le d 15 = 32768) {c n : Nat} (hn : n ≤ 15) (hc2 : c < 2 ^ n) : ∀ k l : Nat, l + k = 15 → n ≤ l → nxL le d l ≤ c * 2 ^ (l - n) → ∃ j : Nat, j < d ∧ n < (le j).toNatClampNeg ∧ (le j).toNatClampNeg ≤ 15 ∧ 2 * nxL le d ((le j).toNatClampNeg - 1) + ctL le (le j).toNatClampNeg j = c * 2 ^ ((le j).toNatClampNeg - n) := by
  intro k
  induction k with
  | zero =>
    intro l hl hnl hx
    exfalso
    have e : l = 15 := by omega
    subst e
    rw [hK] at hx
    have p : 2 ^ n * 2 ^ (15 - n) = 32768 := by
      rw [← Nat.pow_add]
      have : n + (15 - n) = 15 := by omega
      rw [this]
    have q : c * 2 ^ (15 - n) < 2 ^ n * 2 ^ (15 - n) := Nat.mul_lt_mul_of_pos_right hc2 (Nat.two_pow_pos _)
    omega
  | succ k ih =>
    intro l hl hnl hx
    have p : c * 2 ^ (l + 1 - n) = 2 * (c * 2 ^ (l - n)) := by
      have : l + 1 - n = (l - n) + 1 := by omega
      rw [this, Nat.pow_succ, ← Nat.mul_assoc, Nat.mul_comm]
    by_cases q : nxL le d (l + 1) ≤ c * 2 ^ (l + 1 - n)
    · exact ih (l + 1) (by omega) (by omega) q
    · have e : nxL le d (l + 1) = 2 * nxL le d l + ctL le (l + 1) d := rfl
      obtain ⟨j, h1, h2, h3⟩ := ct_ex le (l + 1) d (c * 2 ^ (l + 1 - n) - 2 * nxL le d l) (by omega)
      refine ⟨j, h1, by omega, by omega, ?_⟩
      rw [h2, h3]
      have e2 : l + 1 - 1 = l := by omega
      rw [e2]
      omega
