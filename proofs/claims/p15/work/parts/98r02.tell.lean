/-! DRAFT: telling, in step: the class's bits and the reference's -/
theorem z_8 : (8 : Int32).toInt = 8 := rfl
theorem div8 {c : Int32} (h0 : 0 ≤ c.toInt) : (c / 8).toInt = c.toInt / 8 := by
  have e := i_div (a := c) (b := 8) (Int32.le_iff_toInt_le.mpr (by rw [z_0]; exact h0)) (by decide)
  rw [e, z_8]
theorem rem8 {c : Int32} (h0 : 0 ≤ c.toInt) : (c - c / (8 : Int32) * (8 : Int32)).toInt = c.toInt % 8 := by
  have d := div8 h0
  have b : c.toInt ≤ 2147483647 := Int32.toInt_le c
  have m := i_mul (a := c / 8) (b := 8) d z_8 (by omega) (by omega)
  have s := i_sub (a := c) (x := c.toInt) rfl m (by omega) (by omega)
  rw [s]
  omega
theorem zero_t {a : Int32} : a = 0 ↔ a.toInt = 0 := by
  constructor
  · intro h; rw [h]; rfl
  · intro h; exact Int32.toInt_inj.mp (by rw [h]; rfl)
def TK (c tc : Int32) (by9 : Nat → Int32) (c9 : Int32) (o : Nat → Int32) : Prop := c = c9 ∧ 0 ≤ c.toInt ∧ c.toInt ≤ 16000 ∧ tc.toInt = (c.toInt + 7) / 8 ∧ ∀ j : Nat, (j : Int) < tc.toInt → by9 j = o j
theorem gq_lt {i : Int32} {n : Nat} (h : vp_in i n) : i.toInt < (n : Int) ∧ 0 ≤ i.toInt := by
  have h1 : ¬ (i < 0 ∨ n ≤ i.toNatClampNeg) := h
  have h2 : ¬ i < 0 := fun q => h1 (Or.inl q)
  have h3 := nat_of (Int32.not_lt.mp h2)
  have h4 : ¬ n ≤ i.toNatClampNeg := fun q => h1 (Or.inr q)
  have h5 := t_le (Int32.not_lt.mp h2)
  rw [z_0] at h5
  omega
set_option maxHeartbeats 1000000 in
theorem bit1 {v i c tc c9 bt c8 : Int32} {b o o8 : Nat → Int32} {R : Int32 × Int32 × (Nat → Int32)} {f : Int32 × Int32 × Int32 × (Nat → Int32) → Option (Int32 × Int32 × (Nat → Int32))} (h : TK c tc b c9 o) (i0 : ¬ i < 0) (e : (v >>> (i &&& 31)) &&& (1 : Int32) = bt) (ha : f_BitWriter_tellBits_L22 v f (i, c, tc, b) = some R) (hb : f_Mo_bit c9 1 o bt = some (c8, o8)) :
    ∃ (c1 tc1 : Int32) (b1 : Nat → Int32), f (i + (-1), c1, tc1, b1) = some R ∧ TK c1 tc1 b1 c8 o8 := by
  obtain ⟨ec, h0, h1, h2, h3⟩ := h
  subst ec
  subst e
  have d8 := div8 h0
  have r8 := rem8 h0
  have nq := nat_of (n := c / 8) (Int32.le_iff_toInt_le.mpr (by rw [z_0, d8]; omega))
  unfold f_BitWriter_tellBits_L22 at ha
  unfold f_Mo_bit at hb
  dsimp only at ha
  rw [if_neg i0] at ha
  rw [if_neg (by decide)] at hb
  have y1 : c.toInt ≤ 15999 → (c + 1).toInt = c.toInt + 1 := fun q => by
    rw [ya (a := c) (b := 1) (by rw [z_1]; omega) (by rw [z_1]; omega), z_1]
  by_cases m : (c - c / (8 : Int32) * (8 : Int32)) = 0
  · have m8 : c.toInt % 8 = 0 := by rw [← r8]; exact zero_t.mp m
    simp only [jn, if_pos m] at ha hb
    obtain ⟨g1, hb⟩ := gq_e hb
    obtain ⟨_, hb⟩ := gq_e hb
    have hb := (gq_e hb).2
    have g2 := gq_lt g1
    rw [d8] at g2
    obtain ⟨x, hx, ha⟩ := bd_e ha
    unfold f_ByteRow_append at hx
    have t1 : ¬ (2000 : Int32) ≤ tc := fun q => by
      have := t_le q
      have z2 : (2000 : Int32).toInt = 2000 := rfl
      omega
    rw [if_neg t1] at hx
    obtain ⟨_, hx⟩ := gq_e hx
    have hx : some (tc + 1, upd b tc.toNatClampNeg 0) = some x := hx
    have hx := Option.some.inj hx
    subst hx
    dsimp only at ha
    have tcn := nat_of (n := tc) (Int32.le_iff_toInt_le.mpr (by rw [z_0]; omega))
    have tp : (tc + 1).toInt = tc.toInt + 1 := by rw [ya (a := tc) (b := 1) (by rw [z_1]; omega) (by rw [z_1]; omega), z_1]
    have t2 : ¬ tc + 1 ≤ c / 8 := fun q => by
      have := t_le q
      omega
    rw [if_neg t2] at ha
    obtain ⟨_, ha⟩ := gq_e ha
    have ha := (gq_e ha).2
    have hb := Option.some.inj hb
    obtain ⟨q1, q2⟩ := Prod.mk.inj hb
    refine ⟨_, _, _, ha, q1, ?_, ?_, ?_, ?_⟩
    · rw [y1 (by omega)]; omega
    · rw [y1 (by omega)]; omega
    · rw [tp, y1 (by omega)]; omega
    · intro j hj
      rw [tp] at hj
      rw [← q2]
      have en : tc.toNatClampNeg = (c / 8).toNatClampNeg := by omega
      unfold upd
      rw [en]
      by_cases w : j = (c / 8).toNatClampNeg
      · simp only [w, if_true]
      · simp only [w, if_false]
        exact h3 j (by omega)
  · have m8 : ¬ c.toInt % 8 = 0 := by rw [← r8]; exact fun q => m (zero_t.mpr q)
    simp only [jn, if_neg m] at ha hb
    obtain ⟨g1, hb⟩ := gq_e hb
    have hb := (gq_e hb).2
    have g2 := gq_lt g1
    rw [d8] at g2
    have t2 : ¬ tc ≤ c / 8 := fun q => by
      have := t_le q
      omega
    rw [if_neg t2] at ha
    obtain ⟨_, ha⟩ := gq_e ha
    have ha := (gq_e ha).2
    have hb := Option.some.inj hb
    obtain ⟨q1, q2⟩ := Prod.mk.inj hb
    refine ⟨_, _, _, ha, q1, ?_, ?_, ?_, ?_⟩
    · rw [y1 (by omega)]; omega
    · rw [y1 (by omega)]; omega
    · rw [y1 (by omega)]; omega
    · intro j hj
      rw [← q2]
      unfold upd
      by_cases w : j = (c / 8).toNatClampNeg
      · simp only [w, if_true]
        rw [h3 _ (by omega)]
      · simp only [w, if_false]
        exact h3 j hj
theorem dec_i {k : Int32} (h : -2147483647 ≤ k.toInt) : (k + (-1)).toInt = k.toInt - 1 := by
  have b : k.toInt ≤ 2147483647 := Int32.toInt_le k
  have zm : (-1 : Int32).toInt = -1 := rfl
  rw [ya (a := k) (b := -1) (by rw [zm]; omega) (by rw [zm]; omega), zm]
  rfl
theorem add_i {s k : Int32} (h1 : -100 ≤ s.toInt) (h2 : s.toInt ≤ 100) (h3 : -100 ≤ k.toInt) (h4 : k.toInt ≤ 100) : (s + k).toInt = s.toInt + k.toInt := ya (by omega) (by omega)
theorem ltz {k : Int32} : k < 0 ↔ k.toInt < 0 := by
  rw [Int32.lt_iff_toInt_lt, z_0]
/-- bits of the class's row, told from i down to s, are the reference's low(w, ..) -/
theorem seg {v w s : Int32} (s0 : 0 ≤ s.toInt) (s1 : s.toInt ≤ 40) : ∀ (N : Nat) (k c9 : Int32) (o : Nat → Int32) (c8 : Int32) (o8 : Nat → Int32), lp (f_Mo_low_L4 1 w) N (k, c9, o) = some (c8, o8) → -1 ≤ k.toInt → k.toInt ≤ 40 → (∀ j : Int32, 0 ≤ j.toInt → j.toInt ≤ k.toInt → (v >>> ((s + j) &&& 31)) &&& (1 : Int32) = (w >>> (j &&& 31)) &&& (1 : Int32)) →
    ∀ (n : Nat) (i c tc : Int32) (b : Nat → Int32) (R : Int32 × Int32 × (Nat → Int32)), TK c tc b c9 o → i = s + k → lp (f_BitWriter_tellBits_L22 v) n (i, c, tc, b) = some R → ∃ (n1 : Nat) (c1 tc1 : Int32) (b1 : Nat → Int32), lp (f_BitWriter_tellBits_L22 v) n1 (s + (-1), c1, tc1, b1) = some R ∧ TK c1 tc1 b1 c8 o8 := by
  intro N
  induction N with
  | zero => intro k c9 o c8 o8 h; exact absurd h (by simp [lp])
  | succ N ih =>
    intro k c9 o c8 o8 h k0 k1 hb n i c tc b R hT ei ha
    have h : f_Mo_low_L4 1 w (lp (f_Mo_low_L4 1 w) N) (k, c9, o) = some (c8, o8) := h
    unfold f_Mo_low_L4 at h
    dsimp only at h
    by_cases q : k < 0
    · rw [if_pos q] at h
      obtain ⟨e1, e2⟩ := Prod.mk.inj (Option.some.inj h)
      subst e1
      subst e2
      have e : k = -1 := Int32.toInt_inj.mp (by have := ltz.mp q; show k.toInt = -1; omega)
      subst e
      subst ei
      exact ⟨n, c, tc, b, ha, hT⟩
    · rw [if_neg q] at h
      obtain ⟨x, hx, h⟩ := bd_e h
      obtain ⟨c7, o7⟩ := x
      have h : lp (f_Mo_low_L4 1 w) N (k + (-1), c7, o7) = some (c8, o8) := h
      have kp : 0 ≤ k.toInt := by
        have : ¬ k.toInt < 0 := fun z => q (ltz.mpr z)
        omega
      cases n with
      | zero => exact absurd ha (by simp [lp])
      | succ n =>
        have ha : f_BitWriter_tellBits_L22 v (lp (f_BitWriter_tellBits_L22 v) n) (i, c, tc, b) = some R := ha
        have ai := add_i (s := s) (k := k) (by omega) (by omega) (by omega) (by omega)
        have i0 : ¬ i < 0 := fun z => by
          have := ltz.mp z
          rw [ei, ai] at this
          omega
        obtain ⟨c1, tc1, b1, hf, hT1⟩ := bit1 hT i0 (by rw [ei]; exact hb k kp (Int.le_refl _)) ha hx
        have kd := dec_i (k := k) (by omega)
        refine ih (k + (-1)) c7 o7 c8 o8 h (by omega) (by omega) (fun j j0 j1 => hb j j0 (by omega)) n (i + (-1)) c1 tc1 b1 R hT1 ?_ hf
        rw [ei, Int32.add_assoc]
/-- tellBits and low, keeping -/
theorem bits2 {v n c tc c9 c8 : Int32} {b o o8 : Nat → Int32} {c1 tc1 : Int32} {b1 : Nat → Int32} (hT : TK c tc b c9 o) (n0 : 0 ≤ n.toInt) (n1 : n.toInt ≤ 31) (ha : f_BitWriter_tellBits 1 c tc b v n = some (c1, tc1, b1)) (hb : f_Mo_low c9 1 o v n = some (c8, o8)) : TK c1 tc1 b1 c8 o8 := by
  unfold f_BitWriter_tellBits at ha
  unfold f_Mo_low at hb
  rw [if_neg (by decide)] at ha
  have ha : lp (f_BitWriter_tellBits_L22 v) FU (n - 1, c, tc, b) = some (c1, tc1, b1) := ha
  have hb : lp (f_Mo_low_L4 1 v) FU (n - 1, c9, o) = some (c8, o8) := hb
  have e : (n - 1).toInt = n.toInt - 1 := by rw [yb (a := n) (b := 1) (by rw [z_1]; omega) (by rw [z_1]; omega), z_1]
  obtain ⟨m, c2, tc2, b2, hf, hT2⟩ := seg (v := v) (w := v) (s := 0) (by decide) (by decide) FU (n - 1) c9 o c8 o8 hb (by omega) (by omega) (fun j _ _ => by rw [Int32.zero_add]) FU (n - 1) c tc b _ hT (by rw [Int32.zero_add]) ha
  cases m with
  | zero => exact absurd hf (by simp [lp])
  | succ m =>
    have hf : f_BitWriter_tellBits_L22 v (lp (f_BitWriter_tellBits_L22 v) m) (0 + (-1), c2, tc2, b2) = some (c1, tc1, b1) := hf
    unfold f_BitWriter_tellBits_L22 at hf
    dsimp only at hf
    rw [if_pos (by decide)] at hf
    obtain ⟨e1, e2⟩ := Prod.mk.inj (Option.some.inj hf)
    obtain ⟨e3, e4⟩ := Prod.mk.inj e2
    subst e1
    subst e3
    subst e4
    exact hT2
theorem sarn (x : Int32) {j : Int32} (h0 : 0 ≤ j.toInt) (h1 : j.toInt ≤ 14) : (x >>> (j &&& 31)).toInt = x.toInt / 2 ^ j.toNatClampNeg := by
  have nj := nat_of (n := j) (Int32.le_iff_toInt_le.mpr (by rw [z_0]; exact h0))
  have e : j = Int32.ofNat j.toNatClampNeg := (ofn nj).symm
  have s := sar_e x j.toNatClampNeg (by omega)
  rw [← e] at s
  exact s
theorem i_zero {a : Int32} (h : a.toInt = 0) : a = 0 := zero_t.mpr h
theorem i_one {a : Int32} (h : a.toInt = 1) : a = 1 := Int32.toInt_inj.mp h
theorem inc_i {k : Int32} (h0 : -100 ≤ k.toInt) (h1 : k.toInt ≤ 1000000) : (k + 1).toInt = k.toInt + 1 := by
  rw [ya (a := k) (b := 1) (by rw [z_1]; omega) (by rw [z_1]; omega), z_1]
/-- the bits of a number below 2^(k+1), from bit k + 1 on: none -/
theorem hi_0 {v k j : Int32} (v0 : 0 ≤ v.toInt) (k0 : 0 ≤ k.toInt) (k1 : k.toInt ≤ 6) (j0 : 0 ≤ j.toInt) (j1 : j.toInt ≤ 6) (hv : v >>> ((k + 1) &&& 31) = 0) : (v >>> ((k + 1 + j) &&& 31)) &&& (1 : Int32) = 0 := by
  have e1 := inc_i (k := k) (by omega) (by omega)
  have e2 := add_i (s := k + 1) (k := j) (by omega) (by omega) (by omega) (by omega)
  have s1 := sarn v (j := k + 1) (by omega) (by omega)
  have s2 := sarn v (j := k + 1 + j) (by omega) (by omega)
  rw [zero_t.mp hv] at s1
  have n1 := nat_of (n := k + 1) (Int32.le_iff_toInt_le.mpr (by rw [z_0]; omega))
  have n2 := nat_of (n := k + 1 + j) (Int32.le_iff_toInt_le.mpr (by rw [z_0]; omega))
  have p1 : (0 : Int) < 2 ^ (k + 1).toNatClampNeg := Int.pow_pos (by decide)
  have l1 : v.toInt < 2 ^ (k + 1).toNatClampNeg := by
    by_cases c : v.toInt < 2 ^ (k + 1).toNatClampNeg
    · exact c
    · have := (Int.le_ediv_iff_mul_le (c := 2 ^ (k + 1).toNatClampNeg) (a := 1) (b := v.toInt) p1).mpr (by omega)
      omega
  have l2 : (2 : Int) ^ (k + 1).toNatClampNeg ≤ 2 ^ (k + 1 + j).toNatClampNeg := by
    have q : (2 : Nat) ^ (k + 1).toNatClampNeg ≤ 2 ^ (k + 1 + j).toNatClampNeg := Nat.pow_le_pow_right (by decide) (by omega)
    have q2 : ((2 ^ (k + 1).toNatClampNeg : Nat) : Int) ≤ ((2 ^ (k + 1 + j).toNatClampNeg : Nat) : Int) := Int.ofNat_le.mpr q
    rw [Int.natCast_pow, Int.natCast_pow] at q2
    exact q2
  have z : v >>> ((k + 1 + j) &&& 31) = 0 := i_zero (by rw [s2]; exact Int.ediv_eq_zero_of_lt v0 (by omega))
  rw [z]
  rfl
theorem at_1 {v k : Int32} (k0 : 0 ≤ k.toInt) (k1 : k.toInt ≤ 6) (hv : v >>> ((k + 1) &&& 31) = 0) (hk : pw k ≤ v) : (v >>> (k &&& 31)) &&& (1 : Int32) = 1 := by
  have e1 := inc_i (k := k) (by omega) (by omega)
  have s1 := sarn v (j := k + 1) (by omega) (by omega)
  have s0 := sarn v (j := k) (by omega) (by omega)
  rw [zero_t.mp hv] at s1
  have n0 := nat_of (n := k) (Int32.le_iff_toInt_le.mpr (by rw [z_0]; omega))
  have n1 := nat_of (n := k + 1) (Int32.le_iff_toInt_le.mpr (by rw [z_0]; omega))
  have en : (k + 1).toNatClampNeg = k.toNatClampNeg + 1 := by omega
  have ek : k = Int32.ofNat k.toNatClampNeg := (ofn n0).symm
  have pe := pw_e k.toNatClampNeg (by omega)
  rw [← ek] at pe
  have hk2 := t_le hk
  rw [pe] at hk2
  rw [en, Int.pow_succ] at s1
  have p : (0 : Int) < 2 ^ k.toNatClampNeg := Int.pow_pos (by decide)
  generalize (2 : Int) ^ k.toNatClampNeg = P at *
  have o : (v >>> (k &&& 31)) = 1 := by
    apply i_one
    rw [s0]
    have a : 1 ≤ v.toInt / P := (Int.le_ediv_iff_mul_le p).mpr (by omega)
    have b : v.toInt / P < 2 := (Int.ediv_lt_iff_lt_mul p).mpr (by
      by_cases c : v.toInt < 2 * P
      · exact c
      · have := (Int.le_ediv_iff_mul_le (c := P * 2) (a := 1) (b := v.toInt) (by omega)).mpr (by omega)
        omega)
    omega
  rw [o]
  rfl
/-- tellNumber and number, keeping -/
theorem number2 {p c tc c9 c8 : Int32} {b o o8 : Nat → Int32} {c1 tc1 : Int32} {b1 : Nat → Int32} (hT : TK c tc b c9 o) (p0 : 0 ≤ p.toInt) (p1 : p.toInt ≤ 126) (ha : f_BitWriter_tellNumber 1 c tc b p = some (c1, tc1, b1)) (hb : f_Mo_number c9 1 o p = some (c8, o8)) : TK c1 tc1 b1 c8 o8 := by
  unfold f_BitWriter_tellNumber at ha
  unfold f_Mo_number at hb
  have v1 := inc_i (k := p) (by omega) (by omega)
  refine lp_two (fun (s t : Int32) => s = t ∧ 0 ≤ s.toInt ∧ s.toInt ≤ 6 ∧ pw s ≤ p + 1) (fun (a : Int32 × Int32 × (Nat → Int32)) (d : Int32 × (Nat → Int32)) => TK a.1 a.2.1 a.2.2 d.1 d.2) ?_ _ _ _ _ ?_ _ _ ha hb
  · intro f g hfg k t hI a d ha hb
    obtain ⟨e, k0, k1, hk⟩ := hI
    subst e
    unfold f_BitWriter_tellNumber_L2 at ha
    unfold f_Mo_number_L2 at hb
    have k12 : ¬ (12 : Int32) ≤ k := fun q => by
      have := t_le q
      have z12 : (12 : Int32).toInt = 12 := rfl
      omega
    rw [if_neg k12] at ha
    have ki := inc_i (k := k) (by omega) (by omega)
    have sn := sarn (p + 1) (j := k + 1) (by omega) (by omega)
    have pos : 0 ≤ ((p + 1) >>> ((k + 1) &&& 31)).toInt := by
      rw [sn]
      exact Int.ediv_nonneg (by omega) (Int.le_of_lt (Int.pow_pos (by decide)))
    by_cases z : (p + 1) >>> ((k + 1) &&& 31) = 0
    · rw [if_pos z] at ha
      rw [if_pos (by rw [z]; exact Int32.le_refl _)] at hb
      obtain ⟨x, hx, ha⟩ := bd_e ha
      obtain ⟨y1, hy1, hb⟩ := bd_e hb
      obtain ⟨y2, hy2, hb⟩ := bd_e hb
      obtain ⟨y3, hy3, hb⟩ := bd_e hb
      obtain ⟨x1, x2, x3⟩ := x
      obtain ⟨u1, u2⟩ := y1
      obtain ⟨u3, u4⟩ := y2
      obtain ⟨u5, u6⟩ := y3
      have ha := Option.some.inj ha
      have hb := Option.some.inj hb
      subst ha
      subst hb
      dsimp only at hy1 hy2 hy3 ⊢
      -- the class's row of 2 k + 1 bits, cut in three
      unfold f_BitWriter_tellBits at hx
      rw [if_neg (by decide)] at hx
      have t2 : ((2 : Int32) * k + 1 - 1) = k + 1 + (k - 1) := by
        have e1 : (2 : Int32) * k = k + k := by rw [show (2 : Int32) = 1 + 1 from rfl, Int32.add_mul, Int32.one_mul]
        rw [e1, Int32.add_sub_cancel, Int32.add_assoc, Int32.add_comm 1 (k - 1), Int32.sub_add_cancel]
      have hx : lp (f_BitWriter_tellBits_L22 (p + 1)) FU ((2 : Int32) * k + 1 - 1, c, tc, b) = some (x1, x2, x3) := hx
      rw [t2] at hx
      unfold f_Mo_low at hy1 hy3
      have hy1 : lp (f_Mo_low_L4 1 0) FU (k - 1, c9, o) = some (u1, u2) := hy1
      have hy3 : lp (f_Mo_low_L4 1 (p + 1)) FU (k - 1, u3, u4) = some (u5, u6) := hy3
      have km : (k - 1).toInt = k.toInt - 1 := by rw [yb (a := k) (b := 1) (by rw [z_1]; omega) (by rw [z_1]; omega), z_1]
      obtain ⟨m1, d1, d2, d3, hf1, hT1⟩ := seg (v := p + 1) (w := 0) (s := k + 1) (by omega) (by omega) FU (k - 1) c9 o u1 u2 hy1 (by omega) (by omega) (fun j j0 j1 => by
        rw [hi_0 (by omega) k0 k1 j0 (by omega) z]
        have s2 := sarn 0 (j := j) j0 (by omega)
        have e0 : (0 : Int32) >>> (j &&& 31) = 0 := i_zero (by rw [s2, z_0]; exact Int.zero_ediv _)
        rw [e0]; rfl) FU _ c tc b _ hT rfl hx
      have e5 : k + 1 + (-1) = k := by
        apply Int32.toInt_inj.mp
        rw [dec_i (by omega)]
        omega
      rw [e5] at hf1
      cases m1 with
      | zero => exact absurd hf1 (by simp [lp])
      | succ m1 =>
        have hf1 : f_BitWriter_tellBits_L22 (p + 1) (lp (f_BitWriter_tellBits_L22 (p + 1)) m1) (k, d1, d2, d3) = some (x1, x2, x3) := hf1
        obtain ⟨g1, g2, g3, hf2, hT2⟩ := bit1 hT1 (fun q => by have := ltz.mp q; omega) (at_1 k0 k1 z hk) hf1 hy2
        have e6 : k + (-1) = 0 + (k - 1) := by
          apply Int32.toInt_inj.mp
          rw [dec_i (by omega), Int32.zero_add, km]
        obtain ⟨m2, l1, l2, l3, hf3, hT3⟩ := seg (v := p + 1) (w := p + 1) (s := 0) (by decide) (by decide) FU (k - 1) u3 u4 u5 u6 hy3 (by omega) (by omega) (fun j _ _ => by rw [Int32.zero_add]) m1 _ g1 g2 g3 _ hT2 e6 hf2
        cases m2 with
        | zero => exact absurd hf3 (by simp [lp])
        | succ m2 =>
          have hf3 : f_BitWriter_tellBits_L22 (p + 1) (lp (f_BitWriter_tellBits_L22 (p + 1)) m2) (0 + (-1), l1, l2, l3) = some (x1, x2, x3) := hf3
          unfold f_BitWriter_tellBits_L22 at hf3
          dsimp only at hf3
          rw [if_pos (by decide)] at hf3
          obtain ⟨q1, q2⟩ := Prod.mk.inj (Option.some.inj hf3)
          obtain ⟨q3, q4⟩ := Prod.mk.inj q2
          subst q1
          subst q3
          subst q4
          exact hT3
    · rw [if_neg z] at ha
      have nz9 : ¬ (p + 1) >>> ((k + 1) &&& 31) ≤ 0 := fun q => z (i_zero (by have := t_le q; rw [z_0] at this; omega))
      rw [if_neg nz9] at hb
      have sp := sarp (x := p + 1) (j := k + 1) (Int32.le_iff_toInt_le.mpr (by rw [z_0]; omega)) (Int32.le_iff_toInt_le.mpr (by show (k + 1).toInt ≤ 13; omega)) nz9
      have l6 := pw_le6 (k + 1) (Int32.le_iff_toInt_le.mpr (by rw [z_0]; omega)) (Int32.le_iff_toInt_le.mpr (by show (k + 1).toInt ≤ 13; omega)) (Int32.le_trans sp (Int32.le_iff_toInt_le.mpr (by show (p + 1).toInt ≤ 127; omega)))
      have z6 : (6 : Int32).toInt = 6 := rfl
      have l7 := t_le l6
      exact hfg _ _ ⟨rfl, by omega, by omega, sp⟩ a d ha hb
  · refine ⟨rfl, by decide, by decide, ?_⟩
    have e : pw 0 = 1 := rfl
    rw [e]
    exact Int32.le_iff_toInt_le.mpr (by rw [z_1]; omega)
theorem low0 {w : Int32} : ∀ (N : Nat) (k c : Int32) (o : Nat → Int32) (c8 : Int32) (o8 : Nat → Int32), lp (f_Mo_low_L4 0 w) N (k, c, o) = some (c8, o8) → -1 ≤ k.toInt → k.toInt ≤ 40 → c8 = c + (k + 1) ∧ o8 = o := by
  intro N
  induction N with
  | zero => intro k c o c8 o8 h; exact absurd h (by simp [lp])
  | succ N ih =>
    intro k c o c8 o8 h k0 k1
    have h : f_Mo_low_L4 0 w (lp (f_Mo_low_L4 0 w) N) (k, c, o) = some (c8, o8) := h
    unfold f_Mo_low_L4 at h
    dsimp only at h
    by_cases q : k < 0
    · rw [if_pos q] at h
      obtain ⟨e1, e2⟩ := Prod.mk.inj (Option.some.inj h)
      have e : k = -1 := Int32.toInt_inj.mp (by have := ltz.mp q; show k.toInt = -1; omega)
      subst e
      subst e1
      subst e2
      exact ⟨by grind, rfl⟩
    · rw [if_neg q] at h
      obtain ⟨x, hx, h⟩ := bd_e h
      obtain ⟨c7, o7⟩ := x
      have h : lp (f_Mo_low_L4 0 w) N (k + (-1), c7, o7) = some (c8, o8) := h
      unfold f_Mo_bit at hx
      rw [if_pos rfl] at hx
      have hx : some (c + 1, o) = some (c7, o7) := hx
      obtain ⟨e1, e2⟩ := Prod.mk.inj (Option.some.inj hx)
      subst e1
      subst e2
      have kd := dec_i (k := k) (by omega)
      have kp : ¬ k.toInt < 0 := fun z => q (ltz.mpr z)
      obtain ⟨f1, f2⟩ := ih _ _ _ _ _ h (by omega) (by omega)
      exact ⟨by rw [f1]; grind, f2⟩
theorem low0n {w n c c8 : Int32} {o o8 : Nat → Int32} (n0 : 0 ≤ n.toInt) (n1 : n.toInt ≤ 31) (h : f_Mo_low c 0 o w n = some (c8, o8)) : c8 = c + n ∧ o8 = o := by
  unfold f_Mo_low at h
  have h : lp (f_Mo_low_L4 0 w) FU (n - 1, c, o) = some (c8, o8) := h
  have e : (n - 1).toInt = n.toInt - 1 := by rw [yb (a := n) (b := 1) (by rw [z_1]; omega) (by rw [z_1]; omega), z_1]
  obtain ⟨f1, f2⟩ := low0 FU (n - 1) c o c8 o8 h (by omega) (by omega)
  exact ⟨by rw [f1]; grind, f2⟩
theorem bits0 {v n c tc c1 tc1 : Int32} {b b1 : Nat → Int32} (h : f_BitWriter_tellBits 0 c tc b v n = some (c1, tc1, b1)) : c1 = c + n ∧ tc1 = tc ∧ b1 = b := by
  unfold f_BitWriter_tellBits at h
  rw [if_pos rfl] at h
  have h : some (c + n, tc, b) = some (c1, tc1, b1) := h
  obtain ⟨e1, e2⟩ := Prod.mk.inj (Option.some.inj h)
  obtain ⟨e3, e4⟩ := Prod.mk.inj e2
  exact ⟨e1.symm, e3.symm, e4.symm⟩
/-- tellNumber and number, not keeping -/
theorem number0 {p c tc c8 : Int32} {b o o8 : Nat → Int32} {c1 tc1 : Int32} {b1 : Nat → Int32} (p0 : 0 ≤ p.toInt) (p1 : p.toInt ≤ 126) (ha : f_BitWriter_tellNumber 0 c tc b p = some (c1, tc1, b1)) (hb : f_Mo_number c 0 o p = some (c8, o8)) : c1 = c8 ∧ tc1 = tc ∧ b1 = b ∧ o8 = o := by
  unfold f_BitWriter_tellNumber at ha
  unfold f_Mo_number at hb
  have v1 := inc_i (k := p) (by omega) (by omega)
  refine lp_two (fun (s t : Int32) => s = t ∧ 0 ≤ s.toInt ∧ s.toInt ≤ 6 ∧ pw s ≤ p + 1) (fun (a : Int32 × Int32 × (Nat → Int32)) (d : Int32 × (Nat → Int32)) => a.1 = d.1 ∧ a.2.1 = tc ∧ a.2.2 = b ∧ d.2 = o) ?_ _ _ _ _ ?_ _ _ ha hb
  · intro f g hfg k t hI a d ha hb
    obtain ⟨e, k0, k1, hk⟩ := hI
    subst e
    unfold f_BitWriter_tellNumber_L2 at ha
    unfold f_Mo_number_L2 at hb
    have k12 : ¬ (12 : Int32) ≤ k := fun q => by
      have := t_le q
      have z12 : (12 : Int32).toInt = 12 := rfl
      omega
    rw [if_neg k12] at ha
    have ki := inc_i (k := k) (by omega) (by omega)
    have sn := sarn (p + 1) (j := k + 1) (by omega) (by omega)
    have pos : 0 ≤ ((p + 1) >>> ((k + 1) &&& 31)).toInt := by
      rw [sn]
      exact Int.ediv_nonneg (by omega) (Int.le_of_lt (Int.pow_pos (by decide)))
    by_cases z : (p + 1) >>> ((k + 1) &&& 31) = 0
    · rw [if_pos z] at ha
      rw [if_pos (by rw [z]; exact Int32.le_refl _)] at hb
      obtain ⟨x, hx, ha⟩ := bd_e ha
      obtain ⟨y1, hy1, hb⟩ := bd_e hb
      obtain ⟨y2, hy2, hb⟩ := bd_e hb
      obtain ⟨y3, hy3, hb⟩ := bd_e hb
      obtain ⟨x1, x2, x3⟩ := x
      obtain ⟨u1, u2⟩ := y1
      obtain ⟨u3, u4⟩ := y2
      obtain ⟨u5, u6⟩ := y3
      have ha := Option.some.inj ha
      have hb := Option.some.inj hb
      subst ha
      subst hb
      dsimp only at hy1 hy2 hy3 ⊢
      obtain ⟨s1, s2, s3⟩ := bits0 hx
      obtain ⟨r1, r2⟩ := low0n k0 (by omega) hy1
      obtain ⟨r5, r6⟩ := low0n k0 (by omega) hy3
      unfold f_Mo_bit at hy2
      rw [if_pos rfl] at hy2
      have hy2 : some (u1 + 1, u2) = some (u3, u4) := hy2
      obtain ⟨r3, r4⟩ := Prod.mk.inj (Option.some.inj hy2)
      refine ⟨?_, s2, s3, ?_⟩
      · rw [s1, r5, ← r3, r1]
        grind
      · rw [r6, ← r4, r2]
    · rw [if_neg z] at ha
      have nz9 : ¬ (p + 1) >>> ((k + 1) &&& 31) ≤ 0 := fun q => z (i_zero (by have := t_le q; rw [z_0] at this; omega))
      rw [if_neg nz9] at hb
      have sp := sarp (x := p + 1) (j := k + 1) (Int32.le_iff_toInt_le.mpr (by rw [z_0]; omega)) (Int32.le_iff_toInt_le.mpr (by show (k + 1).toInt ≤ 13; omega)) nz9
      have l6 := pw_le6 (k + 1) (Int32.le_iff_toInt_le.mpr (by rw [z_0]; omega)) (Int32.le_iff_toInt_le.mpr (by show (k + 1).toInt ≤ 13; omega)) (Int32.le_trans sp (Int32.le_iff_toInt_le.mpr (by show (p + 1).toInt ≤ 127; omega)))
      have z6 : (6 : Int32).toInt = 6 := rfl
      have l7 := t_le l6
      exact hfg _ _ ⟨rfl, by omega, by omega, sp⟩ a d ha hb
  · refine ⟨rfl, by decide, by decide, ?_⟩
    have e : pw 0 = 1 := rfl
    rw [e]
    exact Int32.le_iff_toInt_le.mpr (by rw [z_1]; omega)
/-- the two writers: keeping, or only counting (T0, B0, O0: what was told before) -/
def TL (kp T0 : Int32) (B0 O0 : Nat → Int32) (c tc : Int32) (b : Nat → Int32) (c9 : Int32) (o : Nat → Int32) : Prop := (kp = 1 ∧ TK c tc b c9 o) ∨ (kp = 0 ∧ c = c9 ∧ tc = T0 ∧ b = B0 ∧ o = O0)
theorem bits_TL {kp T0 v n c tc c9 c8 : Int32} {B0 O0 b o o8 : Nat → Int32} {c1 tc1 : Int32} {b1 : Nat → Int32} (hT : TL kp T0 B0 O0 c tc b c9 o) (n0 : 0 ≤ n.toInt) (n1 : n.toInt ≤ 31) (ha : f_BitWriter_tellBits kp c tc b v n = some (c1, tc1, b1)) (hb : f_Mo_low c9 kp o v n = some (c8, o8)) : TL kp T0 B0 O0 c1 tc1 b1 c8 o8 := by
  rcases hT with ⟨e, hT⟩ | ⟨e, h1, h2, h3, h4⟩
  · subst e
    exact Or.inl ⟨rfl, bits2 hT n0 n1 ha hb⟩
  · subst e
    obtain ⟨a1, a2, a3⟩ := bits0 ha
    obtain ⟨b1, b2⟩ := low0n n0 n1 hb
    exact Or.inr ⟨rfl, by rw [a1, b1, h1], by rw [a2, h2], by rw [a3, h3], by rw [b2, h4]⟩
theorem number_TL {kp T0 p c tc c9 c8 : Int32} {B0 O0 b o o8 : Nat → Int32} {c1 tc1 : Int32} {b1 : Nat → Int32} (hT : TL kp T0 B0 O0 c tc b c9 o) (p0 : 0 ≤ p.toInt) (p1 : p.toInt ≤ 126) (ha : f_BitWriter_tellNumber kp c tc b p = some (c1, tc1, b1)) (hb : f_Mo_number c9 kp o p = some (c8, o8)) : TL kp T0 B0 O0 c1 tc1 b1 c8 o8 := by
  rcases hT with ⟨e, hT⟩ | ⟨e, h1, h2, h3, h4⟩
  · subst e
    exact Or.inl ⟨rfl, number2 hT p0 p1 ha hb⟩
  · subst e
    subst h1
    obtain ⟨a1, a2, a3, a4⟩ := number0 p0 p1 ha hb
    exact Or.inr ⟨rfl, a1, by rw [a2, h2], by rw [a3, h3], by rw [a4, h4]⟩
