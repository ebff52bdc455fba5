/-! DRAFT: the runs of differing samples, told -/
theorem lp_one {σ ρ : Type} {F : (σ → Option ρ) → σ → Option ρ} (I : σ → Prop) (Q : ρ → Prop)
    (h : ∀ (f : σ → Option ρ), (∀ s, I s → ∀ a, f s = some a → Q a) → ∀ s, I s → ∀ a, F f s = some a → Q a) :
    ∀ (n : Nat) (s : σ), I s → ∀ a, lp F n s = some a → Q a := by
  intro n
  induction n with
  | zero => intro s _ a ha; exact absurd ha (by simp [lp])
  | succ n ih => intro s hI a ha; exact h (lp F n) ih s hI a ha
theorem bc_k : ∀ k : Nat, k < 64 → f_Long_bitCount (((1 : Int64) <<< ((Int32.ofNat k).toInt64 &&& 63)) - (1 : Int64)) = some (Int32.ofNat k) := by decide +kernel
theorem zb_0 : f_Teller_zerosBelowLowestOne 0 = some 64 := by decide +kernel
theorem zb_at {x : Int64} {n : Nat} (hn : n < 64) (h0 : ∀ j : Nat, j < n → x.toBitVec.getLsbD j = false) (h1 : x.toBitVec.getLsbD n = true) : f_Teller_zerosBelowLowestOne x = some (Int32.ofNat n) := by
  have e : x &&& (-x) = (1 : Int64) <<< ((Int32.ofNat n).toInt64 &&& 63) := by
    apply Int64.toBitVec_inj.mp
    rw [one_sh n hn, Int64.toBitVec_and, Int64.toBitVec_neg]
    apply BitVec.eq_of_getLsbD_eq
    intro i hi
    rw [BitVec.getLsbD_and, BitVec.getLsbD_neg, BitVec.getLsbD_twoPow]
    rcases Nat.lt_trichotomy i n with c | c | c
    · rw [h0 i c, Bool.false_and]
      have : ¬ n = i := by omega
      simp [this]
    · subst c
      have q : ¬ ∃ j, j < i ∧ x.toBitVec.getLsbD j = true := by
        rintro ⟨j, hj, hb⟩
        rw [h0 j hj] at hb
        exact absurd hb (by decide)
      rw [h1, decide_eq_false q]
      simp [hn]
    · have q : ∃ j, j < i ∧ x.toBitVec.getLsbD j = true := ⟨n, c, h1⟩
      rw [decide_eq_true q, decide_eq_true hi]
      have : ¬ n = i := by omega
      simp [this]
  unfold f_Teller_zerosBelowLowestOne
  rw [e, bc_k n hn]
  rfl
theorem zb_ge {y : Int64} : ∀ (k m : Nat), m + k = 64 → (∀ j : Nat, j < m → y.toBitVec.getLsbD j = false) → ∃ n : Nat, m ≤ n ∧ n ≤ 64 ∧ f_Teller_zerosBelowLowestOne y = some (Int32.ofNat n) := by
  intro k
  induction k with
  | zero =>
    intro m hm h
    have e : y = 0 := by
      apply Int64.toBitVec_inj.mp
      apply BitVec.eq_of_getLsbD_eq
      intro j hj
      show _ = (0 : Int64).toBitVec.getLsbD j
      rw [bit_z, h j (by omega)]
    refine ⟨64, by omega, by omega, ?_⟩
    rw [e, zb_0]
    rfl
  | succ k ih =>
    intro m hm h
    by_cases c : y.toBitVec.getLsbD m = true
    · exact ⟨m, by omega, by omega, zb_at (by omega) h c⟩
    · obtain ⟨n, a1, a2, a3⟩ := ih (m + 1) (by omega) (fun j hj => by
        by_cases d : j = m
        · subst d; exact Bool.eq_false_iff.mpr c
        · exact h j (by omega))
      exact ⟨n, by omega, a2, a3⟩
theorem ush_k : ∀ k : Nat, k < 64 → ((((Int32.ofNat k).toInt64).toUInt64 &&& Int64.toUInt64 63) % 64).toBitVec.toNat = k := by decide +kernel
theorem ush_b {t : Int32} {k : Nat} (h : t.toInt = (k : Int)) (hk : k < 64) (x : Int64) : (((x).toUInt64 >>> (((t).toInt64).toUInt64 &&& Int64.toUInt64 63)).toInt64).toBitVec = x.toBitVec >>> k := by
  have e : t = Int32.ofNat k := (ofn h.symm).symm
  rw [e]
  show x.toBitVec >>> ((((Int32.ofNat k).toInt64).toUInt64 &&& Int64.toUInt64 63) % 64).toBitVec.toNat = x.toBitVec >>> k
  rw [ush_k k hk]
theorem ssh_k : ∀ k : Nat, k < 64 → (((Int32.ofNat k).toInt64 &&& 63).toBitVec.smod 64).toNat = k := by decide +kernel
/-- a bit of a long, as the reference takes it -/
theorem sbit {d : Int64} {n : Int32} {k : Nat} (h : n.toInt = (k : Int)) (hk : k < 64) : lg_cmp ((d >>> (n.toInt64 &&& 63)) &&& (1 : Int64)) (1 : Int64) = 0 ↔ d.toBitVec.getLsbD k = true := by
  have e : n = Int32.ofNat k := (ofn h.symm).symm
  rw [cmp_0, e, ← Int64.toBitVec_inj]
  have q : ((d >>> ((Int32.ofNat k).toInt64 &&& 63)) &&& (1 : Int64)).toBitVec = d.toBitVec.sshiftRight k &&& 1#64 := by
    show d.toBitVec.sshiftRight (((Int32.ofNat k).toInt64 &&& 63).toBitVec.smod 64).toNat &&& 1#64 = _
    rw [ssh_k k hk]
  rw [q]
  have g0 : (d.toBitVec.sshiftRight k).getLsbD 0 = d.toBitVec.getLsbD k := by
    rw [BitVec.getLsbD_sshiftRight]
    simp [hk]
  constructor
  · intro r
    have t := congrArg (fun z => z.getLsbD 0) r
    simp only [BitVec.getLsbD_and] at t
    rw [g0] at t
    have u : (1#64).getLsbD 0 = true := by decide
    have u2 : (1 : Int64).toBitVec.getLsbD 0 = true := by decide
    rw [u, u2, Bool.and_true] at t
    exact t
  · intro r
    apply BitVec.eq_of_getLsbD_eq
    intro i hi
    rw [BitVec.getLsbD_and]
    show _ = (1#64).getLsbD i
    by_cases c : i = 0
    · subst c
      rw [g0, r, Bool.true_and]
    · have u : (1#64).getLsbD i = false := by
        rw [BitVec.getLsbD_one]
        simp [c]
      rw [u, Bool.and_false]
theorem bit_not (x : Int64) {j : Nat} (hj : j < 64) : (x ^^^ (-1)).toBitVec.getLsbD j = !x.toBitVec.getLsbD j := by
  have ha : (-1 : Int64).toBitVec = BitVec.allOnes 64 := by decide
  rw [Int64.toBitVec_xor, ha, BitVec.getLsbD_xor, BitVec.getLsbD_allOnes]
  simp [hj]
theorem not_not64 (x : Int64) : (x ^^^ (-1)) ^^^ (-1) = x := by
  apply Int64.toBitVec_inj.mp
  apply BitVec.eq_of_getLsbD_eq
  intro j hj
  rw [bit_not _ hj, bit_not _ hj, Bool.not_not]
/-- one bit -/
theorem low_1 {c kp v : Int32} {o : Nat → Int32} (hv : v = 0 ∨ v = 1) : f_Mo_low c kp o v 1 = f_Mo_bit c kp o v := by
  have e : (v >>> ((0 : Int32) &&& 31)) &&& (1 : Int32) = v := by
    rcases hv with q | q <;> subst q <;> decide
  have s : ∀ (c : Int32) (o : Nat → Int32), lp (f_Mo_low_L4 kp v) 99999 (0 + (-1), c, o) = some (c, o) := by
    intro c o
    have f : lp (f_Mo_low_L4 kp v) 99999 (0 + (-1), c, o) = f_Mo_low_L4 kp v (lp (f_Mo_low_L4 kp v) 99998) (0 + (-1), c, o) := rfl
    rw [f]
    generalize lp (f_Mo_low_L4 kp v) 99998 = g
    unfold f_Mo_low_L4
    dsimp only
    rw [if_pos (by decide)]
  have f : f_Mo_low c kp o v 1 = f_Mo_low_L4 kp v (lp (f_Mo_low_L4 kp v) 99999) (0, c, o) := rfl
  rw [f]
  generalize lp (f_Mo_low_L4 kp v) 99999 = g at s ⊢
  unfold f_Mo_low_L4
  dsimp only
  rw [if_neg (by decide), e]
  unfold bd
  cases f_Mo_bit c kp o v with
  | none => rfl
  | some x =>
    obtain ⟨x1, x2⟩ := x
    exact s x1 x2
theorem bit_TL {kp T0 v c tc c9 c8 : Int32} {B0 O0 b o o8 : Nat → Int32} {c1 tc1 : Int32} {b1 : Nat → Int32} (hT : TL kp T0 B0 O0 c tc b c9 o) (hv : v = 0 ∨ v = 1) (ha : f_BitWriter_tellBits kp c tc b v 1 = some (c1, tc1, b1)) (hb : f_Mo_bit c9 kp o v = some (c8, o8)) : TL kp T0 B0 O0 c1 tc1 b1 c8 o8 :=
  bits_TL hT (by decide) (by decide) ha (by rw [low_1 hv]; exact hb)
/-- the class's telling of runs, from the sample behind the last run told -/
def RN (kp T0 : Int32) (B0 O0 : Nat → Int32) (d : Int64) (p1 : Int32) (Rs : Int32 × Int32 × (Nat → Int32)) (j n : Int) (looks c9 : Int32) (o : Nat → Int32) : Prop :=
  ∃ (m : Nat) (turn t : Int32) (rest : Int64) (c tc : Int32) (b : Nat → Int32), lp (f_Teller_tellDiffers_L38 p1 kp) m (turn, t, rest, c, tc, b) = some Rs ∧ TL kp T0 B0 O0 c tc b c9 o ∧ 0 ≤ turn.toInt ∧ turn.toInt ≤ t.toInt + 1 ∧ ((j = 0 ∧ turn.toInt = 0) ∨ 1 ≤ n) ∧ 0 ≤ n ∧ t.toInt + n = j ∧ 0 ≤ t.toInt ∧ ((looks = 0 ∧ rest = d) ∨ (looks = 1 ∧ rest = d ^^^ (-1))) ∧ ∀ i : Nat, t.toInt ≤ (i : Int) → (i : Int) < j → rest.toBitVec.getLsbD i = false
theorem rn_bit {looks : Int32} {rest d : Int64} {j : Nat} (hj : j < 64) (h : (looks = 0 ∧ rest = d) ∨ (looks = 1 ∧ rest = d ^^^ (-1))) : rest.toBitVec.getLsbD j = (d.toBitVec.getLsbD j != decide (looks = 1)) := by
  rcases h with ⟨e1, e2⟩ | ⟨e1, e2⟩
  · subst e1 e2
    have : ¬ (0 : Int32) = 1 := by decide
    simp [this]
  · subst e1 e2
    rw [bit_not _ hj]
    simp
theorem rn_same {kp T0 : Int32} {B0 O0 : Nat → Int32} {d : Int64} {p1 : Int32} {Rs : Int32 × Int32 × (Nat → Int32)} {j n : Int} {looks c9 : Int32} {o : Nat → Int32} {q : Nat} (h : RN kp T0 B0 O0 d p1 Rs j n looks c9 o) (eq : (q : Int) = j) (hq : q < 64) (hs : d.toBitVec.getLsbD q = decide (looks = 1)) : RN kp T0 B0 O0 d p1 Rs (j + 1) (n + 1) looks c9 o := by
  obtain ⟨m, turn, t, rest, c, tc, b, h1, h2, h3, h4, h5, h6, h7, h8, h9, h10⟩ := h
  refine ⟨m, turn, t, rest, c, tc, b, h1, h2, h3, h4, Or.inr (by omega), by omega, by omega, h8, h9, fun i a1 a2 => ?_⟩
  by_cases e : (i : Int) = j
  · have e2 : i = q := by omega
    subst e2
    rw [rn_bit hq h9, hs]
    simp
  · exact h10 i a1 (by omega)
set_option maxHeartbeats 1000000 in
theorem rn_turn {kp T0 : Int32} {B0 O0 : Nat → Int32} {d : Int64} {p1 : Int32} {Rs : Int32 × Int32 × (Nat → Int32)} {j n : Int} {looks c9 l2 n9 c8 : Int32} {o o8 : Nat → Int32} {q : Nat} (h : RN kp T0 B0 O0 d p1 Rs j n looks c9 o) (eq : (q : Int) = j) (hq : j < p1.toInt) (hp : p1.toInt ≤ 64) (en : n9.toInt = n) (hs : ¬ d.toBitVec.getLsbD q = decide (looks = 1)) (hl : (looks = 0 ∧ l2 = 1) ∨ (looks = 1 ∧ l2 = 0)) (hb : f_Mo_number c9 kp o n9 = some (c8, o8)) : RN kp T0 B0 O0 d p1 Rs (j + 1) 1 l2 c8 o8 := by
  obtain ⟨m, turn, t, rest, c, tc, b, h1, h2, h3, h4, h5, h6, h7, h8, h9, h10⟩ := h
  cases m with
  | zero => exact absurd h1 (by simp [lp])
  | succ m =>
    obtain ⟨gx, egx, h1⟩ := lp_x h1
    unfold f_Teller_tellDiffers_L38 at h1
    dsimp only at h1
    rw [if_neg (fun z => by have := t_lt z; omega), if_neg (fun z => by have := t_le z; omega)] at h1
    have tn := nat_of (n := t) (Int32.le_iff_toInt_le.mpr (by rw [z_0]; exact h8))
    have eb := ush_b (t := t) (k := t.toNatClampNeg) tn.symm (by omega) rest
    have hz : f_Teller_zerosBelowLowestOne (((rest).toUInt64 >>> (((t).toInt64).toUInt64 &&& Int64.toUInt64 63)).toInt64) = some (Int32.ofNat (q - t.toNatClampNeg)) := by
      apply zb_at (by omega)
      · intro i hi
        rw [eb, BitVec.getLsbD_ushiftRight]
        exact h10 _ (by omega) (by omega)
      · rw [eb, BitVec.getLsbD_ushiftRight]
        have e : t.toNatClampNeg + (q - t.toNatClampNeg) = q := by omega
        rw [e, rn_bit (by omega) h9]
        revert hs
        generalize d.toBitVec.getLsbD q = u
        generalize decide (looks = 1) = w
        cases u <;> cases w <;> simp
    have e9 : Int32.ofNat (q - t.toNatClampNeg) = n9 := ofn (by omega)
    rw [hz, e9] at h1
    obtain ⟨x, hx, h1⟩ := bd_e h1
    have hx := Option.some.inj hx
    subst hx
    have sb : (p1 - t).toInt = p1.toInt - t.toInt := yb (by omega) (by omega)
    simp only [nl] at h1
    rw [if_neg (fun z => by have := t_lt z; omega)] at h1
    obtain ⟨y, hy, h1⟩ := bd_e h1
    obtain ⟨y1, y2, y3⟩ := y
    have hT := number_TL h2 (by omega) (by omega) hy hb
    have ti := inc_i (k := turn) (by omega) (by omega)
    dsimp only at h1
    rw [egx] at h1
    have ts : (t + n9).toInt = t.toInt + n9.toInt := ya (by omega) (by omega)
    refine ⟨m, turn + 1, t + n9, rest ^^^ (-1), y1, y2, y3, h1, hT, by omega, by omega, Or.inr (by omega), by omega, by omega, by omega, ?_, fun i a1 a2 => ?_⟩
    · rcases hl with ⟨e1, e2⟩ | ⟨e1, e2⟩
      · right
        refine ⟨e2, ?_⟩
        rcases h9 with ⟨f1, f2⟩ | ⟨f1, f2⟩
        · rw [f2]
        · rw [e1] at f1; exact absurd f1 (by decide)
      · left
        refine ⟨e2, ?_⟩
        rcases h9 with ⟨f1, f2⟩ | ⟨f1, f2⟩
        · rw [e1] at f1; exact absurd f1 (by decide)
        · rw [f2, not_not64]
    · have e2 : i = q := by omega
      subst e2
      rw [bit_not _ (by omega), rn_bit (by omega) h9]
      revert hs
      generalize d.toBitVec.getLsbD i = u
      generalize decide (looks = 1) = w
      cases u <;> cases w <;> simp
set_option maxHeartbeats 1000000 in
theorem rn_end {kp T0 : Int32} {B0 O0 : Nat → Int32} {d : Int64} {p1 : Int32} {Rs : Int32 × Int32 × (Nat → Int32)} {j n : Int} {looks c9 n9 c8 : Int32} {o o8 : Nat → Int32} (h : RN kp T0 B0 O0 d p1 Rs j n looks c9 o) (hq : j = p1.toInt) (hp : p1.toInt ≤ 64) (hp0 : 1 ≤ p1.toInt) (en : n9.toInt = n) (hb : f_Mo_number c9 kp o n9 = some (c8, o8)) : TL kp T0 B0 O0 Rs.1 Rs.2.1 Rs.2.2 c8 o8 := by
  obtain ⟨m, turn, t, rest, c, tc, b, h1, h2, h3, h4, h5, h6, h7, h8, h9, h10⟩ := h
  cases m with
  | zero => exact absurd h1 (by simp [lp])
  | succ m =>
    obtain ⟨gx, egx, h1⟩ := lp_x h1
    unfold f_Teller_tellDiffers_L38 at h1
    dsimp only at h1
    rw [if_neg (fun z => by have := t_lt z; omega), if_neg (fun z => by have := t_le z; omega)] at h1
    have tn := nat_of (n := t) (Int32.le_iff_toInt_le.mpr (by rw [z_0]; exact h8))
    have pn := nat_of (n := p1) (Int32.le_iff_toInt_le.mpr (by rw [z_0]; omega))
    have eb := ush_b (t := t) (k := t.toNatClampNeg) tn.symm (by omega) rest
    obtain ⟨w, w1, w2, hz⟩ := zb_ge (y := (((rest).toUInt64 >>> (((t).toInt64).toUInt64 &&& Int64.toUInt64 63)).toInt64)) (64 - (p1.toNatClampNeg - t.toNatClampNeg)) (p1.toNatClampNeg - t.toNatClampNeg) (by omega) (by
      intro i hi
      rw [eb, BitVec.getLsbD_ushiftRight]
      exact h10 _ (by omega) (by omega))
    rw [hz] at h1
    obtain ⟨x, hx, h1⟩ := bd_e h1
    have hx := Option.some.inj hx
    have wt : (Int32.ofNat w).toInt = (w : Int) := Int32.toInt_ofNat_of_lt (by omega)
    rw [hx] at wt
    have sb : (p1 - t).toInt = p1.toInt - t.toInt := yb (by omega) (by omega)
    have er : (if (p1 - t) < x then (p1 - t) else x) = n9 := by
      apply Int32.toInt_inj.mp
      by_cases z : (p1 - t) < x
      · rw [if_pos z, sb]; omega
      · rw [if_neg z]
        have := t_le (Int32.not_lt.mp z)
        omega
    simp only [nl] at h1
    rw [er] at h1
    obtain ⟨y, hy, h1⟩ := bd_e h1
    obtain ⟨y1, y2, y3⟩ := y
    have hT := number_TL h2 (by omega) (by omega) hy hb
    have ts : (t + n9).toInt = t.toInt + n9.toInt := ya (by omega) (by omega)
    dsimp only at h1
    rw [egx] at h1
    cases m with
    | zero => exact absurd h1 (by simp [lp])
    | succ m =>
      obtain ⟨gy, egy, h1⟩ := lp_x h1
      unfold f_Teller_tellDiffers_L38 at h1
      dsimp only at h1
      have h1 : some (y1, y2, y3) = some Rs := by
        by_cases z : p1 < turn + 1
        · rw [if_pos z] at h1; exact h1
        · rw [if_neg z, if_pos (Int32.le_iff_toInt_le.mpr (by omega))] at h1; exact h1
      have h1 := Option.some.inj h1
      subst h1
      exact hT
set_option maxRecDepth 20000 in
set_option maxHeartbeats 1000000 in
theorem runs2 {kp T0 c tc c9 c8 p i : Int32} {B0 O0 b o o8 w h sO : Nat → Int32} {df : Nat → Int64} {d : Int64} {Rs : Int32 × Int32 × (Nat → Int32)} (hw : R w 0 8) (hh : R h 0 8) (hT : TL kp T0 B0 O0 c tc b c9 o) (ep : p = w (sO i.toNatClampNeg).toNatClampNeg * h (sO i.toNatClampNeg).toNatClampNeg) (hp0 : 1 ≤ p.toInt)
    (hX : BX (w (sO i.toNatClampNeg).toNatClampNeg).toNatClampNeg (h (sO i.toNatClampNeg).toNatClampNeg).toNatClampNeg d (df i.toNatClampNeg))
    (ha : lp (f_Teller_tellDiffers_L38 p kp) FU (0, 0, d, c, tc, b) = some Rs) (hb : f_Mo_runs c9 kp sO h w df o i = some (c8, o8)) : TL kp T0 B0 O0 Rs.1 Rs.2.1 Rs.2.2 c8 o8 := by
  unfold f_Mo_runs at hb
  obtain ⟨_, hb⟩ := gq_e hb
  simp only [nl] at hb
  generalize sO i.toNatClampNeg = s at *
  have w8 := cl8 hw s.toNatClampNeg
  have h8 := cl8 hh s.toNatClampNeg
  have wt := cl_t hw s.toNatClampNeg
  have ht := cl_t hh s.toNatClampNeg
  generalize hW : (w s.toNatClampNeg).toNatClampNeg = W at *
  generalize hH : (h s.toNatClampNeg).toNatClampNeg = H at *
  have l2 := wh_le w8 h8
  have l3 : ((W * H : Nat) : Int) = (W : Int) * (H : Int) := Int.natCast_mul W H
  have pt : p.toInt = ((W * H : Nat) : Int) := by
    rw [ep, i_mul (a := w s.toNatClampNeg) (b := h s.toNatClampNeg) rfl rfl (by rw [← wt, ← ht, ← l3]; omega) (by rw [← wt, ← ht, ← l3]; omega), ← wt, ← ht, l3]
  have start : RN kp T0 B0 O0 d p Rs 0 0 0 c9 o := ⟨FU, 0, 0, d, c, tc, b, ha, hT, by decide, by decide, Or.inl ⟨rfl, rfl⟩, by omega, by rfl, by decide, Or.inl ⟨rfl, rfl⟩, fun i a1 a2 => by omega⟩
  refine lp_one (fun (t : Int32 × Int32 × Int32 × Int32 × (Nat → Int32)) => 0 ≤ t.1.toInt ∧ t.1.toInt ≤ (H : Int) ∧ (t.2.2.1 = 0 ∨ t.2.2.1 = 1) ∧ RN kp T0 B0 O0 d p Rs (t.1.toInt * (W : Int)) t.2.1.toInt t.2.2.1 t.2.2.2.1 t.2.2.2.2) (fun (a : Int32 × (Nat → Int32)) => TL kp T0 B0 O0 Rs.1 Rs.2.1 Rs.2.2 a.1 a.2) ?_ FU _ ?_ _ hb
  · intro f hf t hI a hb
    obtain ⟨y, n, lk, u9, q9⟩ := t
    dsimp only at hI
    obtain ⟨y0, y1, hk, hR⟩ := hI
    unfold f_Mo_runs_L15 at hb
    dsimp only at hb
    obtain ⟨_, hb⟩ := gq_e hb
    by_cases cy : h s.toNatClampNeg ≤ y
    · rw [if_pos cy] at hb
      have cy9 := t_le cy
      have ey : y.toInt = (H : Int) := by omega
      obtain ⟨z, hz, hb⟩ := bd_e hb
      obtain ⟨z1, z2⟩ := z
      have hb := Option.some.inj hb
      subst hb
      refine rn_end hR ?_ (by omega) hp0 rfl hz
      rw [ey, pt, l3, Int.mul_comm]
    · rw [if_neg cy] at hb
      have cy9 := t_lt (Int32.not_le.mp cy)
      have yn := nat_of (n := y) (Int32.le_iff_toInt_le.mpr (by rw [z_0]; exact y0))
      refine lp_one (fun (t : Int32 × Int32 × Int32 × Int32 × (Nat → Int32)) => 0 ≤ t.1.toInt ∧ t.1.toInt ≤ (W : Int) ∧ (t.2.2.1 = 0 ∨ t.2.2.1 = 1) ∧ RN kp T0 B0 O0 d p Rs (y.toInt * (W : Int) + t.1.toInt) t.2.1.toInt t.2.2.1 t.2.2.2.1 t.2.2.2.2) (fun (a : Int32 × (Nat → Int32)) => TL kp T0 B0 O0 Rs.1 Rs.2.1 Rs.2.2 a.1 a.2) ?_ FU _ ?_ _ hb
      · intro f1 hf1 t hI a hb
        obtain ⟨x, n, lk, u9, q9⟩ := t
        dsimp only at hI
        obtain ⟨x0, x1, hk, hR⟩ := hI
        unfold f_Mo_runs_L29 at hb
        dsimp only at hb
        obtain ⟨_, hb⟩ := gq_e hb
        by_cases cx : w s.toNatClampNeg ≤ x
        · rw [if_pos cx] at hb
          have cx9 := t_le cx
          have ex : x.toInt = (W : Int) := by omega
          have yi := inc_i (k := y) (by omega) (by omega)
          refine hf _ ?_ a hb
          refine ⟨by show 0 ≤ (y + 1).toInt; omega, by show (y + 1).toInt ≤ _; omega, hk, ?_⟩
          show RN kp T0 B0 O0 d p Rs ((y + 1).toInt * (W : Int)) n.toInt lk u9 q9
          rw [yi, Int.add_mul, Int.one_mul, ← ex]
          rw [← ex] at hR
          exact hR
        · rw [if_neg cx] at hb
          have cx9 := t_lt (Int32.not_le.mp cx)
          have xn := nat_of (n := x) (Int32.le_iff_toInt_le.mpr (by rw [z_0]; exact x0))
          obtain ⟨_, hb⟩ := gq_e hb
          have e8 : ((8 : Int32) * y + x).toInt = ((8 * y.toNatClampNeg + x.toNatClampNeg : Nat) : Int) := by
            have m1 := i_mul (a := 8) (b := y) z_8 rfl (by omega) (by omega)
            rw [ya (by rw [m1]; omega) (by rw [m1]; omega), m1]
            omega
          have sb := sbit (d := df i.toNatClampNeg) e8 (by omega)
          have lt := ix_lt (w := W) (h := H) (x := x.toNatClampNeg) (v := y.toNatClampNeg) (by omega) (by omega)
          have bx := hX.1 x.toNatClampNeg y.toNatClampNeg (by omega) (by omega)
          have ji : ((y.toNatClampNeg * W + x.toNatClampNeg : Nat) : Int) = y.toInt * (W : Int) + x.toInt := by
            rw [Int.natCast_add, Int.natCast_mul, yn, xn]
          have xi := inc_i (k := x) (by omega) (by omega)
          simp only [jn, nl] at hb
          have nx : ∀ (n1 k1 u1 : Int32) (o1 : Nat → Int32), (k1 = 0 ∨ k1 = 1) → RN kp T0 B0 O0 d p Rs (y.toInt * (W : Int) + x.toInt + 1) n1.toInt k1 u1 o1 → f1 (x + 1, n1, k1, u1, o1) = some a → TL kp T0 B0 O0 Rs.1 Rs.2.1 Rs.2.2 a.1 a.2 := by
            intro n1 k1 u1 o1 hk1 hR1 hb
            refine hf1 _ ?_ a hb
            refine ⟨by show 0 ≤ (x + 1).toInt; omega, by show (x + 1).toInt ≤ _; omega, hk1, ?_⟩
            show RN kp T0 B0 O0 d p Rs (y.toInt * (W : Int) + (x + 1).toInt) n1.toInt k1 u1 o1
            rw [xi, ← Int.add_assoc]
            exact hR1
          have nb : 0 ≤ n.toInt ∧ n.toInt ≤ 64 := by
            obtain ⟨m, turn, t, rest, c, tc, b, h1, h2, h3, h4, h5, h6, h7, h8, h9, h10⟩ := hR
            omega
          have ni := inc_i (k := n) (by omega) (by omega)
          have z01 : ((0 : Int32) + 1).toInt = 1 := rfl
          by_cases bt : d.toBitVec.getLsbD (y.toNatClampNeg * W + x.toNatClampNeg) = true
          · rw [if_pos (sb.mpr (by rw [← bx]; exact bt))] at hb
            rcases hk with k0 | k1
            · subst k0
              rw [if_neg (by decide)] at hb
              obtain ⟨z, hz, hb⟩ := bd_e hb
              obtain ⟨z1, z2⟩ := z
              have r1 := rn_turn (l2 := 1) hR ji (by omega) (by omega) rfl (by rw [bt]; decide) (Or.inl ⟨rfl, rfl⟩) hz
              exact nx _ _ _ _ (Or.inr rfl) (by rw [z01]; exact r1) hb
            · subst k1
              rw [if_pos rfl] at hb
              have r1 := rn_same hR ji (by omega) (by rw [bt]; decide)
              exact nx _ _ _ _ (Or.inr rfl) (by rw [ni]; exact r1) hb
          · rw [if_neg (fun z => bt (by rw [bx]; exact sb.mp z))] at hb
            have bf := Bool.eq_false_iff.mpr bt
            rcases hk with k0 | k1
            · subst k0
              rw [if_pos rfl] at hb
              have r1 := rn_same hR ji (by omega) (by rw [bf]; decide)
              exact nx _ _ _ _ (Or.inl rfl) (by rw [ni]; exact r1) hb
            · subst k1
              rw [if_neg (by decide)] at hb
              obtain ⟨z, hz, hb⟩ := bd_e hb
              obtain ⟨z1, z2⟩ := z
              have r1 := rn_turn (l2 := 0) hR ji (by omega) (by omega) rfl (by rw [bf]; decide) (Or.inr ⟨rfl, rfl⟩) hz
              exact nx _ _ _ _ (Or.inl rfl) (by rw [z01]; exact r1) hb
      · refine ⟨p0_0, by show (0 : Int) ≤ _; omega, hk, ?_⟩
        show RN kp T0 B0 O0 d p Rs (y.toInt * (W : Int) + 0) n.toInt lk u9 q9
        rw [Int.add_zero]
        exact hR
  · refine ⟨p0_0, by show (0 : Int) ≤ _; omega, Or.inl rfl, ?_⟩
    show RN kp T0 B0 O0 d p Rs (0 * (W : Int)) 0 0 c9 o
    rw [Int.zero_mul]
    exact start
