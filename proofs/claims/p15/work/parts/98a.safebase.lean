/-! The pure part: a term answers, and what holds of its answer -/
def ok {α : Type} (x : Option α) (Q : α → Prop) : Prop := ∃ o, x = some o ∧ Q o
theorem ok_some {α : Type} {a : α} {Q : α → Prop} (h : Q a) : ok (some a) Q := ⟨a, rfl, h⟩
theorem ok_mono {α : Type} {x : Option α} {P Q : α → Prop} (h : ok x P) (hq : ∀ a, P a → Q a) : ok x Q := by
  obtain ⟨o, e, h⟩ := h
  exact ⟨o, e, hq o h⟩
theorem in_gq {i N : Int32} {n : Nat} (hN : (n : Int) = N.toInt) (h0 : 0 ≤ i) (h1 : i < N) : ¬ (i < 0 ∨ n ≤ i.toNatClampNeg) := by
  have a := Int32.le_iff_toInt_le.mp h0
  have b := Int32.lt_iff_toInt_lt.mp h1
  have z : (0 : Int32).toInt = 0 := rfl
  rintro (h | h)
  · have := Int32.lt_iff_toInt_lt.mp h
    omega
  · have : (i.toNatClampNeg : Int) = i.toInt := by
      show ((i.toInt.toNat : Nat) : Int) = i.toInt
      omega
    omega
theorem ok_gq {α : Type} {i : Int32} {n : Nat} {k : Option α} {Q : α → Prop} (N : Int32) (hN : (n : Int) = N.toInt) (h0 : 0 ≤ i) (h1 : i < N) (h : ok k Q) : ok (gq i n k) Q := by
  unfold gq
  rw [if_neg (in_gq hN h0 h1)]
  exact h
theorem ok_nz {α : Type} {v : Int32} {k : Option α} {Q : α → Prop} (hv : ¬ v = 0) (h : ok k Q) : ok (nz v k) Q := by
  unfold nz
  rw [if_neg hv]
  exact h
theorem ok_bz {α : Type} {v : Int32} {k : Option α} {Q : α → Prop} (hv : v = 0 ∨ v = 1) (h : ok k Q) : ok (bz v k) Q := by
  unfold bz
  rw [if_pos hv]
  exact h
theorem ok_nl {α β : Type} {e : α} {k : α → Option β} {Q : β → Prop} (h : ∀ x, x = e → ok (k x) Q) : ok (nl e k) Q := h e rfl
theorem ok_bd {α β : Type} {x : Option α} {k : α → Option β} {P : α → Prop} {Q : β → Prop} (hx : ok x P) (h : ∀ a, P a → ok (k a) Q) : ok (bd x k) Q := by
  obtain ⟨o, e, p⟩ := hx
  subst e
  exact h o p
theorem ok_if {α : Type} {c : Prop} [Decidable c] {a b : Option α} {Q : α → Prop} (h1 : c → ok a Q) (h2 : ¬ c → ok b Q) : ok (if c then a else b) Q := by
  by_cases hc : c
  · rw [if_pos hc]; exact h1 hc
  · rw [if_neg hc]; exact h2 hc
theorem ok_jn {α β : Type} {k : α} {f : α → Option β} {Q : β → Prop} (J : α → Prop) (hk : J k) (hf : ∀ j, J j → ok (f j) Q) : ok (jn k f) Q := hf k hk
theorem ok_lp {σ ρ : Type} {F : (σ → Option ρ) → σ → Option ρ} {Q : ρ → Prop} {s : σ} (I : σ → Prop) (μ : σ → Int32) (h0 : I s) (hb : ∀ s, I s → 0 ≤ μ s ∧ μ s < 99999)
    (hF : ∀ (self : σ → Option ρ) (s : σ), I s → (∀ s', I s' → μ s' < μ s → ok (self s') Q) → ok (F self s) Q) : ok (lp F FU s) Q := by
  have key : ∀ (n : Nat) (s : σ), I s → (μ s).toInt < n → ok (lp F n s) Q := by
    intro n
    induction n with
    | zero =>
      intro s hs hm
      have := Int32.le_iff_toInt_le.mp (hb s hs).1
      have z : (0 : Int32).toInt = 0 := rfl
      omega
    | succ n ih =>
      intro s hs hm
      refine hF (lp F n) s hs (fun s' hs' hlt => ih s' hs' ?_)
      have := Int32.lt_iff_toInt_lt.mp hlt
      omega
  refine key FU s h0 ?_
  have := Int32.lt_iff_toInt_lt.mp (hb s h0).2
  have z : (99999 : Int32).toInt = 99999 := rfl
  have : ((FU : Nat) : Int) = 100000 := rfl
  omega
def R (f : Nat → Int32) (lo hi : Int32) : Prop := ∀ k : Nat, lo ≤ f k ∧ f k ≤ hi
theorem R_upd {f : Nat → Int32} {lo hi v : Int32} (h : R f lo hi) (i : Nat) (h1 : lo ≤ v ∧ v ≤ hi) : R (upd f i v) lo hi := by
  intro k
  unfold upd
  by_cases c : k = i
  · simp only [c, if_true]; exact h1
  · simp only [c, if_false]; exact h k
theorem i_sub {a b : Int32} {x y : Int} (ha : a.toInt = x) (hb : b.toInt = y) (h1 : -2147483648 ≤ x - y) (h2 : x - y ≤ 2147483647) : (a - b).toInt = x - y := by
  rw [Int32.toInt_sub, ha, hb]
  apply Int.bmod_eq_of_le <;> omega
theorem i_mul {a b : Int32} {x y : Int} (ha : a.toInt = x) (hb : b.toInt = y) (h1 : -2147483648 ≤ x * y) (h2 : x * y ≤ 2147483647) : (a * b).toInt = x * y := by
  rw [Int32.toInt_mul, ha, hb]
  apply Int.bmod_eq_of_le <;> omega
theorem i_div {a b : Int32} (h0 : 0 ≤ a) (h1 : 0 < b) : (a / b).toInt = a.toInt / b.toInt := by
  have a0 := Int32.le_iff_toInt_le.mp h0
  have b0 := Int32.lt_iff_toInt_lt.mp h1
  have z : (0 : Int32).toInt = 0 := rfl
  rw [z] at a0 b0
  have hb : b ≠ -1 := by
    intro e
    rw [e] at b0
    exact absurd b0 (by decide)
  rw [Int32.toInt_div_of_ne_right _ _ hb, Int.tdiv_eq_ediv_of_nonneg a0]
theorem dv {a : Int32} (d : Int32) (h0 : 0 ≤ a) (hd : 0 < d) : 0 ≤ a / d ∧ a / d ≤ a ∧ a / d * d ≤ a ∧ 0 ≤ a / d * d ∧ a - a / d * d < d ∧ 0 ≤ a - a / d * d := by
  have a0 := Int32.le_iff_toInt_le.mp h0
  have b0 := Int32.lt_iff_toInt_lt.mp hd
  have z : (0 : Int32).toInt = 0 := rfl
  rw [z] at a0 b0
  have am := Int32.toInt_le a
  have bm := Int32.toInt_le d
  have q := i_div h0 hd
  have q0 : 0 ≤ a.toInt / d.toInt := Int.ediv_nonneg a0 (Int.le_of_lt b0)
  have q1 : a.toInt / d.toInt * d.toInt ≤ a.toInt := Int.ediv_mul_le _ (by omega)
  have q2 : a.toInt < (a.toInt / d.toInt + 1) * d.toInt := Int.lt_ediv_add_one_mul_self _ b0
  have q3 : a.toInt / d.toInt ≤ a.toInt := Int.ediv_le_self _ a0
  have q4 : 0 ≤ a.toInt / d.toInt * d.toInt := Int.mul_nonneg q0 (Int.le_of_lt b0)
  have q5 : (a.toInt / d.toInt + 1) * d.toInt = a.toInt / d.toInt * d.toInt + d.toInt := by rw [Int.add_mul, Int.one_mul]
  have am' : a.toInt ≤ 2147483647 := am
  have m := i_mul (b := d) (y := d.toInt) q rfl (by omega) (by omega)
  have s := i_sub (a := a) (x := a.toInt) rfl m (by omega) (by omega)
  refine ⟨Int32.le_iff_toInt_le.mpr (by rw [z, q]; exact q0), Int32.le_iff_toInt_le.mpr (by rw [q]; exact q3), Int32.le_iff_toInt_le.mpr (by rw [m]; exact q1), Int32.le_iff_toInt_le.mpr (by rw [z, m]; exact q4), Int32.lt_iff_toInt_lt.mpr (by rw [s]; omega), Int32.le_iff_toInt_le.mpr (by rw [z, s]; omega)⟩
theorem and1 (a : Int32) : (a &&& (1 : Int32)) = 0 ∨ (a &&& (1 : Int32)) = 1 := by
  have h : (a &&& (1 : Int32)).toBitVec = 0#32 ∨ (a &&& (1 : Int32)).toBitVec = 1#32 := by
    have e : (a &&& (1 : Int32)).toBitVec = a.toBitVec &&& 1#32 := rfl
    rw [e]
    have n : (a.toBitVec &&& 1#32).toNat = a.toBitVec.toNat % 2 := by
      rw [BitVec.toNat_and]
      exact Nat.and_one_is_mod _
    rcases Nat.mod_two_eq_zero_or_one a.toBitVec.toNat with q | q
    · left; apply BitVec.eq_of_toNat_eq; rw [n, q]; rfl
    · right; apply BitVec.eq_of_toNat_eq; rw [n, q]; rfl
  rcases h with h | h
  · left; exact Int32.toBitVec_inj.mp h
  · right; exact Int32.toBitVec_inj.mp h
theorem bm (x : Int) : Int.bmod x 4294967296 = (x + 2147483648) % 4294967296 - 2147483648 := by
  have h : Int.bmod x 4294967296 = if x % 4294967296 < 2147483648 then x % 4294967296 else x % 4294967296 - 4294967296 := by
    rw [Int.bmod_def]; rfl
  rw [h]
  split <;> omega
theorem bmi {x : Int} (h1 : -2147483648 ≤ x) (h2 : x ≤ 2147483647) : Int.bmod x 4294967296 = x := Int.bmod_eq_of_le (by omega) (by omega)
theorem xl {a b : Int32} : a ≤ b ↔ a.toInt ≤ b.toInt := Int32.le_iff_toInt_le
theorem xt {a b : Int32} : a < b ↔ a.toInt < b.toInt := Int32.lt_iff_toInt_lt
theorem xe {a b : Int32} : a = b ↔ a.toInt = b.toInt := Int32.toInt_inj.symm
theorem xa (a b : Int32) : (a + b).toInt = (a.toInt + b.toInt + 2147483648) % 4294967296 - 2147483648 := by rw [Int32.toInt_add]; exact bm _
theorem xb (a b : Int32) : (a - b).toInt = (a.toInt - b.toInt + 2147483648) % 4294967296 - 2147483648 := by rw [Int32.toInt_sub]; exact bm _
theorem xm (a b : Int32) : (a * b).toInt = (a.toInt * b.toInt + 2147483648) % 4294967296 - 2147483648 := by rw [Int32.toInt_mul]; exact bm _
theorem xg (a : Int32) : (-a).toInt = (-a.toInt + 2147483648) % 4294967296 - 2147483648 := by rw [Int32.toInt_neg]; exact bm _
theorem ya {a b : Int32} (h1 : -2147483648 ≤ a.toInt + b.toInt) (h2 : a.toInt + b.toInt ≤ 2147483647) : (a + b).toInt = a.toInt + b.toInt := by rw [Int32.toInt_add]; exact bmi h1 h2
theorem yb {a b : Int32} (h1 : -2147483648 ≤ a.toInt - b.toInt) (h2 : a.toInt - b.toInt ≤ 2147483647) : (a - b).toInt = a.toInt - b.toInt := by rw [Int32.toInt_sub]; exact bmi h1 h2
theorem ym {a b : Int32} (h1 : -2147483648 ≤ a.toInt * b.toInt) (h2 : a.toInt * b.toInt ≤ 2147483647) : (a * b).toInt = a.toInt * b.toInt := by rw [Int32.toInt_mul]; exact bmi h1 h2
theorem ok_Q {α : Type} {x : Option α} {P : α → Prop} (h : ∀ Q9 : α → Prop, (∀ o, P o → Q9 o) → ok x Q9) : ok x P := h P (fun _ h => h)
theorem ok_ex {α β : Type} {k : α} (f : α → Option β) {Q : β → Prop} (J : α → Prop) (hk : J k) (hf : ∀ j, J j → ok (f j) Q) : ok (f k) Q := hf k hk
theorem Rtb_MOST_OF_WAY : R tb_MOST_OF_WAY 1 4 := by
  intro k
  unfold tb_MOST_OF_WAY
  split <;> decide
theorem Rtb_BITS_OF_WAY : R tb_BITS_OF_WAY 1 3 := by
  intro k
  unfold tb_BITS_OF_WAY
  split <;> decide
theorem Rtb_WAYS_AS_TOLD : R tb_WAYS_AS_TOLD 0 3 := by
  intro k
  unfold tb_WAYS_AS_TOLD
  split <;> decide
theorem sar (a b : Int32) : (0 ≤ a → 0 ≤ a >>> (b &&& 31) ∧ a >>> (b &&& 31) ≤ a) ∧ (a < 0 → a ≤ a >>> (b &&& 31) ∧ a >>> (b &&& 31) < 0) := by
  have e : (a >>> (b &&& 31)).toInt = a.toInt / 2 ^ ((b &&& 31).toBitVec.smod 32).toNat := by
    show (a.toBitVec.sshiftRight ((b &&& 31).toBitVec.smod 32).toNat).toInt = _
    rw [BitVec.toInt_sshiftRight, Int.shiftRight_eq_div_pow]
    rfl
  generalize ((b &&& 31).toBitVec.smod 32).toNat = n at e
  have p : (0 : Int) < 2 ^ n := Int.pow_pos (by decide)
  generalize (2 : Int) ^ n = t at e p
  have z : (0 : Int32).toInt = 0 := rfl
  refine ⟨fun h => ?_, fun h => ?_⟩
  · have h := Int32.le_iff_toInt_le.mp h
    rw [z] at h
    refine ⟨Int32.le_iff_toInt_le.mpr ?_, Int32.le_iff_toInt_le.mpr ?_⟩
    · rw [z, e]; exact Int.ediv_nonneg h (Int.le_of_lt p)
    · rw [e]; exact Int.ediv_le_self _ h
  · have h := Int32.lt_iff_toInt_lt.mp h
    rw [z] at h
    refine ⟨Int32.le_iff_toInt_le.mpr ?_, Int32.lt_iff_toInt_lt.mpr ?_⟩
    · rw [e]
      refine (Int.le_ediv_iff_mul_le p).mpr ?_
      have h2 : 1 ≤ t := p
      have := Int.mul_le_mul_of_nonpos_left (a := a.toInt) (b := t) (c := 1) (by omega) h2
      omega
    · rw [z, e]; exact Int.ediv_neg_of_neg_of_pos h p
theorem R_updB {f : Nat → Int32} (h : R f 0 1) (i : Nat) (v : Int32) : R (upd f i (vp_nar .boolean v)) 0 1 := by
  refine R_upd h i ?_
  have e : vp_nar .boolean v = 0 ∨ vp_nar .boolean v = 1 := and1 v
  rcases e with e | e <;> rw [e] <;> decide
theorem mul88 {a b : Int32} (ha : 0 ≤ a ∧ a ≤ 8) (hb : 0 ≤ b ∧ b ≤ 8) : 0 ≤ a * b ∧ a * b ≤ 64 := by
  have a0 := Int32.le_iff_toInt_le.mp ha.1
  have a1 := Int32.le_iff_toInt_le.mp ha.2
  have b0 := Int32.le_iff_toInt_le.mp hb.1
  have b1 := Int32.le_iff_toInt_le.mp hb.2
  have z : (0 : Int32).toInt = 0 := rfl
  have z8 : (8 : Int32).toInt = 8 := rfl
  have z64 : (64 : Int32).toInt = 64 := rfl
  rw [z] at a0 b0
  rw [z8] at a1 b1
  have m0 := Int.mul_nonneg a0 b0
  have m1 : a.toInt * b.toInt ≤ 8 * 8 := Int.mul_le_mul a1 b1 b0 (by decide)
  have m := i_mul (a := a) (b := b) rfl rfl (by omega) (by omega)
  exact ⟨Int32.le_iff_toInt_le.mpr (by rw [z, m]; exact m0), Int32.le_iff_toInt_le.mpr (by rw [z64, m]; exact m1)⟩
theorem ofn {n : Nat} {N : Int32} (h : (n : Int) = N.toInt) : Int32.ofNat n = N := by
  apply Int32.toInt_inj.mp
  have h1 := Int32.toInt_le N
  have h2 : N.toInt ≤ 2147483647 := h1
  rw [← h]
  exact Int32.toInt_ofNat_of_lt (by omega)
/-- 2 to the n, up to 2^14 -/
def pw (n : Int32) : Int32 := if n = 0 then 1 else if n = 1 then 2 else if n = 2 then 4 else if n = 3 then 8 else if n = 4 then 16 else if n = 5 then 32 else if n = 6 then 64 else if n = 7 then 128 else if n = 8 then 256 else if n = 9 then 512 else if n = 10 then 1024 else if n = 11 then 2048 else if n = 12 then 4096 else if n = 13 then 8192 else 16384
theorem i32_cases {P : Int32 → Prop} {n : Int32} (m : Nat) (h0 : 0 ≤ n) (h1 : n.toInt ≤ m) (h : ∀ k : Nat, k ≤ m → P (Int32.ofNat k)) : P n := by
  have a := Int32.le_iff_toInt_le.mp h0
  have z : (0 : Int32).toInt = 0 := rfl
  rw [z] at a
  have e : n = Int32.ofNat n.toInt.toNat := (ofn (by omega)).symm
  rw [e]
  exact h _ (by omega)
theorem pw_s (n : Int32) (h0 : 0 ≤ n) (h1 : n ≤ 13) : pw (n + 1) = 2 * pw n ∧ 1 ≤ pw n ∧ pw n ≤ 8192 := by
  have b := Int32.le_iff_toInt_le.mp h1
  have z : (13 : Int32).toInt = 13 := rfl
  rw [z] at b
  refine i32_cases (P := fun n => pw (n + 1) = 2 * pw n ∧ 1 ≤ pw n ∧ pw n ≤ 8192) 13 h0 b ?_
  decide
theorem pw_3 (n : Int32) (h0 : 0 ≤ n) (h1 : n ≤ 3) : pw n ≤ 8 := by
  have b := Int32.le_iff_toInt_le.mp h1
  have z : (3 : Int32).toInt = 3 := rfl
  rw [z] at b
  exact i32_cases (P := fun n => pw n ≤ 8) 3 h0 b (by decide)
theorem shl1or {v b : Int32} (h0 : 0 ≤ v) (h1 : v ≤ 1000000) (hb : 0 ≤ b ∧ b ≤ 1) : (v <<< ((1 : Int32) &&& 31)) ||| b = 2 * v + b := by
  have v0 := Int32.le_iff_toInt_le.mp h0
  have v1 := Int32.le_iff_toInt_le.mp h1
  have z : (0 : Int32).toInt = 0 := rfl
  have zz : (1000000 : Int32).toInt = 1000000 := rfl
  rw [z] at v0
  rw [zz] at v1
  have e : v = Int32.ofNat v.toInt.toNat := (ofn (by omega)).symm
  have hn : v.toInt.toNat ≤ 1000000 := by omega
  generalize v.toInt.toNat = n at e hn
  have hbb : b = 0 ∨ b = 1 := by grind
  apply Int32.toBitVec_inj.mp
  have e1 : ((v <<< ((1 : Int32) &&& 31)) ||| b).toBitVec = (v.toBitVec <<< 1) ||| b.toBitVec := rfl
  have e2 : (2 * v + b).toBitVec = 2#32 * v.toBitVec + b.toBitVec := rfl
  rw [e1, e2, e]
  show (BitVec.ofNat 32 n <<< 1) ||| b.toBitVec = 2#32 * BitVec.ofNat 32 n + b.toBitVec
  apply BitVec.eq_of_toNat_eq
  have hs : (BitVec.ofNat 32 n <<< 1).toNat = 2 * n := by
    rw [BitVec.toNat_shiftLeft, BitVec.toNat_ofNat, Nat.mod_eq_of_lt (by omega), Nat.shiftLeft_eq, Nat.mod_eq_of_lt (by omega)]
    omega
  have hm : (2#32 * BitVec.ofNat 32 n).toNat = 2 * n := by
    rw [BitVec.toNat_mul, BitVec.toNat_ofNat, BitVec.toNat_ofNat, Nat.mod_eq_of_lt (by omega : n < 2 ^ 32), Nat.mod_eq_of_lt (by decide : 2 < 2 ^ 32), Nat.mod_eq_of_lt (by omega)]
  rw [BitVec.toNat_or, BitVec.toNat_add, hs, hm]
  rcases hbb with rfl | rfl
  · show (2 * n ||| 0) = (2 * n + 0) % 2 ^ 32
    rw [Nat.or_zero, Nat.mod_eq_of_lt (by omega)]; rfl
  · show (2 * n ||| 1) = (2 * n + 1) % 2 ^ 32
    rw [Nat.mod_eq_of_lt (by omega)]
    have := Nat.two_pow_add_eq_or_of_lt (i := 1) (b := 1) (by decide) n
    simpa using this.symm
theorem pgi {x y w h e : Int32} (hx0 : 0 ≤ x) (hx1 : x < w) (hy0 : 0 ≤ y) (hy1 : y < h) (hw : 1 ≤ w ∧ w ≤ 24) (hh : 1 ≤ h ∧ h ≤ 24) (he : e = y * w + x) : 0 ≤ e ∧ e < w * h := by
  have a1 := Int32.le_iff_toInt_le.mp hx0
  have a2 := Int32.lt_iff_toInt_lt.mp hx1
  have a3 := Int32.le_iff_toInt_le.mp hy0
  have a4 := Int32.lt_iff_toInt_lt.mp hy1
  have a5 := Int32.le_iff_toInt_le.mp hw.2
  have a6 := Int32.le_iff_toInt_le.mp hh.2
  have z : (0 : Int32).toInt = 0 := rfl
  have z24 : (24 : Int32).toInt = 24 := rfl
  rw [z] at a1 a3
  rw [z24] at a5 a6
  have m0 : 0 ≤ y.toInt * w.toInt := Int.mul_nonneg a3 (by omega)
  have m1 : (y.toInt + 1) * w.toInt ≤ h.toInt * w.toInt := Int.mul_le_mul_of_nonneg_right (by omega) (by omega)
  have m2 : (y.toInt + 1) * w.toInt = y.toInt * w.toInt + w.toInt := by rw [Int.add_mul, Int.one_mul]
  have m3 : h.toInt * w.toInt ≤ 24 * 24 := Int.mul_le_mul a6 a5 (by omega) (by decide)
  have m4 : h.toInt * w.toInt = w.toInt * h.toInt := Int.mul_comm _ _
  have e1 := i_mul (a := y) (b := w) rfl rfl (by omega) (by omega)
  have e2 := i_mul (a := w) (b := h) rfl rfl (by omega) (by omega)
  have e3 : (y * w + x).toInt = y.toInt * w.toInt + x.toInt := by
    rw [Int32.toInt_add, e1]
    apply Int.bmod_eq_of_le <;> omega
  subst he
  exact ⟨Int32.le_iff_toInt_le.mpr (by rw [z, e3]; omega), Int32.lt_iff_toInt_lt.mpr (by rw [e3, e2]; omega)⟩
