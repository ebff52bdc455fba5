/-! place, in step: how many bits of a long are set -/
/-- digits of base 256 -/
theorem dg_and {a b e f : Nat} (he : e < 256) (hf : f < 256) : (256 * a + e) &&& (256 * b + f) = 256 * (a &&& b) + (e &&& f) := by
  have h1 : ((256 * a + e) &&& (256 * b + f)) / 2 ^ 8 = ((256 * a + e) / 2 ^ 8) &&& ((256 * b + f) / 2 ^ 8) := Nat.and_div_two_pow
  have h2 : ((256 * a + e) &&& (256 * b + f)) % 2 ^ 8 = ((256 * a + e) % 2 ^ 8) &&& ((256 * b + f) % 2 ^ 8) := Nat.and_mod_two_pow
  have e1 : (256 * a + e) / 2 ^ 8 = a := by omega
  have e2 : (256 * b + f) / 2 ^ 8 = b := by omega
  have e3 : (256 * a + e) % 2 ^ 8 = e := by omega
  have e4 : (256 * b + f) % 2 ^ 8 = f := by omega
  rw [e1, e2] at h1
  rw [e3, e4] at h2
  omega
def pc_1 (d : Nat) : Nat := d - ((d / 2) &&& 85)
def pc_2 (d : Nat) : Nat := (d &&& 51) + ((d / 4) &&& 51)
def pc_3 (d : Nat) : Nat := d % 16 + d / 16
def pc_8 (d : Nat) : Nat := d % 2 + d / 2 % 2 + d / 4 % 2 + d / 8 % 2 + d / 16 % 2 + d / 32 % 2 + d / 64 % 2 + d / 128 % 2
theorem pc_1t : ∀ d : Nat, d < 256 → ((d / 2) &&& 85) ≤ d ∧ pc_1 d < 256 := by decide +kernel
theorem pc_2t : ∀ d : Nat, d < 256 → pc_2 (pc_1 d) % 16 ≤ 4 ∧ pc_2 (pc_1 d) / 16 ≤ 4 ∧ pc_3 (pc_2 (pc_1 d)) = pc_8 d ∧ pc_8 d ≤ 8 := by decide +kernel
theorem pc_55 : ∀ d : Nat, d < 128 → (128 + d) &&& 85 = d &&& 85 := by decide +kernel
theorem pc_33 : ∀ t : Nat, t < 4 → ∀ d : Nat, d < 64 → (64 * t + d) &&& 51 = d &&& 51 := by decide +kernel
def vl_ : List Nat → Nat
  | [] => 0
  | d :: l => 256 * vl_ l + d
theorem vl_and (m : Nat) (hm : m < 256) : ∀ l : List Nat, (∀ d ∈ l, d < 256) → vl_ l &&& vl_ (l.map fun _ => m) = vl_ (l.map fun d => d &&& m) := by
  intro l
  induction l with
  | nil => intro _; exact Nat.zero_and _
  | cons d l ih =>
    intro h
    show (256 * vl_ l + d) &&& (256 * vl_ (l.map fun _ => m) + m) = 256 * vl_ (l.map fun d => d &&& m) + (d &&& m)
    rw [dg_and (h d (List.mem_cons_self ..)) hm, ih (fun q hq => h q (List.mem_cons_of_mem _ hq))]
theorem vl_s1 : ∀ l : List Nat, (∀ d ∈ l, d < 256) → (vl_ l / 2) &&& vl_ (l.map fun _ => 85) = vl_ (l.map fun d => (d / 2) &&& 85) := by
  intro l
  induction l with
  | nil => intro _; rfl
  | cons d l ih =>
    intro h
    have hd := h d (List.mem_cons_self ..)
    show ((256 * vl_ l + d) / 2) &&& (256 * vl_ (l.map fun _ => 85) + 85) = 256 * vl_ (l.map fun d => (d / 2) &&& 85) + ((d / 2) &&& 85)
    have e : (256 * vl_ l + d) / 2 = 256 * (vl_ l / 2) + (128 * (vl_ l % 2) + d / 2) := by omega
    rw [e, dg_and (by omega) (by decide), ih (fun q hq => h q (List.mem_cons_of_mem _ hq))]
    rcases (by omega : vl_ l % 2 = 0 ∨ vl_ l % 2 = 1) with q | q
    · rw [q, Nat.mul_zero, Nat.zero_add]
    · rw [q, Nat.mul_one, pc_55 _ (by omega)]
theorem vl_s2 : ∀ l : List Nat, (∀ d ∈ l, d < 256) → (vl_ l / 4) &&& vl_ (l.map fun _ => 51) = vl_ (l.map fun d => (d / 4) &&& 51) := by
  intro l
  induction l with
  | nil => intro _; rfl
  | cons d l ih =>
    intro h
    have hd := h d (List.mem_cons_self ..)
    show ((256 * vl_ l + d) / 4) &&& (256 * vl_ (l.map fun _ => 51) + 51) = 256 * vl_ (l.map fun d => (d / 4) &&& 51) + ((d / 4) &&& 51)
    have e : (256 * vl_ l + d) / 4 = 256 * (vl_ l / 4) + (64 * (vl_ l % 4) + d / 4) := by omega
    rw [e, dg_and (by omega) (by decide), ih (fun q hq => h q (List.mem_cons_of_mem _ hq)), pc_33 (vl_ l % 4) (by omega) (d / 4) (by omega)]
theorem vl_sub (g : Nat → Nat) : ∀ l : List Nat, (∀ d ∈ l, g d ≤ d) → vl_ (l.map g) ≤ vl_ l ∧ vl_ l - vl_ (l.map g) = vl_ (l.map fun d => d - g d) := by
  intro l
  induction l with
  | nil => intro _; exact ⟨Nat.le_refl 0, rfl⟩
  | cons d l ih =>
    intro h
    have hd := h d (List.mem_cons_self ..)
    obtain ⟨i1, i2⟩ := ih (fun q hq => h q (List.mem_cons_of_mem _ hq))
    show 256 * vl_ (l.map g) + g d ≤ 256 * vl_ l + d ∧ 256 * vl_ l + d - (256 * vl_ (l.map g) + g d) = 256 * vl_ (l.map fun d => d - g d) + (d - g d)
    omega
theorem vl_add (f g : Nat → Nat) : ∀ l : List Nat, vl_ (l.map f) + vl_ (l.map g) = vl_ (l.map fun d => f d + g d) := by
  intro l
  induction l with
  | nil => rfl
  | cons d l ih =>
    show 256 * vl_ (l.map f) + f d + (256 * vl_ (l.map g) + g d) = 256 * vl_ (l.map fun d => f d + g d) + (f d + g d)
    omega
theorem and_15 (e : Nat) : e &&& 15 = e % 16 := Nat.and_two_pow_sub_one_eq_mod e 4
theorem vl_s4 : ∀ l : List Nat, (∀ d ∈ l, d % 16 ≤ 4 ∧ d / 16 ≤ 4) → vl_ l % 16 ≤ 4 ∧ (vl_ l + vl_ l / 16) &&& vl_ (l.map fun _ => 15) = vl_ (l.map pc_3) := by
  intro l
  induction l with
  | nil => intro _; exact ⟨Nat.zero_le _, rfl⟩
  | cons d l ih =>
    intro h
    obtain ⟨h1, h2⟩ := h d (List.mem_cons_self ..)
    obtain ⟨i1, i2⟩ := ih (fun q hq => h q (List.mem_cons_of_mem _ hq))
    constructor
    · show (256 * vl_ l + d) % 16 ≤ 4
      omega
    · show (256 * vl_ l + d + (256 * vl_ l + d) / 16) &&& (256 * vl_ (l.map fun _ => 15) + 15) = 256 * vl_ (l.map pc_3) + (d % 16 + d / 16)
      have e : 256 * vl_ l + d + (256 * vl_ l + d) / 16 = 256 * (vl_ l + vl_ l / 16) + (d + 16 * (vl_ l % 16) + d / 16) := by omega
      rw [e, dg_and (by omega) (by decide), i2, and_15]
      omega
theorem nl_e {α β : Type} {e : α} {k : α → β} {o : β} (h : nl e k = o) : ∃ v, v = e ∧ k v = o := ⟨e, rfl, h⟩
theorem bv_add (a b : Int64) : (a + b).toBitVec.toNat = (a.toBitVec.toNat + b.toBitVec.toNat) % 18446744073709551616 := BitVec.toNat_add a.toBitVec b.toBitVec
theorem bv_and (a b : Int64) : (a &&& b).toBitVec.toNat = a.toBitVec.toNat &&& b.toBitVec.toNat := BitVec.toNat_and a.toBitVec b.toBitVec
theorem bv_sub (a b : Int64) : (a - b).toBitVec.toNat = (18446744073709551616 - b.toBitVec.toNat + a.toBitVec.toNat) % 18446744073709551616 := BitVec.toNat_sub a.toBitVec b.toBitVec
theorem bv_shr (x : Int64) {t : Int32} {k : Nat} (h : t.toInt = (k : Int)) (hk : k < 64) : (((x).toUInt64 >>> (((t).toInt64).toUInt64 &&& Int64.toUInt64 63)).toInt64).toBitVec.toNat = x.toBitVec.toNat / 2 ^ k := by
  rw [ush_b h hk x, BitVec.toNat_ushiftRight, Nat.shiftRight_eq_div_pow]
def n8_ (a0 a1 a2 a3 a4 a5 a6 a7 : Nat) : Nat := 256 * (256 * (256 * (256 * (256 * (256 * (256 * (256 * 0 + a7) + a6) + a5) + a4) + a3) + a2) + a1) + a0
theorem n8_div {a0 a1 a2 a3 a4 a5 a6 a7 : Nat} (h : a0 < 256) : n8_ a0 a1 a2 a3 a4 a5 a6 a7 / 256 = n8_ a1 a2 a3 a4 a5 a6 a7 0 := by
  unfold n8_
  omega
theorem n8_add {a0 a1 a2 a3 a4 a5 a6 a7 b0 b1 b2 b3 b4 b5 b6 b7 : Nat} : n8_ a0 a1 a2 a3 a4 a5 a6 a7 + n8_ b0 b1 b2 b3 b4 b5 b6 b7 = n8_ (a0 + b0) (a1 + b1) (a2 + b2) (a3 + b3) (a4 + b4) (a5 + b5) (a6 + b6) (a7 + b7) := by
  unfold n8_
  omega
theorem n8_lt {a0 a1 a2 a3 a4 a5 a6 a7 : Nat} (h0 : a0 < 256) (h1 : a1 < 256) (h2 : a2 < 256) (h3 : a3 < 256) (h4 : a4 < 256) (h5 : a5 < 256) (h6 : a6 < 256) (h7 : a7 < 256) : n8_ a0 a1 a2 a3 a4 a5 a6 a7 < 18446744073709551616 := by
  unfold n8_
  omega
theorem n8_mod {a0 a1 a2 a3 a4 a5 a6 a7 : Nat} (h : a0 < 128) : n8_ a0 a1 a2 a3 a4 a5 a6 a7 % 128 = a0 := by
  unfold n8_
  omega
def dg_s : Nat → Nat → List Nat
  | 0, _ => []
  | n + 1, X => X % 256 :: dg_s n (X / 256)
def pc_r : Nat → Nat → Nat
  | 0, _ => 0
  | n + 1, X => pc_8 (X % 256) + pc_r n (X / 256)
theorem dg_v : ∀ n X : Nat, X < 256 ^ n → vl_ (dg_s n X) = X := by
  intro n
  induction n with
  | zero => intro X h; show 0 = X; rw [Nat.pow_zero] at h; omega
  | succ n ih =>
    intro X h
    show 256 * vl_ (dg_s n (X / 256)) + X % 256 = X
    rw [ih (X / 256) (by rw [Nat.pow_succ] at h; omega)]
    omega
theorem dg_l : ∀ n X : Nat, ∀ d ∈ dg_s n X, d < 256 := by
  intro n
  induction n with
  | zero => intro X d h; exact absurd h (List.not_mem_nil)
  | succ n ih =>
    intro X d h
    rcases List.mem_cons.mp h with h | h
    · omega
    · exact ih _ d h
theorem vl_68 : ∀ l : List Nat, (∀ d ∈ l, d ≤ 68) → 255 * vl_ l + 68 ≤ 68 * 256 ^ l.length := by
  intro l
  induction l with
  | nil => intro _; exact Nat.le_refl _
  | cons d l ih =>
    intro h
    have hd := h d (List.mem_cons_self ..)
    have i := ih (fun q hq => h q (List.mem_cons_of_mem _ hq))
    show 255 * (256 * vl_ l + d) + 68 ≤ 68 * 256 ^ (l.length + 1)
    rw [Nat.pow_succ]
    omega
def pc_N (X : Nat) : Nat := pc_r 8 X
theorem dv_16 (V : Nat) : V / 2 ^ 16 = V / 256 / 256 := by rw [Nat.div_div_eq_div_mul]
theorem dv_32 (V : Nat) : V / 2 ^ 32 = V / 256 / 256 / 256 / 256 := by rw [Nat.div_div_eq_div_mul, Nat.div_div_eq_div_mul, Nat.div_div_eq_div_mul]
theorem pc_sum {p0 p1 p2 p3 p4 p5 p6 p7 : Nat} (h0 : p0 ≤ 8) (h1 : p1 ≤ 8) (h2 : p2 ≤ 8) (h3 : p3 ≤ 8) (h4 : p4 ≤ 8) (h5 : p5 ≤ 8) (h6 : p6 ≤ 8) (h7 : p7 ≤ 8) : ∀ {V3 V4 V5 V6 : Nat}, V3 = n8_ p0 p1 p2 p3 p4 p5 p6 p7 → V4 = (V3 + V3 / 2 ^ 8) % 18446744073709551616 → V5 = (V4 + V4 / 2 ^ 16) % 18446744073709551616 → V6 = (V5 + V5 / 2 ^ 32) % 18446744073709551616 → V6 % 128 = p0 + (p1 + (p2 + (p3 + (p4 + (p5 + (p6 + (p7 + 0))))))) := by
  have k0 : p0 < 256 := by omega
  have a0 : p0 + p1 < 256 := by omega
  have a1 : p1 + p2 < 256 := by omega
  have a2 : p2 + p3 < 256 := by omega
  have a3 : p3 + p4 < 256 := by omega
  have a4 : p4 + p5 < 256 := by omega
  have a5 : p5 + p6 < 256 := by omega
  have a6 : p6 + p7 < 256 := by omega
  have a7 : p7 + 0 < 256 := by omega
  have b0 : (p0 + p1) + (p2 + p3) < 256 := by omega
  have b1 : (p1 + p2) + (p3 + p4) < 256 := by omega
  have b2 : (p2 + p3) + (p4 + p5) < 256 := by omega
  have b3 : (p3 + p4) + (p5 + p6) < 256 := by omega
  have b4 : (p4 + p5) + (p6 + p7) < 256 := by omega
  have b5 : (p5 + p6) + (p7 + 0) < 256 := by omega
  have b6 : (p6 + p7) + 0 < 256 := by omega
  have b7 : (p7 + 0) + 0 < 256 := by omega
  have c0 : ((p0 + p1) + (p2 + p3)) + ((p4 + p5) + (p6 + p7)) < 256 := by omega
  have c1 : ((p1 + p2) + (p3 + p4)) + ((p5 + p6) + (p7 + 0)) < 256 := by omega
  have c2 : ((p2 + p3) + (p4 + p5)) + ((p6 + p7) + 0) < 256 := by omega
  have c3 : ((p3 + p4) + (p5 + p6)) + ((p7 + 0) + 0) < 256 := by omega
  have c4 : ((p4 + p5) + (p6 + p7)) + 0 < 256 := by omega
  have c5 : ((p5 + p6) + (p7 + 0)) + 0 < 256 := by omega
  have c6 : ((p6 + p7) + 0) + 0 < 256 := by omega
  have c7 : ((p7 + 0) + 0) + 0 < 256 := by omega
  have c9 : ((p0 + p1) + (p2 + p3)) + ((p4 + p5) + (p6 + p7)) < 128 := by omega
  have e9 : ((p0 + p1) + (p2 + p3)) + ((p4 + p5) + (p6 + p7)) = p0 + (p1 + (p2 + (p3 + (p4 + (p5 + (p6 + (p7 + 0))))))) := by omega
  intro V3 V4 V5 V6 e3 e4 e5 e6
  have f3 : V3 / 2 ^ 8 = n8_ p1 p2 p3 p4 p5 p6 p7 0 := by
    rw [e3]
    exact n8_div k0
  have f4 : V4 = n8_ (p0 + p1) (p1 + p2) (p2 + p3) (p3 + p4) (p4 + p5) (p5 + p6) (p6 + p7) (p7 + 0) := by
    rw [e4, f3, e3, n8_add]
    exact Nat.mod_eq_of_lt (n8_lt a0 a1 a2 a3 a4 a5 a6 a7)
  have g4 : V4 / 2 ^ 16 = n8_ (p2 + p3) (p3 + p4) (p4 + p5) (p5 + p6) (p6 + p7) (p7 + 0) 0 0 := by
    rw [dv_16, f4, n8_div a0, n8_div a1]
  have f5 : V5 = n8_ ((p0 + p1) + (p2 + p3)) ((p1 + p2) + (p3 + p4)) ((p2 + p3) + (p4 + p5)) ((p3 + p4) + (p5 + p6)) ((p4 + p5) + (p6 + p7)) ((p5 + p6) + (p7 + 0)) ((p6 + p7) + 0) ((p7 + 0) + 0) := by
    rw [e5, g4, f4, n8_add]
    exact Nat.mod_eq_of_lt (n8_lt b0 b1 b2 b3 b4 b5 b6 b7)
  have g5 : V5 / 2 ^ 32 = n8_ ((p4 + p5) + (p6 + p7)) ((p5 + p6) + (p7 + 0)) ((p6 + p7) + 0) ((p7 + 0) + 0) 0 0 0 0 := by
    rw [dv_32, f5, n8_div b0, n8_div b1, n8_div b2, n8_div b3]
  have f6 : V6 = n8_ (((p0 + p1) + (p2 + p3)) + ((p4 + p5) + (p6 + p7))) (((p1 + p2) + (p3 + p4)) + ((p5 + p6) + (p7 + 0))) (((p2 + p3) + (p4 + p5)) + ((p6 + p7) + 0)) (((p3 + p4) + (p5 + p6)) + ((p7 + 0) + 0)) (((p4 + p5) + (p6 + p7)) + 0) (((p5 + p6) + (p7 + 0)) + 0) (((p6 + p7) + 0) + 0) (((p7 + 0) + 0) + 0) := by
    rw [e6, g5, f5, n8_add]
    exact Nat.mod_eq_of_lt (n8_lt c0 c1 c2 c3 c4 c5 c6 c7)
  rw [f6, ← e9]
  exact n8_mod c9
theorem and_127 (e : Nat) : e &&& 127 = e % 128 := Nat.and_two_pow_sub_one_eq_mod e 7
set_option maxHeartbeats 1000000 in
theorem bitc {x : Int64} {r : Int32} (h : f_Long_bitCount x = some r) : r = Int32.ofNat (pc_N x.toBitVec.toNat) := by
  obtain ⟨X, eX⟩ : ∃ X, X = x.toBitVec.toNat := ⟨_, rfl⟩
  have hX : X < 18446744073709551616 := by rw [eX]; exact x.toBitVec.isLt
  rw [← eX]
  unfold f_Long_bitCount at h
  obtain ⟨v1, e1, h⟩ := nl_e h
  obtain ⟨v2, e2, h⟩ := nl_e h
  obtain ⟨v3, e3, h⟩ := nl_e h
  obtain ⟨v4, e4, h⟩ := nl_e h
  obtain ⟨v5, e5, h⟩ := nl_e h
  obtain ⟨v6, e6, h⟩ := nl_e h
  have h := Option.some.inj h
  have hv : vl_ (dg_s 8 X) = X := dg_v 8 X (by have q : (256 : Nat) ^ 8 = 18446744073709551616 := by decide +kernel
                                               rw [q]; exact hX)
  have hd : ∀ d ∈ dg_s 8 X, d < 256 := dg_l 8 X
  obtain ⟨d0, d1, d2, d3, d4, d5, d6, d7, el, eN⟩ : ∃ d0 d1 d2 d3 d4 d5 d6 d7, dg_s 8 X = [d0, d1, d2, d3, d4, d5, d6, d7] ∧ pc_N X = pc_8 d0 + (pc_8 d1 + (pc_8 d2 + (pc_8 d3 + (pc_8 d4 + (pc_8 d5 + (pc_8 d6 + (pc_8 d7 + 0))))))) := ⟨_, _, _, _, _, _, _, _, rfl, rfl⟩
  rw [el] at hv hd
  obtain ⟨l, em⟩ : ∃ l, l = [d0, d1, d2, d3, d4, d5, d6, d7] := ⟨_, rfl⟩
  rw [← em] at hv hd
  have m85 : vl_ (l.map fun _ => 85) = 6148914691236517205 := by
    rw [em]
    show vl_ [85, 85, 85, 85, 85, 85, 85, 85] = 6148914691236517205
    decide +kernel
  have C1 : (6148914691236517205 : Int64).toBitVec.toNat = 6148914691236517205 := by decide +kernel
  have C2 : (3689348814741910323 : Int64).toBitVec.toNat = 3689348814741910323 := by decide +kernel
  have C3 : (1085102592571150095 : Int64).toBitVec.toNat = 1085102592571150095 := by decide +kernel
  have n1 : v1.toBitVec.toNat = vl_ (l.map pc_1) := by
    obtain ⟨a1, a2⟩ := vl_sub (fun d => (d / 2) &&& 85) l (fun d hq => (pc_1t d (hd d hq)).1)
    have a3 := vl_s1 l hd
    rw [m85, hv] at a3
    rw [← a3, hv] at a1 a2
    rw [e1, bv_sub, bv_and, bv_shr x (t := 1) (k := 1) rfl (by decide), C1, ← eX]
    show (18446744073709551616 - (X / 2 &&& 6148914691236517205) + X) % 18446744073709551616 = vl_ (l.map fun d => d - ((d / 2) &&& 85))
    rw [← a2]
    generalize (X / 2 &&& 6148914691236517205) = B at a1 ⊢
    clear a2 a3
    omega
  have hd1 : ∀ d ∈ l.map pc_1, d < 256 := by
    intro d hq
    obtain ⟨q, hq1, e9⟩ := List.mem_map.mp hq
    rw [← e9]
    exact (pc_1t q (hd q hq1)).2
  have m51 : vl_ ((l.map pc_1).map fun _ => 51) = 3689348814741910323 := by
    rw [em]
    show vl_ [51, 51, 51, 51, 51, 51, 51, 51] = 3689348814741910323
    decide +kernel
  have hd2 : ∀ d ∈ (l.map pc_1).map pc_2, d % 16 ≤ 4 ∧ d / 16 ≤ 4 := by
    intro d hq
    obtain ⟨q, hq1, e9⟩ := List.mem_map.mp hq
    obtain ⟨q8, hq2, e8⟩ := List.mem_map.mp hq1
    rw [← e9, ← e8]
    exact ⟨(pc_2t q8 (hd q8 hq2)).1, (pc_2t q8 (hd q8 hq2)).2.1⟩
  have b2 : vl_ ((l.map pc_1).map pc_2) ≤ 4919131752989213764 := by
    have g := vl_68 ((l.map pc_1).map pc_2) (fun d hq => by have := hd2 d hq; omega)
    have ll : ((l.map pc_1).map pc_2).length = 8 := by rw [em]; rfl
    have q : (256 : Nat) ^ 8 = 18446744073709551616 := by decide +kernel
    rw [ll, q] at g
    omega
  have n2 : v2.toBitVec.toNat = vl_ ((l.map pc_1).map pc_2) := by
    have a1 := vl_and 51 (by decide) (l.map pc_1) hd1
    have a2 := vl_s2 (l.map pc_1) hd1
    rw [m51] at a1 a2
    have a3 := vl_add (fun d => d &&& 51) (fun d => (d / 4) &&& 51) (l.map pc_1)
    rw [← a1, ← a2] at a3
    rw [e2, bv_add, bv_and, bv_and, bv_shr v1 (t := 2) (k := 2) rfl (by decide), C2, n1]
    show (_ + (vl_ (l.map pc_1) / 4 &&& 3689348814741910323)) % 18446744073709551616 = _
    rw [a3]
    exact Nat.mod_eq_of_lt (Nat.lt_of_le_of_lt b2 (by decide))
  have m15 : vl_ (((l.map pc_1).map pc_2).map fun _ => 15) = 1085102592571150095 := by
    rw [em]
    show vl_ [15, 15, 15, 15, 15, 15, 15, 15] = 1085102592571150095
    decide +kernel
  have n3 : v3.toBitVec.toNat = vl_ (((l.map pc_1).map pc_2).map pc_3) := by
    obtain ⟨_, a2⟩ := vl_s4 ((l.map pc_1).map pc_2) hd2
    rw [m15] at a2
    rw [e3, bv_and, bv_add, bv_shr v2 (t := 4) (k := 4) rfl (by decide), C3, n2, ← a2]
    show (vl_ ((l.map pc_1).map pc_2) + vl_ ((l.map pc_1).map pc_2) / 16) % 18446744073709551616 &&& _ = _
    rw [Nat.mod_eq_of_lt (by
      generalize vl_ ((l.map pc_1).map pc_2) = B at b2 ⊢
      clear a2
      omega)]
  have n4 : v4.toBitVec.toNat = (v3.toBitVec.toNat + v3.toBitVec.toNat / 2 ^ 8) % 18446744073709551616 := by
    rw [e4, bv_add, bv_shr v3 (t := 8) (k := 8) rfl (by decide)]
  have n5 : v5.toBitVec.toNat = (v4.toBitVec.toNat + v4.toBitVec.toNat / 2 ^ 16) % 18446744073709551616 := by
    rw [e5, bv_add, bv_shr v4 (t := 16) (k := 16) rfl (by decide)]
  have n6 : v6.toBitVec.toNat = (v5.toBitVec.toNat + v5.toBitVec.toNat / 2 ^ 32) % 18446744073709551616 := by
    rw [e6, bv_add, bv_shr v5 (t := 32) (k := 32) rfl (by decide)]
  rw [em] at hd
  have t0 := pc_2t d0 (hd d0 (by simp))
  have t1 := pc_2t d1 (hd d1 (by simp))
  have t2 := pc_2t d2 (hd d2 (by simp))
  have t3 := pc_2t d3 (hd d3 (by simp))
  have t4 := pc_2t d4 (hd d4 (by simp))
  have t5 := pc_2t d5 (hd d5 (by simp))
  have t6 := pc_2t d6 (hd d6 (by simp))
  have t7 := pc_2t d7 (hd d7 (by simp))
  have n3 : v3.toBitVec.toNat = n8_ (pc_8 d0) (pc_8 d1) (pc_8 d2) (pc_8 d3) (pc_8 d4) (pc_8 d5) (pc_8 d6) (pc_8 d7) := by
    rw [n3, em, ← t0.2.2.1, ← t1.2.2.1, ← t2.2.2.1, ← t3.2.2.1, ← t4.2.2.1, ← t5.2.2.1, ← t6.2.2.1, ← t7.2.2.1]
    rfl
  have s6 := pc_sum t0.2.2.2 t1.2.2.2 t2.2.2.2 t3.2.2.2 t4.2.2.2 t5.2.2.2 t6.2.2.2 t7.2.2.2 n3 n4 n5 n6
  rw [← eN] at s6
  rw [← h]
  refine Int32.toBitVec_inj.mp (BitVec.eq_of_toNat_eq ?_)
  have l1 : (v6.toInt32 &&& (127 : Int32)).toBitVec.toNat = v6.toInt32.toBitVec.toNat &&& 127 := BitVec.toNat_and v6.toInt32.toBitVec (127#32)
  have l2 : v6.toInt32.toBitVec.toNat = v6.toBitVec.toNat % 4294967296 := by
    rw [Int64.toBitVec_toInt32, BitVec.signExtend_eq_setWidth_of_le _ (by decide), BitVec.toNat_setWidth]
  have l3 : (Int32.ofNat (pc_N X)).toBitVec.toNat = pc_N X % 4294967296 := BitVec.toNat_ofNat _ _
  rw [l1, l2, and_127, l3, ← s6]
  generalize v6.toBitVec.toNat = B
  clear s6
  omega
/-- the bits of a long, as samples -/
def bt_ (x : Int64) (j : Nat) : Int32 := if x.toBitVec.getLsbD j = true then 1 else 0
theorem bt_d (x : Int64) (j : Nat) : (if bt_ x j = 0 then 0 else 1) = x.toBitVec.toNat / 2 ^ j % 2 := by
  have e : x.toBitVec.getLsbD j = decide (x.toBitVec.toNat / 2 ^ j % 2 = 1) := by
    rw [← BitVec.testBit_toNat, Nat.testBit_eq_decide_div_mod_eq]
  by_cases c : x.toBitVec.toNat / 2 ^ j % 2 = 1
  · have b : bt_ x j = 1 := by
      unfold bt_
      rw [if_pos (by rw [e]; exact decide_eq_true c)]
    rw [b, if_neg (by decide), c]
  · have b : bt_ x j = 0 := by
      unfold bt_
      rw [if_neg (by rw [e]; exact fun z => c (of_decide_eq_true z))]
    rw [b, if_pos rfl]
    omega
theorem cn_8 (x : Int64) (a : Nat) : cnD (bt_ x) a 8 = pc_8 (x.toBitVec.toNat / 2 ^ a % 256) := by
  show 0 + (if bt_ x (a + 0) = 0 then 0 else 1) + (if bt_ x (a + 1) = 0 then 0 else 1) + (if bt_ x (a + 2) = 0 then 0 else 1) + (if bt_ x (a + 3) = 0 then 0 else 1) + (if bt_ x (a + 4) = 0 then 0 else 1) + (if bt_ x (a + 5) = 0 then 0 else 1) + (if bt_ x (a + 6) = 0 then 0 else 1) + (if bt_ x (a + 7) = 0 then 0 else 1) = _
  rw [bt_d, bt_d, bt_d, bt_d, bt_d, bt_d, bt_d, bt_d]
  simp only [Nat.pow_add, ← Nat.div_div_eq_div_mul]
  generalize x.toBitVec.toNat / 2 ^ a = Y
  unfold pc_8
  omega
theorem cn_r (x : Int64) : ∀ n a : Nat, cnD (bt_ x) a (8 * n) = pc_r n (x.toBitVec.toNat / 2 ^ a) := by
  intro n
  induction n with
  | zero => intro a; rfl
  | succ n ih =>
    intro a
    have e : 8 * (n + 1) = 8 + 8 * n := by omega
    rw [e, cnD_add, cn_8, ih]
    show pc_8 (x.toBitVec.toNat / 2 ^ a % 256) + pc_r n (x.toBitVec.toNat / 2 ^ (a + 8)) = pc_8 (x.toBitVec.toNat / 2 ^ a % 256) + pc_r n (x.toBitVec.toNat / 2 ^ a / 256)
    rw [Nat.pow_add, ← Nat.div_div_eq_div_mul]
theorem cn_64 (x : Int64) : cnD (bt_ x) 0 64 = pc_N x.toBitVec.toNat := by
  have q := cn_r x 8 0
  rw [Nat.pow_zero, Nat.div_one] at q
  exact q
theorem bx_cn {w h : Nat} {a b : Int64} (hw : w ≤ 8) (hh : h ≤ 8) (hX : BX w h a b) : cnD (bt_ a) 0 64 = cnD (bt_ b) 0 64 := by
  have pt : ∀ x v : Nat, x < w → v < h → bt_ a (v * w + x) = bt_ b (8 * v + x) := fun x v hx hv => by unfold bt_; rw [hX.1 x v hx hv]
  have za : ∀ j : Nat, w * h ≤ j → bt_ a j = 0 := fun j hj => by unfold bt_; rw [hX.2.1 j hj, if_neg (by decide)]
  have zb : ∀ x v : Nat, x < 8 → v < 8 → (w ≤ x ∨ h ≤ v) → bt_ b (8 * v + x) = 0 := fun x v hx hv ho => by unfold bt_; rw [hX.2.2 x v hx hv ho, if_neg (by decide)]
  have row : ∀ v : Nat, v ≤ h → cnD (bt_ a) 0 (v * w) = cnD (bt_ b) 0 (8 * v) := by
    intro v
    induction v with
    | zero => intro _; rw [Nat.zero_mul]; rfl
    | succ v ih =>
      intro hv
      rw [Nat.add_mul, Nat.one_mul, cnD_add, ih (by omega), Nat.zero_add]
      have e : 8 * (v + 1) = 8 * v + (w + (8 - w)) := by omega
      rw [e, cnD_add (bt_ b) 0, cnD_add (bt_ b) (0 + 8 * v), Nat.zero_add]
      have e1 : cnD (bt_ a) (v * w) w = cnD (bt_ b) (8 * v) w := cnD_eq _ (fun j hj => pt j v hj (by omega))
      have e2 : cnD (bt_ b) (8 * v + w) (8 - w) = 0 := cnD_0 _ (fun j hj => by
        rw [Nat.add_assoc]
        exact zb (w + j) v (by omega) (by omega) (Or.inl (by omega)))
      rw [e1, e2, Nat.add_zero]
  have wh := wh_le hw hh
  have ea : (64 : Nat) = h * w + (64 - w * h) := by rw [Nat.mul_comm h w]; omega
  have eb : (64 : Nat) = 8 * h + (64 - 8 * h) := by omega
  have l1 : cnD (bt_ a) 0 64 = cnD (bt_ a) 0 (h * w) := by
    rw [ea, cnD_add, Nat.zero_add]
    have z : cnD (bt_ a) (h * w) (64 - w * h) = 0 := cnD_0 _ (fun j _ => za _ (by rw [Nat.mul_comm h w]; omega))
    rw [z, Nat.add_zero]
  have l2 : cnD (bt_ b) 0 64 = cnD (bt_ b) 0 (8 * h) := by
    rw [eb, cnD_add, Nat.zero_add]
    have z : cnD (bt_ b) (8 * h) (64 - 8 * h) = 0 := cnD_0 _ (fun j hj => by
      have q : 8 * h + j = 8 * (h + j / 8) + j % 8 := by omega
      rw [q]
      exact zb (j % 8) (h + j / 8) (by omega) (by omega) (Or.inr (by omega)))
    rw [z, Nat.add_zero]
  rw [l1, l2, row h (Nat.le_refl _)]
theorem z_64 : (64 : Int32).toInt = 64 := rfl
theorem countP {s p : Int32} {df : Nat → Int64} {m : Int32 × Int32} (h : lp (f_Mo_place_L107 s p df) FU (0, 0) = some m) : m = (Int32.ofNat (cnD (bt_ (df p.toNatClampNeg)) 0 64), s) := by
  refine lp_one (F := f_Mo_place_L107 s p df) (fun t => 0 ≤ t.1.toInt ∧ t.1.toInt ≤ 64 ∧ t.2 = Int32.ofNat (cnD (bt_ (df p.toNatClampNeg)) 0 t.1.toNatClampNeg)) (fun a => a = (Int32.ofNat (cnD (bt_ (df p.toNatClampNeg)) 0 64), s)) ?_ FU (0, 0) ⟨p0_0, i0_l (by decide), rfl⟩ m h
  intro F hF t hI a ha
  obtain ⟨i, c⟩ := t
  obtain ⟨i0, i1, hc⟩ := hI
  dsimp only at i0 i1 hc
  have nn := nat_of (n := i) (Int32.le_iff_toInt_le.mpr (by rw [z_0]; exact i0))
  unfold f_Mo_place_L107 at ha
  dsimp only [nl, jn] at ha
  by_cases q : (64 : Int32) ≤ i
  · rw [if_pos q] at ha
    have q9 := t_le q
    rw [z_64] at q9
    have e : i.toNatClampNeg = 64 := by omega
    rw [← Option.some.inj ha, hc, e]
  · rw [if_neg q] at ha
    have q9 := t_lt (Int32.not_le.mp q)
    rw [z_64] at q9
    obtain ⟨_, ha⟩ := gq_e ha
    have ci := inc_i (k := i) (by omega) (by omega)
    have ni := nat_of (n := i + 1) (Int32.le_iff_toInt_le.mpr (by rw [z_0]; omega))
    have e : (i + 1).toNatClampNeg = i.toNatClampNeg + 1 := by omega
    have st : cnD (bt_ (df p.toNatClampNeg)) 0 (i + 1).toNatClampNeg = cnD (bt_ (df p.toNatClampNeg)) 0 i.toNatClampNeg + (if bt_ (df p.toNatClampNeg) i.toNatClampNeg = 0 then 0 else 1) := by
      rw [e]
      show cnD (bt_ (df p.toNatClampNeg)) 0 i.toNatClampNeg + (if bt_ (df p.toNatClampNeg) (0 + i.toNatClampNeg) = 0 then 0 else 1) = _
      rw [Nat.zero_add]
    have sb := sbit (d := df p.toNatClampNeg) (n := i) (k := i.toNatClampNeg) nn.symm (by omega)
    by_cases z : (df p.toNatClampNeg).toBitVec.getLsbD i.toNatClampNeg = true
    · have b1 : ¬ bt_ (df p.toNatClampNeg) i.toNatClampNeg = 0 := by unfold bt_; rw [if_pos z]; decide
      rw [if_pos (sb.mpr z)] at ha
      rw [if_neg b1] at st
      exact hF (i + 1, c + 1) ⟨by show 0 ≤ (i + 1).toInt; omega, by show (i + 1).toInt ≤ 64; omega, by show c + 1 = Int32.ofNat (cnD (bt_ (df p.toNatClampNeg)) 0 (i + 1).toNatClampNeg); rw [st, hc, of_1]⟩ a ha
    · have b1 : bt_ (df p.toNatClampNeg) i.toNatClampNeg = 0 := by unfold bt_; rw [if_neg z]
      rw [if_neg (fun q => z (sb.mp q))] at ha
      rw [if_pos b1] at st
      exact hF (i + 1, c) ⟨by show 0 ≤ (i + 1).toInt; omega, by show (i + 1).toInt ≤ 64; omega, by show c = Int32.ofNat (cnD (bt_ (df p.toNatClampNeg)) 0 (i + 1).toNatClampNeg); rw [st, hc, Nat.add_zero]⟩ a ha
theorem place_TM {dc n p1 p2 : Int32} {out : Nat → Int64} {w h W sO xs ys W9 sO9 xs9 ys9 : Nat → Int32} {df df9 : Nat → Int64} {o : Int32 × (Nat → Int64)} {m : Int32 × Int32} (hw : R w 0 8) (hh : R h 0 8) (hL : LR n dc w h W sO xs ys df W9 sO9 xs9 ys9 df9)
    (ha : f_Law_place out n sO xs ys W w h df p1 p2 = some o) (hb : f_Mo_place n df9 W9 ys9 h sO9 xs9 w p1 p2 = some m) : o.1 = m.2 ∧ (o.1 = 0 → o.2 ((0 : Int32)).toNatClampNeg = m.1.toInt64) := by
  have n0 := hL.1
  have n1 := hL.2.1
  unfold f_Law_place f_Top_place at ha
  unfold f_Mo_place at hb
  obtain ⟨x, hx, ha⟩ := bd_e ha
  obtain ⟨r, hr, hx⟩ := bd_e hx
  obtain ⟨s, hs, hb⟩ := bd_e hb
  have hr := hasL_e hr
  have hs := hasM_e hs
  have e := Option.some.inj (hr.symm.trans hs)
  subst e
  dsimp only [jn] at hb
  have good : ∀ v : Int32, x = .inr v → m = (v, 0) → o.1 = m.2 ∧ (o.1 = 0 → o.2 ((0 : Int32)).toNatClampNeg = m.1.toInt64) := by
    intro v ex em
    subst ex
    subst em
    dsimp only [nl] at ha
    obtain ⟨_, ha⟩ := gq_e ha
    rw [← Option.some.inj ha]
    refine ⟨rfl, fun _ => ?_⟩
    show vp_updL out ((0 : Int32)).toNatClampNeg v.toInt64 ((0 : Int32)).toNatClampNeg = v.toInt64
    exact out_0
  rcases within_t n0 (by omega) hr with ⟨e1, q0, q1⟩ | ⟨e1, q⟩
  · rw [if_neg (by rw [e1]; decide)] at hx hb
    first | rw [if_pos (by decide)] at hb | rw [if_pos trivial] at hb
    have es : sO p1.toNatClampNeg = sO9 p1.toNatClampNeg := px_at hL.2.2.2.1 q0 q1
    have ex : xs p1.toNatClampNeg = xs9 p1.toNatClampNeg := px_at hL.2.2.2.2.1 q0 q1
    have ey : ys p1.toNatClampNeg = ys9 p1.toNatClampNeg := px_at hL.2.2.2.2.2.1 q0 q1
    have hW := hL.2.2.1
    by_cases c0 : p2 = 0
    · rw [if_pos c0] at hx hb
      obtain ⟨_, hx⟩ := gq_e hx
      obtain ⟨_, hb⟩ := gq_e hb
      rw [es] at hx
      exact good _ (Option.some.inj hx).symm (Option.some.inj hb).symm
    · rw [if_neg c0] at hx hb
      by_cases c1 : p2 = 1
      · rw [if_pos c1] at hx hb
        obtain ⟨_, hx⟩ := gq_e hx
        obtain ⟨_, hb⟩ := gq_e hb
        rw [ex] at hx
        exact good _ (Option.some.inj hx).symm (Option.some.inj hb).symm
      · rw [if_neg c1] at hx hb
        by_cases c2 : p2 = 2
        · rw [if_pos c2] at hx hb
          obtain ⟨_, hx⟩ := gq_e hx
          obtain ⟨_, hb⟩ := gq_e hb
          rw [ey] at hx
          exact good _ (Option.some.inj hx).symm (Option.some.inj hb).symm
        · rw [if_neg c2] at hx hb
          by_cases c3 : p2 = 3
          · rw [if_pos c3] at hx hb
            obtain ⟨a, h1, hx⟩ := bd_e hx
            obtain ⟨b, h2, hb⟩ := bd_e hb
            have e := cs2 hW es ex ey h1 h2
            subst e
            exact good _ (Option.some.inj hx).symm (Option.some.inj hb).symm
          · rw [if_neg c3] at hx hb
            by_cases c4 : p2 = 4
            · rw [if_pos c4] at hx hb
              obtain ⟨a, h1, hx⟩ := bd_e hx
              obtain ⟨b, h2, hb⟩ := bd_e hb
              have e := ct2 hW es ex ey h1 h2
              subst e
              exact good _ (Option.some.inj hx).symm (Option.some.inj hb).symm
            · rw [if_neg c4] at hx hb
              by_cases c5 : p2 = 5
              · rw [if_pos c5] at hx hb
                obtain ⟨a, h1, hx⟩ := bd_e hx
                obtain ⟨b, h2, hb⟩ := bd_e hb
                have e := strip2 hW es ex ey h1 h2
                subst e
                exact good _ (Option.some.inj hx).symm (Option.some.inj hb).symm
              · rw [if_neg c5] at hx hb
                by_cases c6 : p2 = 6
                · rw [if_pos c6] at hx hb
                  obtain ⟨_, hx⟩ := gq_e hx
                  obtain ⟨a, h1, hx⟩ := bd_e hx
                  have h2 := countP hb
                  have h3 := bitc h1
                  have np := nat_of (n := p1) (Int32.le_iff_toInt_le.mpr (by rw [z_0]; exact q0))
                  have hX := hL.2.2.2.2.2.2.1 p1.toNatClampNeg (by omega)
                  have e := bx_cn (cl8 hw _) (cl8 hh _) hX
                  rw [cn_64] at e
                  rw [← e, ← h3] at h2
                  exact good _ (Option.some.inj hx).symm h2
                · rw [if_neg c6] at hx hb
                  exact good _ (Option.some.inj hx).symm (Option.some.inj hb).symm
  · rw [if_pos e1] at hx hb
    first | rw [if_neg (by decide)] at hb | rw [if_neg id] at hb
    have hx := Option.some.inj hx
    subst hx
    try dsimp only [nl] at ha
    first | rw [if_pos rfl] at ha | rw [if_pos trivial] at ha
    rw [← Option.some.inj ha, ← Option.some.inj hb]
    exact ⟨rfl, fun z => by first | exact no1 z | exact no2 z | exact no3 z⟩
