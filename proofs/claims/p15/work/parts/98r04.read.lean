/-! DRAFT: reading, in step -/
theorem lp_x {σ ρ : Type} {F : (σ → Option ρ) → σ → Option ρ} {n : Nat} {s : σ} {o : Option ρ} (h : lp F (n + 1) s = o) : ∃ g, g = lp F n ∧ F g s = o := ⟨_, rfl, h⟩
theorem lpx0 {σ ρ : Type} {F : (σ → Option ρ) → σ → Option ρ} {s : σ} {o : Option ρ} (h : lp F FU s = o) : ∃ g, g = lp F 99999 ∧ F g s = o := ⟨_, rfl, h⟩
theorem lpx1 {σ ρ : Type} {F : (σ → Option ρ) → σ → Option ρ} {s : σ} {o : Option ρ} (h : lp F 99999 s = o) : ∃ g, g = lp F 99998 ∧ F g s = o := ⟨_, rfl, h⟩
theorem lpx2 {σ ρ : Type} {F : (σ → Option ρ) → σ → Option ρ} {s : σ} {o : Option ρ} (h : lp F 99998 s = o) : ∃ g, g = lp F 99997 ∧ F g s = o := ⟨_, rfl, h⟩
theorem lpx3 {σ ρ : Type} {F : (σ → Option ρ) → σ → Option ρ} {s : σ} {o : Option ρ} (h : lp F 99997 s = o) : ∃ g, g = lp F 99996 ∧ F g s = o := ⟨_, rfl, h⟩
theorem lpx4 {σ ρ : Type} {F : (σ → Option ρ) → σ → Option ρ} {s : σ} {o : Option ρ} (h : lp F 99996 s = o) : ∃ g, g = lp F 99995 ∧ F g s = o := ⟨_, rfl, h⟩
theorem p0_0 : 0 ≤ (0 : Int32).toInt := by decide
theorem i0_l {x : Int} (h : 0 ≤ x) : (0 : Int32).toInt ≤ x := h
theorem n8 : ¬ (8 : Int32) = 0 := by decide
theorem p8_0 : 0 ≤ (8 : Int32).toInt := by decide
/-- the bytes that came: the same below the count -/
def RB (n : Int32) (cb i9 : Nat → Int32) : Prop := 0 ≤ n.toInt ∧ n.toInt ≤ 2000 ∧ PX n cb i9
def RP (n p r : Int32) : Prop := 0 ≤ p.toInt ∧ p.toInt ≤ 8 * n.toInt ∧ 0 ≤ r.toInt
theorem some3 {α β γ : Type} {a x : α} {b y : β} {c z : γ} (h : some (a, b, c) = some (x, y, z)) : x = a ∧ y = b ∧ z = c := by
  obtain ⟨e1, e2⟩ := Prod.mk.inj (Option.some.inj h)
  obtain ⟨e3, e4⟩ := Prod.mk.inj e2
  exact ⟨e1.symm, e3.symm, e4.symm⟩
theorem pos_nz {r : Int32} (h0 : 0 ≤ r.toInt) (h : ¬ r = 0) : ¬ r ≤ 0 := fun q => by
  have := t_le q
  rw [z_0] at this
  exact h (zero_t.mpr (by omega))
theorem one_nz : ¬ (1 : Int32) = 0 := by decide
theorem next2 {n p r b p1 r1 b9 p9 r9 : Int32} {cb i9 : Nat → Int32} (hB : RB n cb i9) (hP : RP n p r) (ha : f_BitReader_nextBit p r n cb = some (b, p1, r1)) (hb : f_Mo_next n p r i9 = some (b9, p9, r9)) :
    b9 = b ∧ p9 = p1 ∧ r9 = r1 ∧ RP n p1 r1 ∧ (b = 0 ∨ b = 1) ∧ (¬ r = 0 → b = 0 ∧ p1 = p ∧ r1 = r) ∧ (r1 = 0 → r = 0) ∧ (¬ r1 = 0 → b = 0) := by
  obtain ⟨n0, n1, hX⟩ := hB
  obtain ⟨p0, p8, r0⟩ := hP
  have d8 := div8 p0
  have nq := nat_of (n := p / 8) (Int32.le_iff_toInt_le.mpr (by rw [z_0, d8]; omega))
  have m8 : ((8 : Int32) * n).toInt = 8 * n.toInt := i_mul z_8 rfl (by omega) (by omega)
  unfold f_BitReader_nextBit at ha
  unfold f_Mo_next at hb
  simp only [jn, nl] at ha hb
  by_cases c : r = 0
  · rw [if_pos c] at ha hb
    by_cases d : p / 8 < n
    · rw [if_pos d] at ha
      have d9 := t_lt d
      have ne : ¬ p = (8 : Int32) * n := fun q => by
        rw [q] at d8 d9
        omega
      rw [if_neg ne, if_pos (by rw [c]; exact Int32.le_refl _)] at hb
      obtain ⟨_, ha⟩ := gq_e ha
      obtain ⟨_, hb⟩ := gq_e hb
      rw [← hX (p / 8).toNatClampNeg (by omega)] at hb
      obtain ⟨e1, e2, e3⟩ := some3 ha
      obtain ⟨e4, e5, e6⟩ := some3 hb
      subst e1 e2 e3 e4 e5 e6
      have pi := inc_i (k := p) (by omega) (by omega)
      refine ⟨rfl, rfl, rfl, ⟨by omega, by omega, r0⟩, and1 _, fun q => absurd c q, fun q => q, fun q => absurd c q⟩
    · rw [if_neg d] at ha
      have d9 := t_le (Int32.not_lt.mp d)
      have eq : p = (8 : Int32) * n := Int32.toInt_inj.mp (by rw [m8]; omega)
      rw [if_pos eq] at hb
      obtain ⟨x, hx, hb⟩ := bd_e hb
      unfold f_Mo_refuse at hx
      rw [if_pos c] at hx
      have hx := Option.some.inj hx
      subst hx
      rw [if_neg (by decide)] at hb
      obtain ⟨e1, e2, e3⟩ := some3 ha
      obtain ⟨e4, e5, e6⟩ := some3 hb
      subst e1 e2 e3 e4 e5 e6
      exact ⟨rfl, rfl, rfl, ⟨p0, p8, by decide⟩, Or.inl rfl, fun q => absurd c q, fun q => absurd q one_nz, fun _ => rfl⟩
  · rw [if_neg c] at ha hb
    rw [if_neg (pos_nz r0 c)] at hb
    obtain ⟨e1, e2, e3⟩ := some3 ha
    obtain ⟨e4, e5, e6⟩ := some3 hb
    subst e1 e2 e3 e4 e5 e6
    exact ⟨rfl, rfl, rfl, ⟨p0, p8, r0⟩, Or.inl rfl, fun _ => ⟨rfl, rfl, rfl⟩, fun q => q, fun _ => rfl⟩
/-- v shifted and a bit: 2 v + bit -/
theorem sh1 {v b : Int32} (hb : b = 0 ∨ b = 1) : (v <<< ((1 : Int32) &&& 31)) ||| b = (2 : Int32) * v + b := by
  apply Int32.toBitVec_inj.mp
  have e1 : ((v <<< ((1 : Int32) &&& 31)) ||| b).toBitVec = (v.toBitVec <<< 1) ||| b.toBitVec := rfl
  have e2 : ((2 : Int32) * v + b).toBitVec = 2#32 * v.toBitVec + b.toBitVec := rfl
  rw [e1, e2]
  generalize v.toBitVec = x
  have h2 : 2#32 * x = x <<< 1 := by
    apply BitVec.eq_of_toNat_eq
    rw [BitVec.toNat_mul, BitVec.toNat_shiftLeft, Nat.shiftLeft_eq]
    show (2 * x.toNat) % 2 ^ 32 = (x.toNat * 2 ^ 1) % 2 ^ 32
    congr 1
    omega
  rw [h2]
  rcases hb with e | e
  · subst e
    show x <<< 1 ||| 0#32 = x <<< 1 + 0#32
    rw [BitVec.or_zero, BitVec.add_zero]
  · subst e
    show x <<< 1 ||| 1#32 = x <<< 1 + 1#32
    symm
    apply BitVec.add_eq_or_of_and_eq_zero
    apply BitVec.eq_of_toNat_eq
    rw [BitVec.toNat_and, BitVec.toNat_shiftLeft, Nat.shiftLeft_eq]
    show (x.toNat * 2 ^ 1) % 2 ^ 32 &&& 1 = 0
    rw [Nat.and_one_is_mod]
    omega
/-- where a reader stands after a step: the same place and refusal; a refusal stays -/
def RS (n p r p1 r1 p9 r9 : Int32) : Prop := p9 = p1 ∧ r9 = r1 ∧ RP n p1 r1 ∧ (¬ r = 0 → p1 = p ∧ r1 = r) ∧ (r1 = 0 → r = 0)
theorem rs_t {n p r p1 r1 p2 r2 p8 r8 p9 r9 : Int32} (h1 : RS n p r p1 r1 p8 r8) (h2 : RS n p1 r1 p2 r2 p9 r9) : RS n p r p2 r2 p9 r9 := by
  obtain ⟨_, _, _, a4, a5⟩ := h1
  obtain ⟨b1, b2, b3, b4, b5⟩ := h2
  refine ⟨b1, b2, b3, fun q => ?_, fun q => a5 (b5 q)⟩
  obtain ⟨c1, c2⟩ := a4 q
  obtain ⟨d1, d2⟩ := b4 (by rw [c2]; exact q)
  exact ⟨d1.trans c1, d2.trans c2⟩
theorem rs_0 {n p r : Int32} (h : RP n p r) : RS n p r p r p r := ⟨rfl, rfl, h, fun _ => ⟨rfl, rfl⟩, fun q => q⟩
theorem next_S {n p r b p1 r1 b9 p9 r9 : Int32} {cb i9 : Nat → Int32} (hB : RB n cb i9) (hP : RP n p r) (ha : f_BitReader_nextBit p r n cb = some (b, p1, r1)) (hb : f_Mo_next n p r i9 = some (b9, p9, r9)) :
    RS n p r p1 r1 p9 r9 ∧ b9 = b ∧ (b = 0 ∨ b = 1) ∧ (¬ r1 = 0 → b = 0) := by
  obtain ⟨a1, a2, a3, a4, a5, a6, a7, a8⟩ := next2 hB hP ha hb
  exact ⟨⟨a2, a3, a4, fun q => (a6 q).2, a7⟩, a1, a5, a8⟩
theorem low2 {n p r k v p1 r1 v9 p9 r9 : Int32} {cb i9 : Nat → Int32} (hB : RB n cb i9) (hP : RP n p r) (ha : f_BitReader_nextBits p r n cb k = some (v, p1, r1)) (hb : f_Mo_nextLow n p r i9 k = some (v9, p9, r9)) :
    RS n p r p1 r1 p9 r9 ∧ v9 = v := by
  unfold f_BitReader_nextBits at ha
  unfold f_Mo_nextLow at hb
  refine lp_two (fun (s t : Int32 × Int32 × Int32 × Int32) => s.1 = t.1 ∧ s.2.1 = t.2.1 ∧ RS n p r s.2.2.1 s.2.2.2 t.2.2.1 t.2.2.2) (fun (a b : Int32 × Int32 × Int32) => RS n p r a.2.1 a.2.2 b.2.1 b.2.2 ∧ b.1 = a.1) ?_ _ _ _ _ ?_ _ _ ha hb
  · intro f g hfg s t hI a b ha hb
    obtain ⟨i, v, q, u⟩ := s
    obtain ⟨i9, v9, q9, u9⟩ := t
    dsimp only at hI
    obtain ⟨e1, e2, hS⟩ := hI
    subst e1 e2
    have hS9 := hS
    obtain ⟨e3, e4, hP1, _, _⟩ := hS
    subst e3 e4
    unfold f_BitReader_nextBits_L4 at ha
    unfold f_Mo_nextLow_L4 at hb
    dsimp only at ha hb
    by_cases c : k ≤ i
    · rw [if_pos c] at ha hb
      rw [← Option.some.inj ha, ← Option.some.inj hb]
      exact ⟨hS9, rfl⟩
    · rw [if_neg c] at ha hb
      obtain ⟨x, hx, ha⟩ := bd_e ha
      obtain ⟨y, hy, hb⟩ := bd_e hb
      obtain ⟨x1, x2, x3⟩ := x
      obtain ⟨y1, y2, y3⟩ := y
      obtain ⟨hS2, e5, e6, _⟩ := next_S hB hP1 hx hy
      subst e5
      refine hfg _ _ ?_ a b ha hb
      exact ⟨rfl, sh1 e6, rs_t hS9 hS2⟩
  · exact ⟨rfl, rfl, rs_0 hP⟩
theorem next_k {n p r : Int32} {cb : Nat → Int32} {o : Int32 × Int32 × Int32} (h : ¬ r = 0) (ha : f_BitReader_nextBit p r n cb = some o) : o = (0, p, r) := by
  unfold f_BitReader_nextBit at ha
  rw [if_neg h] at ha
  exact (Option.some.inj ha).symm
theorem ref_k {r w o : Int32} (h : ¬ r = 0) (ha : f_BitReader_refuse r w = some o) : r = o := by
  unfold f_BitReader_refuse at ha
  rw [if_neg h] at ha
  exact Option.some.inj ha
theorem ref_0 {r w o : Int32} (h : r = 0) (ha : f_BitReader_refuse r w = some o) : o = w := by
  unfold f_BitReader_refuse at ha
  rw [if_pos h] at ha
  exact (Option.some.inj ha).symm
theorem ref_s (r w : Int32) : f_Mo_refuse r w = f_BitReader_refuse r w := rfl
theorem nextM_k {n p r : Int32} {i9 : Nat → Int32} {o : Int32 × Int32 × Int32} (h : ¬ r ≤ 0) (hb : f_Mo_next n p r i9 = some o) : o = (0, p, r) := by
  unfold f_Mo_next at hb
  simp only [jn, nl] at hb
  rw [if_neg (fun z => h (by rw [z]; exact Int32.le_refl _)), if_neg h] at hb
  exact (Option.some.inj hb).symm
theorem lowM_k {n p r k v p1 r1 : Int32} {i9 : Nat → Int32} (h : ¬ r ≤ 0) (hb : f_Mo_nextLow n p r i9 k = some (v, p1, r1)) : True ∧ p = p1 ∧ r = r1 := by
  have key : ∀ (N : Nat) (i w : Int32) (o : Int32 × Int32 × Int32), lp (f_Mo_nextLow_L4 k n i9) N (i, w, p, r) = some o → p = o.2.1 ∧ r = o.2.2 := by
    intro N
    induction N with
    | zero => intro i w o q; exact absurd q (by simp [lp])
    | succ N ih =>
      intro i w o q
      obtain ⟨gx, egx, q⟩ := lp_x q
      unfold f_Mo_nextLow_L4 at q
      dsimp only at q
      by_cases c : k ≤ i
      · rw [if_pos c] at q
        rw [← Option.some.inj q]
        exact ⟨rfl, rfl⟩
      · rw [if_neg c] at q
        obtain ⟨x, hx, q⟩ := bd_e q
        have := nextM_k h hx
        subst this
        rw [egx] at q
        exact ih _ _ _ q
  unfold f_Mo_nextLow at hb
  exact ⟨trivial, key FU _ _ _ hb⟩
/-- a refused reader's number -/
theorem num_k {n : Int32} {cb : Nat → Int32} : ∀ (N : Nat) (k p r : Int32) (a : Int32 × Int32 × Int32), ¬ r = 0 → lp (f_BitReader_nextNumber_L2 n cb
    (fun (v1_4 : Int32) (rd_place_5 : Int32) (rd_refusal_6 : Int32) =>
      if v1_4 ≤ (12 : Int32) then
        lp (f_BitReader_nextNumber_L39 v1_4 n cb) FU ((0 : Int32), (1 : Int32), rd_place_5, rd_refusal_6)
      else
        bd (f_BitReader_refuse rd_refusal_6 (8 : Int32)) fun rd_refusal_20 =>
        some ((0 : Int32), rd_place_5, rd_refusal_20))) N (k, p, r) = some a → a = (0, p, r) := by
  intro N
  induction N with
  | zero => intro k p r a _ h; exact absurd h (by simp [lp])
  | succ N ih =>
    intro k p r a hr h
    obtain ⟨gx, egx, h⟩ := lp_x h
    unfold f_BitReader_nextNumber_L2 at h
    dsimp only at h
    by_cases c : 12 < k
    · rw [if_pos c, if_neg (Int32.not_le.mpr c)] at h
      obtain ⟨x, hx, h⟩ := bd_e h
      have := ref_k hr hx
      subst this
      exact (Option.some.inj h).symm
    · rw [if_neg c] at h
      obtain ⟨x, hx, h⟩ := bd_e h
      have := next_k hr hx
      subst this
      dsimp only at h
      rw [if_pos rfl] at h
      rw [egx] at h
      exact ih _ _ _ _ hr h
set_option maxHeartbeats 1000000 in
theorem num2 {n p r v p1 r1 v9 p9 r9 : Int32} {cb i9 : Nat → Int32} (hB : RB n cb i9) (hP : RP n p r) (ha : f_BitReader_nextNumber p r n cb = some (v, p1, r1)) (hb : f_Mo_nextNumber n p r i9 = some (v9, p9, r9)) :
    RS n p r p1 r1 p9 r9 ∧ (r1 = 0 → v9 = v) := by
  have main : ∀ (N M : Nat) (k q u : Int32) (a b : Int32 × Int32 × Int32), 0 ≤ k.toInt → k.toInt ≤ 12 → RP n q u →
      lp (f_BitReader_nextNumber_L2 n cb
        (fun (v1_4 : Int32) (rd_place_5 : Int32) (rd_refusal_6 : Int32) =>
          if v1_4 ≤ (12 : Int32) then
            lp (f_BitReader_nextNumber_L39 v1_4 n cb) FU ((0 : Int32), (1 : Int32), rd_place_5, rd_refusal_6)
          else
            bd (f_BitReader_refuse rd_refusal_6 (8 : Int32)) fun rd_refusal_20 =>
            some ((0 : Int32), rd_place_5, rd_refusal_20))) N (k, q, u) = some a →
      (bd (f_Mo_next n q u i9) fun (r_1, mo_at_2, mo_refused_3) =>
        lp (f_Mo_nextNumber_L7 n i9
          (fun (v1_8 : Int32) (mo_at_9 : Int32) (mo_refused_10 : Int32) =>
            bd (f_Mo_nextLow n mo_at_9 mo_refused_10 i9 v1_8) fun (r_16, mo_at_17, mo_refused_18) =>
            nl ((((1 : Int32) <<< (v1_8 &&& 31)) + r_16) - (1 : Int32)) fun v3_19 =>
            if mo_refused_18 ≤ 0 then
              some (v3_19, mo_at_17, mo_refused_18)
            else
              some ((0 : Int32), mo_at_17, mo_refused_18))) M (r_1, k, mo_at_2, mo_refused_3)) = some b →
      RS n q u a.2.1 a.2.2 b.2.1 b.2.2 ∧ (a.2.2 = 0 → b.1 = a.1) := by
    intro N
    induction N with
    | zero => intro M k q u a b _ _ _ h; exact absurd h (by simp [lp])
    | succ N ih =>
      intro M k q u a b k0 k1 hQ ha hb
      obtain ⟨gx, egx, ha⟩ := lp_x ha
      unfold f_BitReader_nextNumber_L2 at ha
      dsimp only at ha
      have k12 : ¬ (12 : Int32) < k := fun z => by
        have := t_lt z
        have z12 : (12 : Int32).toInt = 12 := rfl
        omega
      rw [if_neg k12] at ha
      obtain ⟨x, hx, ha⟩ := bd_e ha
      obtain ⟨y, hy, hb⟩ := bd_e hb
      obtain ⟨x1, x2, x3⟩ := x
      obtain ⟨y1, y2, y3⟩ := y
      obtain ⟨hS, e1, e2, e3⟩ := next_S hB hQ hx hy
      have hS9 := hS
      obtain ⟨e4, e5, hP1, _, _⟩ := hS
      subst e1 e4 e5
      dsimp only at ha hb
      have ki := inc_i (k := k) (by omega) (by omega)
      cases M with
      | zero => exact absurd hb (by simp [lp])
      | succ M =>
        obtain ⟨gy, egy, hb⟩ := lp_x hb
        unfold f_Mo_nextNumber_L7 at hb
        dsimp only at hb
        by_cases c : y1 = 0
        · rw [if_pos c] at ha
          simp only [nl] at ha
          rw [egx] at ha
          by_cases d : y3 = 0
          · rw [if_pos d, if_pos c] at hb
            simp only [nl] at hb
            by_cases m : k + 1 ≤ 12
            · rw [if_pos m] at hb
              have m9 := t_le m
              have z12 : (12 : Int32).toInt = 12 := rfl
              rw [egy] at hb
              obtain ⟨g1, g2⟩ := ih M (k + 1) y2 y3 a b (by omega) (by omega) hP1 ha hb
              exact ⟨rs_t hS9 g1, g2⟩
            · rw [if_neg m] at hb
              obtain ⟨w, hw, hb⟩ := bd_e hb
              rw [ref_s] at hw
              have := ref_0 d hw
              subst this
              rw [egy] at hb
              cases M with
              | zero => exact absurd hb (by simp [lp])
              | succ M =>
                obtain ⟨gz, egz, hb⟩ := lp_x hb
                unfold f_Mo_nextNumber_L7 at hb
                dsimp only at hb
                rw [if_neg (by decide)] at hb
                obtain ⟨l, hl, hb⟩ := bd_e hb
                obtain ⟨l1, l2, l3⟩ := l
                cases N with
                | zero => exact absurd ha (by simp [lp])
                | succ N =>
                  obtain ⟨gw, egw, ha⟩ := lp_x ha
                  unfold f_BitReader_nextNumber_L2 at ha
                  dsimp only at ha
                  rw [if_pos (Int32.not_le.mp m), if_neg m] at ha
                  obtain ⟨o, ho, ha⟩ := bd_e ha
                  have := ref_0 d ho
                  subst this
                  have ha := Option.some.inj ha
                  subst ha
                  obtain ⟨f1, f2, f3⟩ := lowM_k (by decide) hl
                  subst f2 f3
                  simp only [nl] at hb
                  rw [if_neg (by decide)] at hb
                  have hb := Option.some.inj hb
                  subst hb
                  obtain ⟨h1, h2, h3, h4, h5⟩ := hS9
                  exact ⟨⟨rfl, rfl, ⟨h3.1, h3.2.1, p8_0⟩, fun z => absurd (h5 d) z, fun z => absurd z n8⟩, fun z => absurd z n8⟩
          · rw [if_neg d] at hb
            have := num_k N _ _ _ _ d ha
            subst this
            obtain ⟨l, hl, hb⟩ := bd_e hb
            obtain ⟨l1, l2, l3⟩ := l
            obtain ⟨f1, f2, f3⟩ := lowM_k (pos_nz hP1.2.2 d) hl
            subst f2 f3
            simp only [nl] at hb
            rw [if_neg (pos_nz hP1.2.2 d)] at hb
            have hb := Option.some.inj hb
            subst hb
            exact ⟨hS9, fun z => absurd z d⟩
        · have d : y3 = 0 := by
            by_cases z : y3 = 0
            · exact z
            · exact absurd (e3 z) c
          rw [if_neg c] at ha
          rw [if_pos d, if_neg c] at hb
          have m : k ≤ 12 := Int32.not_lt.mp k12
          rw [if_pos m] at ha
          obtain ⟨l, hl, hb⟩ := bd_e hb
          obtain ⟨l1, l2, l3⟩ := l
          unfold f_Mo_nextLow at hl
          have key := lp_two (fun (s t : Int32 × Int32 × Int32 × Int32) => s.1 = t.1 ∧ 0 ≤ s.1.toInt ∧ s.1.toInt ≤ k.toInt ∧ s.2.1 = pw s.1 + t.2.1 ∧ RS n y2 y3 s.2.2.1 s.2.2.2 t.2.2.1 t.2.2.2) (fun (a b : Int32 × Int32 × Int32) => RS n y2 y3 a.2.1 a.2.2 b.2.1 b.2.2 ∧ a.1 = pw k + b.1 - 1) (by
            intro f g hfg s t hI a b ha hb
            obtain ⟨i, v, q, u⟩ := s
            obtain ⟨i9, v9, q9, u9⟩ := t
            dsimp only at hI
            obtain ⟨e1, i0, i1, e2, hS⟩ := hI
            subst e1 e2
            have hS8 := hS
            obtain ⟨e3, e4, hP2, _, _⟩ := hS
            subst e3 e4
            unfold f_BitReader_nextNumber_L39 at ha
            unfold f_Mo_nextLow_L4 at hb
            dsimp only at ha hb
            by_cases c : k ≤ i
            · rw [if_pos c] at ha hb
              have ei : i = k := Int32.le_antisymm (Int32.le_iff_toInt_le.mpr i1) c
              rw [← Option.some.inj ha, ← Option.some.inj hb, ei]
              exact ⟨hS8, rfl⟩
            · rw [if_neg c] at ha hb
              obtain ⟨x, hx, ha⟩ := bd_e ha
              obtain ⟨y, hy, hb⟩ := bd_e hb
              obtain ⟨x1, x2, x3⟩ := x
              obtain ⟨y1, y2, y3⟩ := y
              obtain ⟨hS2, e5, e6, _⟩ := next_S hB hP2 hx hy
              subst e5
              refine hfg _ _ ?_ a b ha hb
              have ii := inc_i (k := i) (by omega) (by omega)
              have ik := t_lt (Int32.not_le.mp c)
              have ps := (pw_s i (Int32.le_iff_toInt_le.mpr (by rw [z_0]; exact i0)) (Int32.le_iff_toInt_le.mpr (by show i.toInt ≤ 13; omega))).1
              refine ⟨rfl, by show 0 ≤ (i + 1).toInt; omega, by show (i + 1).toInt ≤ k.toInt; omega, ?_, rs_t hS8 hS2⟩
              show (pw i + v9) <<< ((1 : Int32) &&& 31) ||| y1 = pw (i + 1) + ((2 : Int32) * v9 + y1)
              rw [sh1 e6, ps]
              grind) FU FU ((0 : Int32), (1 : Int32), y2, y3) ((0 : Int32), (0 : Int32), y2, y3) ⟨rfl, p0_0, k0, by show (1 : Int32) = pw 0 + 0; decide, rs_0 hP1⟩ _ _ ha hl
          obtain ⟨g1, g2⟩ := key
          obtain ⟨a1, a2, a3⟩ := a
          dsimp only at g1 g2 hb
          have g9 := g1
          obtain ⟨f1, f2, f3, f4, f5⟩ := g1
          subst f1 f2
          simp only [nl] at hb
          by_cases w : l3 = 0
          · rw [if_pos (by rw [w]; exact Int32.le_refl _)] at hb
            have hb := Option.some.inj hb
            subst hb
            refine ⟨rs_t hS9 g9, fun _ => ?_⟩
            have sp := (shl_pw k (Int32.le_iff_toInt_le.mpr (by rw [z_0]; exact k0)) (Int32.le_iff_toInt_le.mpr (by show k.toInt ≤ 13; omega))).1
            show (1 : Int32) <<< (k &&& 31) + l1 - 1 = a1
            rw [sp, g2]
          · rw [if_neg (pos_nz f3.2.2 w)] at hb
            have hb := Option.some.inj hb
            subst hb
            exact ⟨rs_t hS9 g9, fun z => absurd z w⟩
  unfold f_BitReader_nextNumber at ha
  unfold f_Mo_nextNumber at hb
  exact main FU FU 0 p r _ _ (by decide) (by decide) hP ha hb
theorem signed2 {n p r v p1 r1 v9 p9 r9 : Int32} {cb i9 : Nat → Int32} (hB : RB n cb i9) (hP : RP n p r) (ha : f_BitReader_nextSigned p r n cb = some (v, p1, r1)) (hb : f_Mo_nextSigned n p r i9 = some (v9, p9, r9)) :
    RS n p r p1 r1 p9 r9 ∧ (r1 = 0 → v9 = v) := by
  unfold f_BitReader_nextSigned at ha
  unfold f_Mo_nextSigned at hb
  obtain ⟨x, hx, ha⟩ := bd_e ha
  obtain ⟨y, hy, hb⟩ := bd_e hb
  obtain ⟨x1, x2, x3⟩ := x
  obtain ⟨y1, y2, y3⟩ := y
  obtain ⟨hS, hv⟩ := num2 hB hP hx hy
  dsimp only at ha hb
  have ea : p1 = x2 ∧ r1 = x3 := by
    by_cases c : (x1 - x1 / (2 : Int32) * (2 : Int32)) = 0
    · rw [if_pos c] at ha; exact (some3 ha).2
    · rw [if_neg c] at ha; exact (some3 ha).2
  have eb : p9 = y2 ∧ r9 = y3 := by
    by_cases c : (y1 - y1 / (2 : Int32) * (2 : Int32)) = 0
    · rw [if_pos c] at hb; exact (some3 hb).2
    · rw [if_neg c] at hb; exact (some3 hb).2
  obtain ⟨ea1, ea2⟩ := ea
  obtain ⟨eb1, eb2⟩ := eb
  subst ea1 ea2 eb1 eb2
  refine ⟨hS, fun q => ?_⟩
  have e := hv q
  subst e
  by_cases c : (y1 - y1 / (2 : Int32) * (2 : Int32)) = 0
  · rw [if_pos c] at ha hb
    exact ((some3 hb).1).trans ((some3 ha).1).symm
  · rw [if_neg c] at ha hb
    exact ((some3 hb).1).trans ((some3 ha).1).symm
