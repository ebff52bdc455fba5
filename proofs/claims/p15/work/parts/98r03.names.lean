/-! DRAFT: names, in step -/
theorem same_front (r : Nat → Int32) (p : Int32) : f_FrontNames_toFront r p = f_Mo_toFront r p := rfl
theorem same_begin (r : Nat → Int32) : f_FrontNames_putByNumber r = f_Mo_beginRow r := rfl
theorem signed_TL {kp T0 p c tc c9 c8 : Int32} {B0 O0 b o o8 : Nat → Int32} {c1 tc1 : Int32} {b1 : Nat → Int32} (hT : TL kp T0 B0 O0 c tc b c9 o) (p0 : -63 ≤ p.toInt) (p1 : p.toInt ≤ 63) (ha : f_BitWriter_tellSigned kp c tc b p = some (c1, tc1, b1)) (hb : f_Mo_signed c9 kp o p = some (c8, o8)) : TL kp T0 B0 O0 c1 tc1 b1 c8 o8 := by
  unfold f_BitWriter_tellSigned at ha
  unfold f_Mo_signed at hb
  simp only [jn] at ha hb
  have z2 : (2 : Int32).toInt = 2 := rfl
  have zm2 : (-2 : Int32).toInt = -2 := rfl
  by_cases q : p < 0
  · have q9 := ltz.mp q
    have e1 := i_mul (a := -2) (b := p) zm2 rfl (by omega) (by omega)
    have e2 : ((-2 : Int32) * p - 1).toInt = -2 * p.toInt - 1 := by rw [yb (by rw [e1, z_1]; omega) (by rw [e1, z_1]; omega), e1, z_1]
    rw [if_pos q] at ha hb
    obtain ⟨x, hx, ha⟩ := bd_e ha
    obtain ⟨y, hy, hb⟩ := bd_e hb
    obtain ⟨x1, x2, x3⟩ := x
    obtain ⟨y1, y2⟩ := y
    have ha := Option.some.inj ha
    have hb := Option.some.inj hb
    obtain ⟨f1, f2⟩ := Prod.mk.inj ha
    obtain ⟨f3, f4⟩ := Prod.mk.inj f2
    obtain ⟨f5, f6⟩ := Prod.mk.inj hb
    subst f1
    subst f3
    subst f4
    subst f5
    subst f6
    exact number_TL hT (by rw [e2]; omega) (by rw [e2]; omega) hx hy
  · have q9 : ¬ p.toInt < 0 := fun z => q (ltz.mpr z)
    have e1 := i_mul (a := 2) (b := p) z2 rfl (by omega) (by omega)
    rw [if_neg q] at ha hb
    obtain ⟨x, hx, ha⟩ := bd_e ha
    obtain ⟨y, hy, hb⟩ := bd_e hb
    obtain ⟨x1, x2, x3⟩ := x
    obtain ⟨y1, y2⟩ := y
    have ha := Option.some.inj ha
    have hb := Option.some.inj hb
    obtain ⟨f1, f2⟩ := Prod.mk.inj ha
    obtain ⟨f3, f4⟩ := Prod.mk.inj f2
    obtain ⟨f5, f6⟩ := Prod.mk.inj hb
    subst f1
    subst f3
    subst f4
    subst f5
    subst f6
    exact number_TL hT (by rw [e1]; omega) (by rw [e1]; omega) hx hy
theorem nameF_TL {kp T0 p n c tc c9 c8 : Int32} {B0 O0 b o o8 r r8 cd le : Nat → Int32} {c1 tc1 : Int32} {b1 r1 : Nat → Int32} (hT : TL kp T0 B0 O0 c tc b c9 o) (n1 : n.toInt ≤ 16) (hs : ∃ j : Nat, (j : Int) < n.toInt ∧ r j = p) (ha : f_FrontNames_tellName kp c n r tc b p = some (c1, r1, tc1, b1)) (hb : f_Mo_name 1 c9 kp r o cd le p = some (c8, r8, o8)) : TL kp T0 B0 O0 c1 tc1 b1 c8 o8 ∧ r1 = r8 := by
  obtain ⟨j, hj, ej⟩ := hs
  unfold f_FrontNames_tellName at ha
  unfold f_Mo_name at hb
  rw [if_neg (by decide)] at hb
  refine lp_two (fun (s t : Int32) => s = t ∧ 0 ≤ s.toInt ∧ s.toInt ≤ j) (fun (a : Int32 × (Nat → Int32) × Int32 × (Nat → Int32)) (d : Int32 × (Nat → Int32) × (Nat → Int32)) => TL kp T0 B0 O0 a.1 a.2.2.1 a.2.2.2 d.1 d.2.2 ∧ a.2.1 = d.2.1) ?_ _ _ _ _ ?_ _ _ ha hb
  · intro f g hfg k t hI a d ha hb
    obtain ⟨e, k0, k1⟩ := hI
    subst e
    have nk := nat_of (n := k) (Int32.le_iff_toInt_le.mpr (by rw [z_0]; exact k0))
    unfold f_FrontNames_tellName_L2 at ha
    unfold f_Mo_name_L26 at hb
    obtain ⟨_, hb⟩ := gq_e hb
    have fin : ∀ a d, (bd (f_BitWriter_tellNumber kp c tc b k) fun (wr_count_4, tb_count_5, tb_bytes_6) => bd (f_FrontNames_toFront r k) fun na_row_7 => some (wr_count_4, na_row_7, tb_count_5, tb_bytes_6)) = some a → (bd (f_Mo_number c9 kp o k) fun (mo_told_4, mo_out_5) => bd (f_Mo_toFront r k) fun mo_row_6 => some (mo_told_4, mo_row_6, mo_out_5)) = some d → (TL kp T0 B0 O0 a.1 a.2.2.1 a.2.2.2 d.1 d.2.2 ∧ a.2.1 = d.2.1) := by
      intro a d ha hb
      obtain ⟨x, hx, ha⟩ := bd_e ha
      obtain ⟨y, hy, hb⟩ := bd_e hb
      obtain ⟨x1, x2, x3⟩ := x
      obtain ⟨y1, y2⟩ := y
      obtain ⟨u, hu, ha⟩ := bd_e ha
      obtain ⟨w, hw, hb⟩ := bd_e hb
      rw [same_front] at hu
      have e : u = w := Option.some.inj (hu.symm.trans hw)
      subst e
      have ha := Option.some.inj ha
      have hb := Option.some.inj hb
      subst ha
      subst hb
      exact ⟨number_TL hT k0 (by omega) hx hy, rfl⟩
    by_cases z : r k.toNatClampNeg = p
    · rw [if_pos z] at hb
      by_cases y : n - 1 ≤ k
      · rw [if_pos y] at ha
        exact fin a d ha hb
      · rw [if_neg y] at ha
        obtain ⟨_, ha⟩ := gq_e ha
        rw [if_pos z] at ha
        exact fin a d ha hb
    · rw [if_neg z] at hb
      have kj : k.toInt < j := by
        by_cases q : k.toInt = j
        · exfalso
          apply z
          have : k.toNatClampNeg = j := by omega
          rw [this]
          exact ej
        · omega
      have y : ¬ n - 1 ≤ k := fun q => by
        have := t_le q
        rw [yb (a := n) (b := 1) (by rw [z_1]; omega) (by rw [z_1]; omega), z_1] at this
        omega
      rw [if_neg y] at ha
      obtain ⟨_, ha⟩ := gq_e ha
      rw [if_neg z] at ha
      have ki := inc_i (k := k) (by omega) (by omega)
      exact hfg _ _ ⟨rfl, by omega, by omega⟩ a d ha hb
  · exact ⟨rfl, by decide, by show (0 : Int) ≤ j; omega⟩
