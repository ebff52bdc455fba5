set_option maxHeartbeats 4000000 in
theorem tins_F {n dc kp T0 c tc c9 : Int32} {B0 O0 b o W sO xs ys seq W9 sO9 xs9 ys9 ord w h row cd le wt us ov rowC : Nat → Int32} {df df9 : Nat → Int64} {Rs : Int32 × Int32 × (Nat → Int32) × (Nat → Int32)} {out : Int32 × Int32 × (Nat → Int32) × (Nat → Int32) × (Nat → Int32) × (Nat → Int32) × (Nat → Int32) × (Nat → Int32) × (Nat → Int32) × (Nat → Int32)}
    (hL : LR n dc w h W sO xs ys df W9 sO9 xs9 ys9 df9) (hM : MR W9 ys9 h sO9 xs9 w) (hE : EN n seq ord) (hS : SD n (stv W9 ys9 h sO9 xs9 w) ord) (hd : dc.toInt ≤ 16) (hRE : RE rowC row) (hR : RW dc row) (hT : TL kp T0 B0 O0 c tc b c9 o)
    (ha : f_Teller_tellInstances_F n W seq sO xs dc w ys h kp c tc b rowC df = some Rs) (hb : lp (f_Mo_tellAll_L118 n kp ord cd le wt us ov W9 ys9 h sO9 xs9 w 1 df9) FU (0, 0, 0, c9, o, row) = some out) : TL kp T0 B0 O0 Rs.1 Rs.2.1 Rs.2.2.1 out.1 out.2.2.2.1 := by
  obtain ⟨n0, n1, hW, es, ex, ey, hX, hSO⟩ := hL
  obtain ⟨w0, w1, w2, w3, wt1⟩ := wy_e hW
  have rh : R h 0 8 := hM.2.2.1
  have rw8 : R w 0 8 := hM.2.2.2.2.2
  have rW7 : R W9 0 7 := hM.1
  have lg := rW7 ((2 : Int32)).toNatClampNeg
  have lg0 := t_le lg.1
  have lg1 := t_le lg.2
  rw [z_0] at lg0
  have z7 : (7 : Int32).toInt = 7 := rfl
  rw [z7] at lg1
  unfold f_Teller_tellInstances_F at ha
  obtain ⟨_, ha⟩ := gq_e ha
  simp only [nl] at ha
  have at9 : ∀ k : Int32, 0 ≤ k.toInt → k.toInt < n.toInt → seq k.toNatClampNeg = ord k.toNatClampNeg ∧ 0 ≤ (ord k.toNatClampNeg).toInt ∧ (ord k.toNatClampNeg).toInt < n.toInt := fun k k0 k1 => hE _ (by rw [nat_of (Int32.le_iff_toInt_le.mpr (by rw [z_0]; exact k0))]; exact k1)
  refine lp_two (fun (s : Int32 × Int32 × Int32 × Int32 × Int32 × Int32 × (Nat → Int32) × (Nat → Int32)) (t : Int32 × Int32 × Int32 × Int32 × (Nat → Int32) × (Nat → Int32)) => s.1 = t.1 ∧ 0 ≤ s.1.toInt ∧ s.1.toInt ≤ n.toInt ∧ RE s.2.2.2.2.2.2.2 t.2.2.2.2.2 ∧ RW dc t.2.2.2.2.2 ∧ s.2.2.1 = t.2.1 ∧ -9 ≤ t.2.1.toInt ∧ t.2.1.toInt ≤ 38 ∧
      ((s.1 = 0 ∧ s.2.2.2.1 = -17 ∧ t.2.1 = 0 ∧ TL kp T0 B0 O0 s.2.2.2.2.1 s.2.2.2.2.2.1 s.2.2.2.2.2.2.1 t.2.2.2.1 t.2.2.2.2.1) ∨
       (0 < s.1.toInt ∧ s.2.2.2.1 = t.2.2.1 ∧ f_Mo_stripOf W9 ys9 h sO9 xs9 w (ord (s.1 - 1).toNatClampNeg) = some t.2.2.1 ∧ (∃ sp, f_Mo_sOf W9 xs9 w sO9 ys9 h (ord (s.1 - 1).toNatClampNeg) = some sp ∧ s.2.1 = NX W9 w h sO9 (ord (s.1 - 1).toNatClampNeg) sp) ∧
        ((s.1.toInt < n.toInt ∧ f_Mo_stripOf W9 ys9 h sO9 xs9 w (ord s.1.toNatClampNeg) = some t.2.2.1 ∧ TL kp T0 B0 O0 s.2.2.2.2.1 s.2.2.2.2.2.1 s.2.2.2.2.2.2.1 t.2.2.2.1 t.2.2.2.2.1) ∨
         ((s.1.toInt = n.toInt ∨ ∃ r, f_Mo_stripOf W9 ys9 h sO9 xs9 w (ord s.1.toNatClampNeg) = some r ∧ ¬ r = t.2.2.1) ∧ ∃ (c7 : Int32) (o7 : Nat → Int32), TL kp T0 B0 O0 s.2.2.2.2.1 s.2.2.2.2.2.1 s.2.2.2.2.2.2.1 c7 o7 ∧ f_Mo_bit c7 kp o7 0 = some (t.2.2.2.1, t.2.2.2.2.1))))))
    (fun (a : Int32 × Int32 × (Nat → Int32) × (Nat → Int32)) (d : Int32 × Int32 × (Nat → Int32) × (Nat → Int32) × (Nat → Int32) × (Nat → Int32) × (Nat → Int32) × (Nat → Int32) × (Nat → Int32) × (Nat → Int32)) => TL kp T0 B0 O0 a.1 a.2.1 a.2.2.1 d.1 d.2.2.2.1) ?_ _ _ _ _ ?_ Rs out ha hb
  · intro f g hfg s t hI a d ha hb
    obtain ⟨k, ns, fs, st, c, tc, b, rowC⟩ := s
    obtain ⟨k9, fs9, st9, c9, o, row⟩ := t
    dsimp only at hI
    obtain ⟨ek, k0, k1, eR, hR, ef, f0, f1, hC⟩ := hI
    subst ek ef
    unfold f_Teller_tellInstances_F_L19 at ha
    unfold f_Mo_tellAll_L118 at hb
    dsimp only at ha hb
    have kn := nat_of (n := k) (Int32.le_iff_toInt_le.mpr (by rw [z_0]; exact k0))
    by_cases cn : n ≤ k
    · rw [if_pos cn] at ha hb
      have cn9 := t_le cn
      rw [← Option.some.inj hb]
      by_cases c0 : n ≤ 0
      · rw [if_pos c0] at ha
        have c09 := t_le c0
        rw [z_0] at c09
        rw [← Option.some.inj ha]
        rcases hC with ⟨_, _, _, hT⟩ | ⟨q, _⟩
        · exact hT
        · omega
      · rw [if_neg c0] at ha
        have c09 := t_lt (Int32.not_le.mp c0)
        rw [z_0] at c09
        obtain ⟨x, hx, ha⟩ := bd_e ha
        obtain ⟨x1, x2, x3⟩ := x
        rw [← Option.some.inj ha]
        rcases hC with ⟨q, _⟩ | ⟨_, _, _, _, hP⟩
        · rw [q, z_0] at cn9; omega
        · rcases hP with ⟨q, _⟩ | ⟨_, c7, o7, hT7, hb7⟩
          · omega
          · exact bit_TL hT7 (Or.inl rfl) hx hb7
    · rw [if_neg cn] at ha hb
      have cn9 := t_lt (Int32.not_le.mp cn)
      obtain ⟨ei, i0, i1⟩ := at9 k k0 cn9
      obtain ⟨_, ha⟩ := gq_e ha
      obtain ⟨_, hb⟩ := gq_e hb
      simp only [nl] at ha hb
      rw [ei] at ha
      have ordR : ∀ q : Int32, q = ord k.toNatClampNeg → 0 ≤ q.toInt ∧ q.toInt < n.toInt := fun q e => by rw [e]; exact ⟨i0, i1⟩
      generalize hi : ord k.toNatClampNeg = i at ha hb i0 i1 ei
      have iN := nat_of (n := i) (Int32.le_iff_toInt_le.mpr (by rw [z_0]; exact i0))
      have esi := px_at es i0 i1
      have exi := px_at ex i0 i1
      have eyi := px_at ey i0 i1
      obtain ⟨_, ha⟩ := gq_e ha
      obtain ⟨s, hs, ha⟩ := bd_e ha
      obtain ⟨t, ht, ha⟩ := bd_e ha
      obtain ⟨own, hown, hb⟩ := bd_e hb
      obtain ⟨t9, ht9, eown⟩ := strip_t hown
      have et := ct2 hW esi exi eyi ht ht9
      subst et
      rw [w2, ← eown] at ha
      have ownR := strip_r hM i0 (by omega) hown
      have ki := inc_i (k := k) (by omega) (by omega)
      have k1n : (k + 1 - 1).toNatClampNeg = k.toNatClampNeg := by
        congr 1
        exact Int32.add_sub_cancel k 1
      obtain ⟨j1, ej1, ha⟩ := jn_e ha
      obtain ⟨j2, ej2, hb⟩ := jn_e hb
      have fin : ∀ (u1 u2 u3 : Int32) (u4 : Nat → Int32) (u5 : Int32) (u6 : Nat → Int32), TL kp T0 B0 O0 u2 u3 u4 u5 u6 → -9 ≤ u1.toInt → u1.toInt ≤ 38 → j1 u1 own u2 u3 u4 = some a → j2 u1 own u5 u6 = some d → TL kp T0 B0 O0 a.1 a.2.1 a.2.2.1 d.1 d.2.2.2.1 := by
        intro u1 u2 u3 u4 u5 u6 hT q0 q1 ha hb
        rw [ej1] at ha
        rw [ej2] at hb
        obtain ⟨x, hx, ha⟩ := bd_e ha
        obtain ⟨y, hy, hb⟩ := bd_e hb
        have ey9 := Option.some.inj (ht9.symm.trans hy)
        subst ey9
        obtain ⟨_, hb⟩ := gq_e hb
        obtain ⟨_, hb⟩ := gq_e hb
        obtain ⟨z, hz, hb⟩ := bd_e hb
        obtain ⟨x1, x2, x3⟩ := x
        obtain ⟨z1, z2⟩ := z
        have hT1 := bits_TL hT lg0 (by omega) hx hz
        dsimp only at ha hb
        obtain ⟨x, hx, ha⟩ := bd_e ha
        obtain ⟨_, hb⟩ := gq_e hb
        obtain ⟨z, hz, hb⟩ := bd_e hb
        obtain ⟨x1, x8, x2, x3⟩ := x
        obtain ⟨z3, z4, z5⟩ := z
        rw [esi] at hx
        have sm := hSO i.toNatClampNeg (by omega)
        obtain ⟨hT2, eR1⟩ := nameF_TL2 hT1 hd eR (hR.2 _ sm.1 sm.2) hx hz
        have hR1 : RW dc z4 := name_RW hd hR sm.1 sm.2 hz
        dsimp only at ha hb
        obtain ⟨_, ha⟩ := gq_e ha
        obtain ⟨_, hb⟩ := gq_e hb
        obtain ⟨sc, hsc, ha⟩ := bd_e ha
        unfold f_Dictionary_sampleCount at hsc
        obtain ⟨_, hsc⟩ := gq_e hsc
        obtain ⟨_, hsc⟩ := gq_e hsc
        have hsc := Option.some.inj hsc
        rw [esi] at hsc
        obtain ⟨x, hx, ha⟩ := bd_e ha
        obtain ⟨x4, x5, x6⟩ := x
        obtain ⟨nn, hnn, ha⟩ := bd_e ha
        obtain ⟨sp, hsp⟩ : ∃ sp, f_Mo_sOf W9 xs9 w sO9 ys9 h i = some sp := by
          obtain ⟨m1, m2, m3, m4, m5, m6⟩ := hM
          obtain ⟨oo, e, _⟩ := s_Mo_sOf m1 m5 m6 m4 m2 m3 (i39 i0 (by omega))
          exact ⟨oo, e⟩
        have enn := ns2 hW esi exi eyi hnn hsp
        have hBX := hX i.toNatClampNeg (by omega)
        have sc0 : 0 ≤ sc.toInt := by
          rw [← hsc]
          have m8 := mul88 (rw8 (sO9 i.toNatClampNeg).toNatClampNeg) (rh (sO9 i.toNatClampNeg).toNatClampNeg)
          have := t_le m8.1
          rw [z_0] at this
          exact this
        have tail : ∀ (c8 : Int32) (o8 : Nat → Int32), TL kp T0 B0 O0 x4 x5 x6 c8 o8 →
            (if (k + (1 : Int32)) = n then
              bd (f_Mo_bit c8 kp o8 (0 : Int32)) fun (mo_told_46, mo_out_47) => g (k + 1, u1, own, mo_told_46, mo_out_47, z4)
            else
              gq (k + (1 : Int32)) 40 <|
              bd (f_Mo_stripOf W9 ys9 h sO9 xs9 w (ord ((k + (1 : Int32))).toNatClampNeg)) fun r_48 =>
              if r_48 = own then
                g (k + 1, u1, own, c8, o8, z4)
              else
                bd (f_Mo_bit c8 kp o8 (0 : Int32)) fun (mo_told_46, mo_out_47) => g (k + 1, u1, own, mo_told_46, mo_out_47, z4)) = some d → TL kp T0 B0 O0 a.1 a.2.1 a.2.2.1 d.1 d.2.2.2.1 := by
          intro c8 o8 hT8 hb
          have base : ∀ (c9 : Int32) (o9 : Nat → Int32), g (k + 1, u1, own, c9, o9, z4) = some d →
              (((k + 1).toInt < n.toInt ∧ f_Mo_stripOf W9 ys9 h sO9 xs9 w (ord (k + 1).toNatClampNeg) = some own ∧ TL kp T0 B0 O0 x4 x5 x6 c9 o9) ∨
               (((k + 1).toInt = n.toInt ∨ ∃ r, f_Mo_stripOf W9 ys9 h sO9 xs9 w (ord (k + 1).toNatClampNeg) = some r ∧ ¬ r = own) ∧ ∃ (c7 : Int32) (o7 : Nat → Int32), TL kp T0 B0 O0 x4 x5 x6 c7 o7 ∧ f_Mo_bit c7 kp o7 0 = some (c9, o9))) → TL kp T0 B0 O0 a.1 a.2.1 a.2.2.1 d.1 d.2.2.2.1 := by
            intro c9 o9 hg hP
            refine hfg (k + 1, nn, u1, own, x4, x5, x6, x8) (k + 1, u1, own, c9, o9, z4) ?_ a d ha hg
            refine ⟨rfl, by show 0 ≤ (k + 1).toInt; omega, by show (k + 1).toInt ≤ n.toInt; omega, eR1, hR1, rfl, q0, q1, Or.inr ⟨by show 0 < (k + 1).toInt; omega, rfl, ?_, ⟨sp, ?_, ?_⟩, hP⟩⟩
            · show f_Mo_stripOf W9 ys9 h sO9 xs9 w (ord (k + 1 - 1).toNatClampNeg) = some own
              rw [k1n, hi]
              exact hown
            · show f_Mo_sOf W9 xs9 w sO9 ys9 h (ord (k + 1 - 1).toNatClampNeg) = some sp
              rw [k1n, hi]
              exact hsp
            · show nn = NX W9 w h sO9 (ord (k + 1 - 1).toNatClampNeg) sp
              rw [k1n, hi]
              exact enn
          by_cases cl : k + 1 = n
          · rw [if_pos cl] at hb
            obtain ⟨y, hy, hb⟩ := bd_e hb
            obtain ⟨y1, y2⟩ := y
            exact base y1 y2 hb (Or.inr ⟨Or.inl (by rw [cl]), c8, o8, hT8, hy⟩)
          · rw [if_neg cl] at hb
            have kl : (k + 1).toInt < n.toInt := by
              have : ¬ (k + 1).toInt = n.toInt := fun q => cl (Int32.toInt_inj.mp q)
              omega
            obtain ⟨_, hb⟩ := gq_e hb
            obtain ⟨r, hr, hb⟩ := bd_e hb
            by_cases co : r = own
            · rw [if_pos co] at hb
              exact base c8 o8 hb (Or.inl ⟨kl, by rw [hr, co], hT8⟩)
            · rw [if_neg co] at hb
              obtain ⟨y, hy, hb⟩ := bd_e hb
              obtain ⟨y1, y2⟩ := y
              exact base y1 y2 hb (Or.inr ⟨Or.inr ⟨r, hr, co⟩, c8, o8, hT8, hy⟩)
        obtain ⟨j3, ej3, hb⟩ := jn_e hb
        by_cases dz : df9 i.toNatClampNeg = 0
        · rw [if_pos (cmp_0.mpr dz)] at hb
          rw [ej3] at hb
          obtain ⟨y, hy, hb⟩ := bd_e hb
          obtain ⟨y1, y2⟩ := y
          dsimp only at hb
          obtain ⟨_, hb⟩ := gq_e hb
          simp only [jn, nl] at hb
          rw [if_pos (cmp_0.mpr dz)] at hb
          have hT3 := tdiff_z hT2 sc0 ((bx_z (cl8 rw8 _) (cl8 rh _) hBX).mpr dz) hx hy
          exact tail y1 y2 hT3 hb
        · rw [if_neg (fun q => dz (cmp_0.mp q))] at hb
          rw [ej3] at hb
          obtain ⟨y, hy, hb⟩ := bd_e hb
          obtain ⟨y1, y2⟩ := y
          dsimp only at hb
          obtain ⟨_, hb⟩ := gq_e hb
          simp only [jn, nl] at hb
          rw [if_neg (fun q => dz (cmp_0.mp q))] at hb
          obtain ⟨v, hv, hb⟩ := bd_e hb
          obtain ⟨v1, v2⟩ := v
          have hT3 := tdiff_n rw8 rh hT2 hsc.symm hBX (fun q => dz ((bx_z (cl8 rw8 _) (cl8 rh _) hBX).mp q)) hx hy hv
          exact tail v1 v2 hT3 hb
      obtain ⟨j4, ej4, hb⟩ := jn_e hb
      rcases hC with ⟨ck, cs, cf, hT⟩ | ⟨kp0, es9, hst, ⟨sp, hsp, ens⟩, hP⟩
      · subst ck cs
        rw [if_pos rfl] at hb
        have n17 : ¬ own = -17 := fun q => by
          rw [q] at ownR
          have : (-17 : Int32).toInt = -17 := rfl
          omega
        rw [if_neg n17] at ha
        simp only [jn] at ha
        rw [if_pos (Int32.le_refl _)] at ha
        rw [ej4] at hb
        simp only [jn] at hb
        rw [if_pos trivial] at hb
        rw [g_16] at ha
        obtain ⟨x, hx, ha⟩ := bd_e ha
        obtain ⟨y, hy, hb⟩ := bd_e hb
        obtain ⟨x1, x2, x3⟩ := x
        obtain ⟨y1, y2⟩ := y
        have o16 : (own + 16).toInt = own.toInt + 16 := by
          have z16 : (16 : Int32).toInt = 16 := rfl
          rw [ya (by rw [z16]; omega) (by rw [z16]; omega), z16]
        have hT1 := number_TL hT (by omega) (by omega) hx hy
        dsimp only at ha hb
        obtain ⟨x, hx, ha⟩ := bd_e ha
        obtain ⟨s9, hs9, hb⟩ := bd_e hb
        obtain ⟨y, hy, hb⟩ := bd_e hb
        have eS := cs2 hW esi exi eyi hs hs9
        subst eS
        have sR := sOf_r hM i0 (by omega) hs9
        obtain ⟨x1, x2, x3⟩ := x
        obtain ⟨y1, y2⟩ := y
        have ss : (s - fs).toInt = s.toInt - fs.toInt := yb (by omega) (by omega)
        have hT2 := signed_TL hT1 (by omega) (by omega) hx hy
        dsimp only at ha hb
        obtain ⟨s8, hs8, hb⟩ := bd_e hb
        have e8 := Option.some.inj (hs9.symm.trans hs8)
        subst e8
        exact fin _ _ _ _ _ _ hT2 sR.1 sR.2 ha hb
      · subst es9
        have kne : ¬ k = 0 := fun q => by rw [q, z_0] at kp0; omega
        rw [if_neg kne] at hb
        rcases hP with ⟨_, hst2, hT⟩ | ⟨hor, c7, o7, hT7, hb7⟩
        · rw [hi] at hst2
          have eo := Option.some.inj (hst2.symm.trans hown)
          subst eo
          rw [if_pos rfl] at ha hb
          obtain ⟨x, hx, ha⟩ := bd_e ha
          obtain ⟨x1, x2, x3⟩ := x
          obtain ⟨_, hb⟩ := gq_e hb
          obtain ⟨sq, hsq, hb⟩ := bd_e hb
          have e8 := Option.some.inj (hsq.symm.trans hsp)
          subst e8
          obtain ⟨_, hb⟩ := gq_e hb
          obtain ⟨j5, ej5, hb⟩ := jn_e hb
          have hb : j5 sq (NX W9 w h sO9 (ord (k - 1).toNatClampNeg) sq - sq) = some d := by
            unfold NX
            by_cases cw : W9 ((1 : Int32)).toNatClampNeg = 1
            · rw [if_pos cw] at hb ⊢
              obtain ⟨_, hb⟩ := gq_e hb
              obtain ⟨_, hb⟩ := gq_e hb
              rw [g_ab]
              exact hb
            · rw [if_neg cw] at hb ⊢
              obtain ⟨_, hb⟩ := gq_e hb
              obtain ⟨_, hb⟩ := gq_e hb
              rw [g_ab]
              exact hb
          rw [ej5] at hb
          simp only [nl] at hb
          rw [g_ba, ← ens] at hb
          obtain ⟨y, hy, hb⟩ := bd_e hb
          obtain ⟨y1, y2⟩ := y
          have hT1 := bit_TL hT (Or.inr rfl) hx hy
          dsimp only at ha hb
          obtain ⟨x, hx, ha⟩ := bd_e ha
          obtain ⟨s9, hs9, hb⟩ := bd_e hb
          obtain ⟨y, hy, hb⟩ := bd_e hb
          have eS := cs2 hW esi exi eyi hs hs9
          subst eS
          have sR := sOf_r hM i0 (by omega) hs9
          have nsR : -9 ≤ ns.toInt ∧ ns.toInt ≤ 46 := by
            have km := sub_t (k := k) (Int32.lt_iff_toInt_lt.mpr (by rw [z_0]; exact kp0))
            obtain ⟨_, p0, p1⟩ := at9 (k - 1) (by omega) (by omega)
            have pR := sOf_r hM p0 (by omega) hsp
            rw [ens]
            unfold NX
            have d1 := rh (sO9 (ord (k - 1).toNatClampNeg).toNatClampNeg).toNatClampNeg
            have d2 := rw8 (sO9 (ord (k - 1).toNatClampNeg).toNatClampNeg).toNatClampNeg
            have a1 := t_le d1.1
            have a2 := t_le d1.2
            have a3 := t_le d2.1
            have a4 := t_le d2.2
            rw [z_0] at a1 a3
            rw [z_8] at a2 a4
            by_cases cw : W9 ((1 : Int32)).toNatClampNeg = 1
            · rw [if_pos cw, ya (by omega) (by omega)]; omega
            · rw [if_neg cw, ya (by omega) (by omega)]; omega
          obtain ⟨x1, x2, x3⟩ := x
          obtain ⟨y1, y2⟩ := y
          have ss : (s - ns).toInt = s.toInt - ns.toInt := yb (by omega) (by omega)
          have hT2 := signed_TL hT1 (by omega) (by omega) hx hy
          exact fin _ _ _ _ _ _ hT2 f0 f1 ha hb
        · have no : ¬ own = st := fun q => by
            rcases hor with q1 | ⟨r, hr, hne⟩
            · omega
            · rw [hi, hown] at hr
              exact hne ((Option.some.inj hr).symm.trans q)
          rw [if_neg no] at ha hb
          simp only [jn] at ha
          rw [if_neg (fun q => by have := t_le q; rw [z_0] at this; omega)] at ha
          rw [ej4] at hb
          simp only [jn] at hb
          rw [if_neg kne] at hb
          obtain ⟨x, hx, ha⟩ := bd_e ha
          obtain ⟨x1, x2, x3⟩ := x
          have hT0 := bit_TL hT7 (Or.inl rfl) hx hb7
          dsimp only at ha
          obtain ⟨x, hx, ha⟩ := bd_e ha
          obtain ⟨y, hy, hb⟩ := bd_e hb
          obtain ⟨x1, x2, x3⟩ := x
          obtain ⟨y1, y2⟩ := y
          have km := sub_t (k := k) (Int32.lt_iff_toInt_lt.mpr (by rw [z_0]; exact kp0))
          have kmn := sub_n (k := k) (Int32.lt_iff_toInt_lt.mpr (by rw [z_0]; exact kp0))
          obtain ⟨_, p0, p1⟩ := at9 (k - 1) (by omega) (by omega)
          have stR := strip_r hM p0 (by omega) hst
          have sdd := hS (k - 1).toNatClampNeg k.toNatClampNeg (by omega) (by omega)
          rw [stv_e hst, hi, stv_e hown] at sdd
          have lt9 : st.toInt < own.toInt := by
            have : ¬ own.toInt = st.toInt := fun q => no (Int32.toInt_inj.mp q)
            omega
          have s1 : (own - st).toInt = own.toInt - st.toInt := yb (by omega) (by omega)
          have s2 : (own - st - 1).toInt = own.toInt - st.toInt - 1 := by rw [yb (by rw [s1, z_1]; omega) (by rw [s1, z_1]; omega), s1, z_1]
          have hT1 := number_TL hT0 (by omega) (by omega) hx hy
          dsimp only at ha hb
          obtain ⟨x, hx, ha⟩ := bd_e ha
          obtain ⟨s9, hs9, hb⟩ := bd_e hb
          obtain ⟨y, hy, hb⟩ := bd_e hb
          have eS := cs2 hW esi exi eyi hs hs9
          subst eS
          have sR := sOf_r hM i0 (by omega) hs9
          obtain ⟨x1, x2, x3⟩ := x
          obtain ⟨y1, y2⟩ := y
          have ss : (s - fs).toInt = s.toInt - fs.toInt := yb (by omega) (by omega)
          have hT2 := signed_TL hT1 (by omega) (by omega) hx hy
          dsimp only at ha hb
          obtain ⟨s8, hs8, hb⟩ := bd_e hb
          have e8 := Option.some.inj (hs9.symm.trans hs8)
          subst e8
          exact fin _ _ _ _ _ _ hT2 sR.1 sR.2 ha hb
  · exact ⟨rfl, p0_0, by show (0 : Int) ≤ n.toInt; omega, hRE, hR, rfl, by show (-9 : Int) ≤ 0; omega, by show (0 : Int) ≤ 38; omega, Or.inl ⟨rfl, rfl, rfl, hT⟩⟩
