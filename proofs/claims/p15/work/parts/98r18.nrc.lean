/-! DRAFT: reading names of KIND 0, in step -/
theorem longest {dc : Int32} {le : Nat → Int32} {k : Int32 → Option (Int32 × Int32 × Int32)} {a : Int32 × Int32 × Int32} (hd : dc.toInt ≤ 16) (hl : ∀ j : Nat, (j : Int) < dc.toInt → 0 ≤ (le j).toInt ∧ (le j).toInt ≤ 15) (ha : lp (f_CodeNames_readName_L4 dc le k) FU (0, 0) = some a) : ∃ L : Int32, k L = some a ∧ 0 ≤ L.toInt ∧ L.toInt ≤ 15 ∧ (∀ j : Nat, (j : Int) < dc.toInt → (le j).toInt ≤ L.toInt) ∧ (L.toInt = 0 ∨ ∃ j : Nat, (j : Int) < dc.toInt ∧ (le j).toInt = L.toInt) := by
  refine lp_one (fun (t : Int32 × Int32) => 0 ≤ t.1.toInt ∧ 0 ≤ t.2.toInt ∧ t.2.toInt ≤ 15 ∧ (∀ j : Nat, (j : Int) < t.1.toInt → (j : Int) < dc.toInt → (le j).toInt ≤ t.2.toInt) ∧ (t.2.toInt = 0 ∨ ∃ j : Nat, (j : Int) < dc.toInt ∧ (le j).toInt = t.2.toInt)) (fun a => ∃ L : Int32, k L = some a ∧ 0 ≤ L.toInt ∧ L.toInt ≤ 15 ∧ (∀ j : Nat, (j : Int) < dc.toInt → (le j).toInt ≤ L.toInt) ∧ (L.toInt = 0 ∨ ∃ j : Nat, (j : Int) < dc.toInt ∧ (le j).toInt = L.toInt)) ?_ FU _ ?_ a ha
  · intro f hf t hI a ha
    obtain ⟨i, L⟩ := t
    obtain ⟨i0, l0, l15, hm, hx⟩ := hI
    dsimp only at i0 l0 l15 hm hx
    unfold f_CodeNames_readName_L4 at ha
    dsimp only [nl] at ha
    by_cases c : dc ≤ i
    · rw [if_pos c] at ha
      have c9 := t_le c
      exact ⟨L, ha, l0, l15, fun j hj => hm j (by omega) hj, hx⟩
    · rw [if_neg c] at ha
      have c9 := t_lt (Int32.not_le.mp c)
      obtain ⟨_, ha⟩ := gq_e ha
      have iN := nat_of (n := i) (Int32.le_iff_toInt_le.mpr (by rw [z_0]; exact i0))
      have ii := inc_i (k := i) (by omega) (by omega)
      have li := hl i.toNatClampNeg (by omega)
      by_cases q : L < le i.toNatClampNeg
      · rw [if_pos q] at ha
        have q9 := t_lt q
        refine hf (i + 1, le i.toNatClampNeg) ⟨by show 0 ≤ (i + 1).toInt; omega, li.1, li.2, fun j hj hd => ?_, Or.inr ⟨i.toNatClampNeg, by omega, rfl⟩⟩ a ha
        have hj : (j : Int) < (i + 1).toInt := hj
        show (le j).toInt ≤ (le i.toNatClampNeg).toInt
        by_cases z : j = i.toNatClampNeg
        · rw [z]; exact Int.le_refl _
        · have := hm j (by omega) hd
          omega
      · rw [if_neg q] at ha
        have q9 := t_le (Int32.not_lt.mp q)
        refine hf (i + 1, L) ⟨by show 0 ≤ (i + 1).toInt; omega, l0, l15, fun j hj hd => ?_, hx⟩ a ha
        have hj : (j : Int) < (i + 1).toInt := hj
        show (le j).toInt ≤ L.toInt
        by_cases z : j = i.toNatClampNeg
        · rw [z]; exact q9
        · exact hm j (by omega) hd
  · exact ⟨p0_0, p0_0, i0_l (by decide), fun j hj => by have hj : (j : Int) < 0 := hj; omega, Or.inl rfl⟩
/-- looking a code up -/
theorem look2 {dc n c pl z : Int32} {le cd le9 cd9 row : Nat → Int32} {k : Int32 → Option (Int32 × Int32 × Int32 × (Nat → Int32))} {d : Int32 × Int32 × Int32 × (Nat → Int32)} (hd : dc.toInt ≤ 16) (n1 : 1 ≤ n.toInt) (hle : ∀ j : Nat, (j : Int) < dc.toInt → le j = le9 j) (hcd : ∀ j : Nat, (j : Int) < dc.toInt → 1 ≤ (le9 j).toInt → cd j = cd9 j)
    (ha : f_CodeNames_symbolOf dc le cd c n = some z) (hb : lp (f_Mo_nextName_L85 dc 0 le9 n cd9 c pl row k) FU (0, 0) = some d) :
    (z = -1 ∧ (∀ j : Nat, (j : Int) < dc.toInt → ¬ (le9 j = n ∧ cd9 j = c)) ∧ ∃ m : Int32, k m = some d ∧ (m = 0 → ∀ j : Nat, (j : Int) < dc.toInt → ¬ (n < le9 j ∧ cd9 j >>> ((le9 j - n) &&& 31) = c)) ∧ (¬ m = 0 → ∃ j : Nat, (j : Int) < dc.toInt ∧ n < le9 j)) ∨ (¬ z = -1 ∧ 0 ≤ z.toInt ∧ z.toInt < dc.toInt ∧ d = (z, pl, 0, row)) := by
  unfold f_CodeNames_symbolOf at ha
  refine lp_two (fun (i : Int32) (t : Int32 × Int32) => i = t.1 ∧ 0 ≤ i.toInt ∧ (∀ j : Nat, (j : Int) < i.toInt → (j : Int) < dc.toInt → ¬ (le9 j = n ∧ cd9 j = c)) ∧ (t.2 = 0 → ∀ j : Nat, (j : Int) < i.toInt → (j : Int) < dc.toInt → ¬ (n < le9 j ∧ cd9 j >>> ((le9 j - n) &&& 31) = c)) ∧ (¬ t.2 = 0 → ∃ j : Nat, (j : Int) < dc.toInt ∧ n < le9 j)) (fun (z : Int32) d => (z = -1 ∧ (∀ j : Nat, (j : Int) < dc.toInt → ¬ (le9 j = n ∧ cd9 j = c)) ∧ ∃ m : Int32, k m = some d ∧ (m = 0 → ∀ j : Nat, (j : Int) < dc.toInt → ¬ (n < le9 j ∧ cd9 j >>> ((le9 j - n) &&& 31) = c)) ∧ (¬ m = 0 → ∃ j : Nat, (j : Int) < dc.toInt ∧ n < le9 j)) ∨ (¬ z = -1 ∧ 0 ≤ z.toInt ∧ z.toInt < dc.toInt ∧ d = (z, pl, 0, row))) ?_ _ _ _ _ ?_ z d ha hb
  · intro f g hfg i t hI z d ha hb
    obtain ⟨i9, m⟩ := t
    obtain ⟨e, i0, hN, h0, h1⟩ := hI
    dsimp only at e h0 h1
    subst e
    unfold f_CodeNames_symbolOf_L2 at ha
    unfold f_Mo_nextName_L85 at hb
    dsimp only [jn, nl] at ha hb
    by_cases c1 : dc ≤ i
    · rw [if_pos c1] at ha hb
      have c9 := t_le c1
      have ha := Option.some.inj ha
      exact Or.inl ⟨ha.symm, fun j hj => hN j (by omega) hj, m, hb, fun q j hj => h0 q j (by omega) hj, h1⟩
    · rw [if_neg c1] at ha hb
      have c9 := t_lt (Int32.not_le.mp c1)
      first | rw [if_pos rfl] at hb | rw [if_pos trivial] at hb
      have iN := nat_of (n := i) (Int32.le_iff_toInt_le.mpr (by rw [z_0]; exact i0))
      have ii := inc_i (k := i) (by omega) (by omega)
      obtain ⟨_, ha⟩ := gq_e ha
      obtain ⟨_, hb⟩ := gq_e hb
      rw [hle i.toNatClampNeg (by omega)] at ha
      have go : ¬ (le9 i.toNatClampNeg = n ∧ cd9 i.toNatClampNeg = c) → f (i + 1) = some z → (if m = 0 then
            gq i 16 <|
            if (le9 (i).toNatClampNeg) ≤ n then
              g (i + 1, (0 : Int32))
            else
              gq i 16 <|
              gq i 16 <|
              if ((cd9 (i).toNatClampNeg) >>> (((le9 (i).toNatClampNeg) - n) &&& 31)) = c then
                g (i + 1, (1 : Int32))
              else
                g (i + 1, (0 : Int32))
          else
            g (i + 1, (1 : Int32))) = some d → (z = -1 ∧ (∀ j : Nat, (j : Int) < dc.toInt → ¬ (le9 j = n ∧ cd9 j = c)) ∧ ∃ m : Int32, k m = some d ∧ (m = 0 → ∀ j : Nat, (j : Int) < dc.toInt → ¬ (n < le9 j ∧ cd9 j >>> ((le9 j - n) &&& 31) = c)) ∧ (¬ m = 0 → ∃ j : Nat, (j : Int) < dc.toInt ∧ n < le9 j)) ∨ (¬ z = -1 ∧ 0 ≤ z.toInt ∧ z.toInt < dc.toInt ∧ d = (z, pl, 0, row)) := by
        intro hne ha hb
        have step : ∀ m2 : Int32, (m2 = 0 → m = 0 ∧ ¬ (n < le9 i.toNatClampNeg ∧ cd9 i.toNatClampNeg >>> ((le9 i.toNatClampNeg - n) &&& 31) = c)) → (¬ m2 = 0 → ∃ j : Nat, (j : Int) < dc.toInt ∧ n < le9 j) → g (i + 1, m2) = some d → (z = -1 ∧ (∀ j : Nat, (j : Int) < dc.toInt → ¬ (le9 j = n ∧ cd9 j = c)) ∧ ∃ m : Int32, k m = some d ∧ (m = 0 → ∀ j : Nat, (j : Int) < dc.toInt → ¬ (n < le9 j ∧ cd9 j >>> ((le9 j - n) &&& 31) = c)) ∧ (¬ m = 0 → ∃ j : Nat, (j : Int) < dc.toInt ∧ n < le9 j)) ∨ (¬ z = -1 ∧ 0 ≤ z.toInt ∧ z.toInt < dc.toInt ∧ d = (z, pl, 0, row)) := by
          intro m2 hm0 hm1 hb
          refine hfg (i + 1) (i + 1, m2) ⟨rfl, by omega, fun j hj hjd => ?_, fun q j hj hjd => ?_, hm1⟩ z d ha hb
          · by_cases e : j = i.toNatClampNeg
            · rw [e]; exact hne
            · exact hN j (by omega) hjd
          · by_cases e : j = i.toNatClampNeg
            · rw [e]; exact (hm0 q).2
            · exact h0 (hm0 q).1 j (by omega) hjd
        by_cases cm : m = 0
        · rw [if_pos cm] at hb
          obtain ⟨_, hb⟩ := gq_e hb
          by_cases cl : le9 i.toNatClampNeg ≤ n
          · rw [if_pos cl] at hb
            exact step 0 (fun _ => ⟨cm, fun q => absurd q.1 (Int32.not_lt.mpr cl)⟩) (fun q => absurd rfl q) hb
          · rw [if_neg cl] at hb
            obtain ⟨_, hb⟩ := gq_e hb
            obtain ⟨_, hb⟩ := gq_e hb
            by_cases cs : cd9 i.toNatClampNeg >>> ((le9 i.toNatClampNeg - n) &&& 31) = c
            · rw [if_pos cs] at hb
              exact step 1 (fun q => absurd q one_nz) (fun _ => ⟨i.toNatClampNeg, by omega, Int32.not_le.mp cl⟩) hb
            · rw [if_neg cs] at hb
              exact step 0 (fun _ => ⟨cm, fun q => cs q.2⟩) (fun q => absurd rfl q) hb
        · rw [if_neg cm] at hb
          exact step 1 (fun q => absurd q one_nz) (fun _ => h1 cm) hb
      by_cases c2 : le9 i.toNatClampNeg = n
      · rw [if_pos c2] at ha hb
        obtain ⟨_, ha⟩ := gq_e ha
        obtain ⟨_, hb⟩ := gq_e hb
        rw [hcd i.toNatClampNeg (by omega) (by rw [c2]; exact n1)] at ha
        by_cases c3 : cd9 i.toNatClampNeg = c
        · rw [if_pos c3] at ha hb
          have ha := Option.some.inj ha
          subst ha
          refine Or.inr ⟨fun q => ?_, i0, c9, (Option.some.inj hb).symm⟩
          rw [q] at i0
          exact absurd i0 (by decide)
        · rw [if_neg c3] at ha hb
          exact go (fun q => c3 q.2) ha hb
      · rw [if_neg c2] at ha hb
        exact go (fun q => c2 q.1) ha hb
  · exact ⟨rfl, p0_0, fun j hj => by rw [z_0] at hj; omega, fun _ j hj => by rw [z_0] at hj; omega, fun q => absurd rfl q⟩
theorem name37_k {n p r dc L : Int32} {cb le cd : Nat → Int32} (h : ¬ r = 0) : ∀ (N : Nat) (i v : Int32) (a : Int32 × Int32 × Int32), lp (f_CodeNames_readName_L37 L n cb dc le cd (fun (rd_place_10 : Int32) (rd_refusal_11 : Int32) =>
          bd (f_BitReader_refuse rd_refusal_11 (5 : Int32)) fun rd_refusal_18 =>
          some ((0 : Int32), rd_place_10, rd_refusal_18))) N (i, v, p, r) = some a → a.2.1 = p ∧ a.2.2 = r := by
  intro N
  induction N with
  | zero => intro i v a q; exact absurd q (by simp [lp])
  | succ N ih =>
    intro i v a q
    obtain ⟨g, eg, q⟩ := lp_x q
    unfold f_CodeNames_readName_L37 at q
    dsimp only [nl] at q
    by_cases c : L < i
    · rw [if_pos c] at q
      obtain ⟨z, hz, q⟩ := bd_e q
      have := ref_k h hz
      subst this
      rw [← Option.some.inj q]
      exact ⟨rfl, rfl⟩
    · rw [if_neg c] at q
      obtain ⟨z, hz, q⟩ := bd_e q
      have := next_k h hz
      subst this
      dsimp only at q
      obtain ⟨z, hz, q⟩ := bd_e q
      by_cases c3 : z = -1
      · rw [if_pos c3, eg] at q
        exact ih _ _ _ q
      · rw [if_neg c3] at q
        rw [← Option.some.inj q]
        exact ⟨rfl, rfl⟩
theorem n5_0 : ¬ (5 : Int32) = 0 := by decide
theorem p5_0 : 0 ≤ (5 : Int32).toInt := by decide
set_option maxRecDepth 20000 in
set_option maxHeartbeats 2000000 in
theorem nrc {n dc : Int32} {cb i9 le cd le9 cd9 cd0 : Nat → Int32} (hB : RB n cb i9) (d0 : 0 ≤ dc.toInt) (hd : dc.toInt ≤ 16) (hle : ∀ j : Nat, (j : Int) < dc.toInt → le j = le9 j ∧ 0 ≤ (le j).toInt ∧ (le j).toInt ≤ 15) (hcd : ∀ j : Nat, (j : Int) < dc.toInt → 1 ≤ (le9 j).toInt → cd j = cd9 j) (has : f_CodeNames_assignCodes dc le cd0 = some cd)
    (hK : nxL le dc.toNatClampNeg 15 = 32768 ∨ ∀ j : Nat, (j : Int) < dc.toInt → (le j).toInt ≤ 1) (hu : ∃ j : Nat, (j : Int) < dc.toInt ∧ 1 ≤ (le j).toInt) : NRC n dc cb i9 le cd le9 cd9 := by
  have dN := nat_of (n := dc) (Int32.le_iff_toInt_le.mpr (by rw [z_0]; exact d0))
  have asg := assign_e d0 hd (fun j hj => (hle j hj).2) has
  intro p r s p1 r1 s9 p9 r9 row row8 hP ha hb
  unfold f_Mo_nextName at hb
  first | rw [if_neg (by decide)] at hb | rw [if_neg id] at hb
  by_cases cr : r = 0
  · subst cr
    unfold f_CodeNames_readName at ha
    obtain ⟨L, ha, L0, L15, hm, hx⟩ := longest hd (fun j hj => (hle j hj).2) ha
    have L1 : 1 ≤ L.toInt := by
      obtain ⟨j, hj, h1⟩ := hu
      have := hm j hj
      omega
    refine lp_twoN (fun (s t : Int32 × Int32 × Int32 × Int32) => s = t ∧ 1 ≤ s.1.toInt ∧ s.1.toInt ≤ L.toInt ∧ s.2.2.2 = 0 ∧ RP n s.2.2.1 0 ∧ ∃ C N : Nat, s.1.toInt = (N : Int) + 1 ∧ s.2.1 = Int32.ofNat C ∧ nxL le dc.toNatClampNeg N ≤ C ∧ C < 2 ^ N)
      (fun (a : Int32 × Int32 × Int32) (d : Int32 × Int32 × Int32 × (Nat → Int32)) => d.2.1 = a.2.1 ∧ d.2.2.1 = a.2.2 ∧ RP n a.2.1 a.2.2 ∧ (a.2.2 = 0 → d.1 = a.1 ∧ 0 ≤ a.1.toInt ∧ a.1.toInt < dc.toInt)) ?_ _ _ _ _ ?_ _ _ ha hb |> fun ⟨q1, q2, q3, q4⟩ => ⟨⟨q1, q2, q3, fun z => absurd rfl z, fun _ => rfl⟩, q4⟩
    · intro N M hfg s t hI a d ha hb
      obtain ⟨i, c, pl, rr⟩ := s
      obtain ⟨e, i1, iL, rz, hP, C, Nn, eN, eC, hC1, hC2⟩ := hI
      dsimp only at i1 iL rz hP eN eC
      subst e rz
      have stopM : ∀ (M : Nat) (j v q u : Int32) (d : Int32 × Int32 × Int32 × (Nat → Int32)), ¬ u = 0 → lp (f_Mo_nextName_L58 row n i9 dc le9 cd9) M (j, v, q, u) = some d → d.2.1 = q ∧ d.2.2.1 = u := by
        intro M j v q u d hu hb
        cases M with
        | zero => exact absurd hb (by simp [lp])
        | succ M =>
          obtain ⟨g, eg, hb⟩ := lp_x hb
          unfold f_Mo_nextName_L58 at hb
          dsimp only at hb
          by_cases c : (16 : Int32) ≤ j
          · rw [if_pos c] at hb
            rw [← Option.some.inj hb]
            exact ⟨rfl, rfl⟩
          · rw [if_neg c, if_neg hu] at hb
            rw [← Option.some.inj hb]
            exact ⟨rfl, rfl⟩
      obtain ⟨f, ef⟩ : ∃ f, f = lp (f_CodeNames_readName_L37 L n cb dc le cd (fun (rd_place_10 : Int32) (rd_refusal_11 : Int32) =>
          bd (f_BitReader_refuse rd_refusal_11 (5 : Int32)) fun rd_refusal_18 =>
          some ((0 : Int32), rd_place_10, rd_refusal_18))) N := ⟨_, rfl⟩
      obtain ⟨g, eg⟩ : ∃ g, g = lp (f_Mo_nextName_L58 row n i9 dc le9 cd9) M := ⟨_, rfl⟩
      rw [← ef] at ha
      rw [← eg] at hb
      unfold f_CodeNames_readName_L37 at ha
      unfold f_Mo_nextName_L58 at hb
      dsimp only [nl] at ha hb
      rw [if_neg (fun z => by have := t_lt z; omega)] at ha
      have z16 : (16 : Int32).toInt = 16 := rfl
      rw [if_neg (fun z => by have := t_le z; omega), if_pos rfl] at hb
      obtain ⟨x, hx1, ha⟩ := bd_e ha
      obtain ⟨y, hy1, hb⟩ := bd_e hb
      obtain ⟨x1, x2, x3⟩ := x
      obtain ⟨y1, y2, y3⟩ := y
      obtain ⟨hS, e1, e2, e3⟩ := next_S hB hP hx1 hy1
      obtain ⟨e4, e5, hP1, _, _⟩ := hS
      subst e1 e4 e5
      dsimp only at ha hb
      rw [sh1 e2] at ha
      have ii := inc_i (k := i) (by omega) (by omega)
      by_cases c3 : y3 = 0
      · subst c3
        obtain ⟨z, hz, ha⟩ := bd_e ha
        have lk := look2 hd i1 (fun j hj => (hle j hj).1) hcd hz hb
        rcases lk with ⟨ez, hnm, m, hk, hm0, hm1⟩ | ⟨nz, z0, z1, ed⟩
        · rw [if_pos ez] at ha
          dsimp only [jn, nl] at hk
          -- the value read so far
          have hb2 : ∃ B : Nat, y1 = Int32.ofNat B ∧ B ≤ 1 := by
            rcases e2 with q | q
            · exact ⟨0, q, by omega⟩
            · exact ⟨1, q, by omega⟩
          obtain ⟨B, eB, hB1⟩ := hb2
          have eC2 : (2 : Int32) * c + y1 = Int32.ofNat (2 * C + B) := by rw [eC, eB, Int32.ofNat_add, of_2]
          have pN : 2 ^ (Nn + 1) = 2 * 2 ^ Nn := by rw [Nat.pow_succ, Nat.mul_comm]
          have b15 : 2 ^ (Nn + 1) ≤ 2 ^ 15 := Nat.pow_le_pow_right (by decide) (by omega)
          have p15 : 2 ^ 15 = 32768 := by decide
          have lt2 : 2 * C + B < 2 ^ (Nn + 1) := by omega
          have ge2 : nxL le dc.toNatClampNeg (Nn + 1) ≤ 2 * C + B := by
            by_cases q : nxL le dc.toNatClampNeg (Nn + 1) ≤ 2 * C + B
            · exact q
            · exfalso
              have e : nxL le dc.toNatClampNeg (Nn + 1) = 2 * nxL le dc.toNatClampNeg Nn + ctL le (Nn + 1) dc.toNatClampNeg := rfl
              obtain ⟨j, h1, h2, h3⟩ := ct_ex le (Nn + 1) dc.toNatClampNeg (2 * C + B - 2 * nxL le dc.toNatClampNeg Nn) (by omega)
              have hj : (j : Int) < dc.toInt := by omega
              have lj := hle j hj
              have lN := nat_of (n := le j) (Int32.le_iff_toInt_le.mpr (by rw [z_0]; exact lj.2.1))
              have aj := asg j hj (by omega)
              apply hnm j hj
              refine ⟨?_, ?_⟩
              · rw [← lj.1]
                exact Int32.toInt_inj.mp (by omega)
              · rw [← hcd j hj (by rw [← lj.1]; omega), aj, eC2, h2, h3]
                congr 1
                have e9 : Nn + 1 - 1 = Nn := by omega
                rw [e9]
                omega
          by_cases cL : i.toInt < L.toInt
          · -- another bit
            have full : nxL le dc.toNatClampNeg 15 = 32768 := by
              rcases hK with q | q
              · exact q
              · exfalso
                rcases hx with w | ⟨j, hj, w⟩
                · omega
                · have := q j hj
                  omega
            obtain ⟨j, h1, h2, h3, h4⟩ := may_ex full (c := 2 * C + B) (n := Nn + 1) (by omega) lt2 (15 - (Nn + 1)) (Nn + 1) (by omega) (Nat.le_refl _) (by rw [Nat.sub_self, Nat.pow_zero, Nat.mul_one]; exact ge2)
            have hj : (j : Int) < dc.toInt := by omega
            have lj := hle j hj
            have lN := nat_of (n := le j) (Int32.le_iff_toInt_le.mpr (by rw [z_0]; exact lj.2.1))
            have mne : ¬ m = 0 := fun q => by
              apply hm0 q j hj
              rw [← lj.1]
              refine ⟨Int32.lt_iff_toInt_lt.mpr (by omega), ?_⟩
              rw [← hcd j hj (by rw [← lj.1]; omega), asg j hj (by omega), h4, eC2]
              have sb : (le j - i).toInt = (le j).toInt - i.toInt := yb (by omega) (by omega)
              have sbn := nat_of (n := le j - i) (Int32.le_iff_toInt_le.mpr (by rw [z_0]; omega))
              have eS : (le j).toNatClampNeg - (Nn + 1) = (le j - i).toNatClampNeg := by omega
              rw [eS]
              have bb : (2 * C + B) * 2 ^ (le j - i).toNatClampNeg < 2 ^ 15 := by
                have q1 : (2 * C + B) * 2 ^ (le j - i).toNatClampNeg < 2 ^ (Nn + 1) * 2 ^ (le j - i).toNatClampNeg := Nat.mul_lt_mul_of_pos_right lt2 (Nat.two_pow_pos _)
                have q2 : 2 ^ (Nn + 1) * 2 ^ (le j - i).toNatClampNeg = 2 ^ (Nn + 1 + (le j - i).toNatClampNeg) := (Nat.pow_add 2 _ _).symm
                have q3 : 2 ^ (Nn + 1 + (le j - i).toNatClampNeg) ≤ 2 ^ 15 := Nat.pow_le_pow_right (by decide) (by omega)
                omega
              apply Int32.toInt_inj.mp
              rw [sarn _ (by omega) (by omega), Int32.toInt_ofNat_of_lt (by omega), Int32.toInt_ofNat_of_lt (by omega), Int.natCast_mul, Int.natCast_pow]
              exact Int.mul_ediv_cancel _ (Int.ne_of_gt (Int.pow_pos (by decide)))
            rw [if_neg mne] at hk
            rw [ef] at ha
            rw [eg] at hk
            exact hfg (i + 1, (2 : Int32) * c + y1, y2, 0) (i + 1, (2 : Int32) * c + y1, y2, 0) ⟨rfl, by show 1 ≤ (i + 1).toInt; omega, by show (i + 1).toInt ≤ L.toInt; omega, rfl, hP1, 2 * C + B, Nn + 1, by show (i + 1).toInt = ((Nn + 1 : Nat) : Int) + 1; omega, eC2, ge2, lt2⟩ a d ha hk
          · have m0 : m = 0 := by
              by_cases q : m = 0
              · exact q
              · exfalso
                obtain ⟨j, hj, h1⟩ := hm1 q
                have h1 := t_lt h1
                have := hm j hj
                rw [(hle j hj).1] at this
                omega
            rw [if_pos m0] at hk
            obtain ⟨w, hw, hk⟩ := bd_e hk
            have w5 := refM_0 rfl hw
            subst w5
            rw [eg] at hk
            obtain ⟨g1, g2⟩ := stopM M _ _ _ _ d n5_0 hk
            rw [ef] at ha
            cases N with
            | zero => exact absurd ha (by simp [lp])
            | succ N =>
              obtain ⟨h, eh, ha⟩ := lp_x ha
              unfold f_CodeNames_readName_L37 at ha
              dsimp only [nl] at ha
              rw [if_pos (Int32.lt_iff_toInt_lt.mpr (by omega))] at ha
              obtain ⟨w, hw, ha⟩ := bd_e ha
              have w5 := ref_0 rfl hw
              subst w5
              have ha := Option.some.inj ha
              subst ha
              exact ⟨g1, g2, ⟨hP1.1, hP1.2.1, p5_0⟩, fun z => absurd z n5_0⟩
        · rw [if_neg nz] at ha
          have ha := Option.some.inj ha
          subst ha ed
          exact ⟨rfl, rfl, hP1, fun _ => ⟨rfl, z0, z1⟩⟩
      · -- the bits end
        have hb : ∃ v : Int32, g (i + 1, v, y2, y3) = some d := by
          obtain ⟨gx, egx, hb⟩ := lpx0 hb
          unfold f_Mo_nextName_L85 at hb
          dsimp only [jn, nl] at hb
          have k5 : (bd (f_Mo_refuse y3 (5 : Int32)) fun mo_refused_16 => g (i + 1, (2 : Int32) * c + y1, y2, mo_refused_16)) = some d := by
            by_cases q : dc ≤ 0
            · rw [if_pos q, if_pos rfl] at hb; exact hb
            · rw [if_neg q, if_neg c3, if_pos rfl] at hb; exact hb
          obtain ⟨w, hw, k5⟩ := bd_e k5
          have := ref_k c3 hw
          subst this
          exact ⟨_, k5⟩
        obtain ⟨v, hb⟩ := hb
        rw [eg] at hb
        obtain ⟨g1, g2⟩ := stopM M _ _ _ _ d c3 hb
        obtain ⟨z, hz, ha⟩ := bd_e ha
        have ha : a.2.1 = y2 ∧ a.2.2 = y3 := by
          by_cases q : z = -1
          · rw [if_pos q, ef] at ha
            exact name37_k c3 N _ _ _ ha
          · rw [if_neg q] at ha
            rw [← Option.some.inj ha]
            exact ⟨rfl, rfl⟩
        rw [g1, g2, ha.1, ha.2]
        exact ⟨rfl, rfl, hP1, fun z => absurd z c3⟩
    · exact ⟨rfl, by show (1 : Int) ≤ 1; omega, L1, rfl, hP, 0, 0, rfl, rfl, Nat.le_refl _, by decide⟩
  · obtain ⟨e1, e2⟩ := nameC_k cr ha
    dsimp only at e1 e2
    subst e1 e2
    obtain ⟨g, eg, hb⟩ := lpx0 hb
    unfold f_Mo_nextName_L58 at hb
    dsimp only at hb
    rw [if_neg (by decide), if_neg cr] at hb
    simp only [Option.some.injEq, Prod.mk.injEq] at hb
    obtain ⟨b1, b2, b3, b4⟩ := hb
    exact ⟨⟨b2.symm, b3.symm, hP, fun _ => ⟨rfl, rfl⟩, fun z => z⟩, fun z => absurd z cr⟩
