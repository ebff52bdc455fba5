/-! DRAFT: reading the table of lengths, in step -/
theorem low_rng {n p r k v p1 r1 : Int32} {i9 : Nat → Int32} (hB : 0 ≤ n.toInt ∧ n.toInt ≤ 2000) (hP : RP n p r) (k1 : k.toInt ≤ 13) (h : f_Mo_nextLow n p r i9 k = some (v, p1, r1)) (k0 : 0 ≤ k.toInt) : 0 ≤ v.toInt ∧ v.toInt + 1 ≤ (pw k).toInt := by
  unfold f_Mo_nextLow at h
  refine lp_one (fun (t : Int32 × Int32 × Int32 × Int32) => 0 ≤ t.1.toInt ∧ t.1.toInt ≤ k.toInt ∧ 0 ≤ t.2.1.toInt ∧ t.2.1.toInt + 1 ≤ (pw t.1).toInt ∧ RP n t.2.2.1 t.2.2.2) (fun (o : Int32 × Int32 × Int32) => 0 ≤ o.1.toInt ∧ o.1.toInt + 1 ≤ (pw k).toInt) ?_ FU _ ?_ _ h
  · intro f hf t hI a h
    obtain ⟨i, w, q, u⟩ := t
    obtain ⟨i0, i1, w0, w1, hP⟩ := hI
    dsimp only at i0 i1 w0 w1 hP
    unfold f_Mo_nextLow_L4 at h
    dsimp only [nl] at h
    by_cases c : k ≤ i
    · rw [if_pos c] at h
      have c9 := t_le c
      have e : i = k := Int32.toInt_inj.mp (by omega)
      rw [← Option.some.inj h, ← e]
      exact ⟨w0, w1⟩
    · rw [if_neg c] at h
      have c9 := t_lt (Int32.not_le.mp c)
      obtain ⟨x, hx, h⟩ := bd_e h
      obtain ⟨b, q1, u1⟩ := x
      have b01 := next_01 hP hx
      have hP1 := next_RP hB hP hx
      have ii := inc_i (k := i) (by omega) (by omega)
      have ps := pw_s i (Int32.le_iff_toInt_le.mpr (by rw [z_0]; exact i0)) (Int32.le_iff_toInt_le.mpr (by show i.toInt ≤ 13; omega))
      have z2 : (2 : Int32).toInt = 2 := rfl
      have zk : (8192 : Int32).toInt = 8192 := rfl
      have pb := t_le ps.2.2
      rw [zk] at pb
      have pm := i_mul (a := 2) (b := pw i) z2 rfl (by omega) (by omega)
      have wm := i_mul (a := 2) (b := w) z2 rfl (by omega) (by omega)
      have bt : 0 ≤ b.toInt ∧ b.toInt ≤ 1 := by
        rcases b01 with e | e
        · rw [e]; decide
        · rw [e]; decide
      have sm : ((2 : Int32) * w + b).toInt = 2 * w.toInt + b.toInt := by rw [ya (by rw [wm]; omega) (by rw [wm]; omega), wm]
      refine hf (i + 1, (2 : Int32) * w + b, q1, u1) ⟨by show 0 ≤ (i + 1).toInt; omega, by show (i + 1).toInt ≤ k.toInt; omega, by show 0 ≤ ((2 : Int32) * w + b).toInt; omega, ?_, hP1⟩ a h
      show ((2 : Int32) * w + b).toInt + 1 ≤ (pw (i + 1)).toInt
      rw [ps.1, pm, sm]
      omega
  · exact ⟨p0_0, k0, p0_0, by show (0 : Int) + 1 ≤ 1; omega, hP⟩
theorem rest_C {dc n p r : Int32} {cb le : Nat → Int32} {k : Int32 → Int32 → (Nat → Int32) → Option (Int32 × Int32 × (Nat → Int32) × (Nat → Int32))} {a : Int32 × Int32 × (Nat → Int32) × (Nat → Int32)} : ∀ (N : Nat) (i : Int32), dc.toInt ≤ i.toInt → 0 ≤ i.toInt → lp (f_CodeNames_readTable_L2 dc n cb k) N (i, p, r, le) = some a → ∃ le1, k p r le1 = some a ∧ ∀ j : Nat, (j : Int) < dc.toInt → le1 j = le j := by
  intro N i hi i0 ha
  refine lp_one (fun (t : Int32 × Int32 × Int32 × (Nat → Int32)) => dc.toInt ≤ t.1.toInt ∧ 0 ≤ t.1.toInt ∧ p = t.2.1 ∧ r = t.2.2.1 ∧ ∀ j : Nat, (j : Int) < dc.toInt → t.2.2.2 j = le j) (fun a => ∃ le1, k p r le1 = some a ∧ ∀ j : Nat, (j : Int) < dc.toInt → le1 j = le j) ?_ N _ ⟨hi, i0, rfl, rfl, fun _ _ => rfl⟩ a ha
  intro f hf t hI a ha
  obtain ⟨i, q, u, l⟩ := t
  obtain ⟨hi, i0, e1, e2, hl⟩ := hI
  dsimp only at hi i0 e1 e2 hl
  subst e1 e2
  unfold f_CodeNames_readTable_L2 at ha
  dsimp only [jn, nl] at ha
  by_cases c : (16 : Int32) ≤ i
  · rw [if_pos c] at ha
    exact ⟨l, ha, hl⟩
  · rw [if_neg c, if_pos (Int32.le_iff_toInt_le.mpr hi)] at ha
    have z16 : (16 : Int32).toInt = 16 := rfl
    have c9 := t_lt (Int32.not_le.mp c)
    obtain ⟨_, ha⟩ := gq_e ha
    have iN := nat_of (n := i) (Int32.le_iff_toInt_le.mpr (by rw [z_0]; exact i0))
    have ii := inc_i (k := i) (by omega) (by omega)
    refine hf (i + 1, p, r, upd l i.toNatClampNeg 0) ⟨by show dc.toInt ≤ (i + 1).toInt; omega, by show 0 ≤ (i + 1).toInt; omega, rfl, rfl, fun j hj => ?_⟩ a ha
    show upd l i.toNatClampNeg 0 j = le j
    rw [upd_n (by omega)]
    exact hl j hj
/-- may a table stand? -/
def AL (s u v : Int32) : Prop := s = 32768 ∨ (u = 1 ∧ s = 16384) ∨ (u = 0 ∧ v = 0)
theorem sm_px {f g : Nat → Int32} : ∀ m : Nat, (∀ j : Nat, j < m → f j = g j) → smI f m = smI g m ∧ usI f m = usI g m := by
  intro m
  induction m with
  | zero => intro _; exact ⟨rfl, rfl⟩
  | succ m ih =>
    intro h
    obtain ⟨i1, i2⟩ := ih (fun j hj => h j (by omega))
    unfold smI usI
    rw [h m (by omega), i1, i2]
    exact ⟨rfl, rfl⟩
theorem allow_e {dc v z : Int32} {le : Nat → Int32} (d0 : 0 ≤ dc.toInt) (hd : dc.toInt ≤ 16) (ha : f_CodeNames_areAllowed dc le v = some z) : (z = 1 ∧ AL (smI le dc.toNatClampNeg) (usI le dc.toNatClampNeg) v) ∨ (z = 0 ∧ ¬ AL (smI le dc.toNatClampNeg) (usI le dc.toNatClampNeg) v) := by
  have dN := nat_of (n := dc) (Int32.le_iff_toInt_le.mpr (by rw [z_0]; exact d0))
  have h2 : (32768 : Int32) / (2 : Int32) = 16384 := by decide
  unfold f_CodeNames_areAllowed at ha
  refine lp_one (fun (t : Int32 × Int32 × Int32) => 0 ≤ t.1.toInt ∧ t.1.toInt ≤ dc.toInt ∧ t.2.1 = usI le t.1.toNatClampNeg ∧ t.2.2 = smI le t.1.toNatClampNeg) (fun (z : Int32) => (z = 1 ∧ AL (smI le dc.toNatClampNeg) (usI le dc.toNatClampNeg) v) ∨ (z = 0 ∧ ¬ AL (smI le dc.toNatClampNeg) (usI le dc.toNatClampNeg) v)) ?_ FU _ ?_ z ha
  · intro f hf t hI z ha
    obtain ⟨i, u, s⟩ := t
    obtain ⟨i0, i1, eu, es⟩ := hI
    dsimp only at i0 i1 eu es
    unfold f_CodeNames_areAllowed_L11 at ha
    dsimp only [jn, nl] at ha
    have iN := nat_of (n := i) (Int32.le_iff_toInt_le.mpr (by rw [z_0]; exact i0))
    by_cases c : dc ≤ i
    · rw [if_pos c] at ha
      have c9 := t_le c
      have ei : i.toNatClampNeg = dc.toNatClampNeg := by omega
      rw [← ei, ← eu, ← es]
      rw [h2] at ha
      unfold AL
      by_cases q1 : s = 32768
      · left
        refine ⟨?_, Or.inl q1⟩
        by_cases q2 : u = 1
        · rw [if_pos q2] at ha
          by_cases q3 : s = 16384
          · rw [if_pos q3, if_pos q1] at ha; exact (Option.some.inj ha).symm
          · rw [if_neg q3, if_pos q1] at ha; exact (Option.some.inj ha).symm
        · rw [if_neg q2, if_pos q1] at ha; exact (Option.some.inj ha).symm
      · by_cases q2 : u = 1
        · rw [if_pos q2] at ha
          by_cases q3 : s = 16384
          · left
            rw [if_pos q3, if_neg q1, if_neg one_nz] at ha
            exact ⟨(Option.some.inj ha).symm, Or.inr (Or.inl ⟨q2, q3⟩)⟩
          · right
            rw [if_neg q3, if_neg q1, if_pos rfl, if_neg (by rw [q2]; exact one_nz)] at ha
            refine ⟨(Option.some.inj ha).symm, fun w => ?_⟩
            rcases w with w | w | w
            · exact q1 w
            · exact q3 w.2
            · rw [q2] at w; exact one_nz w.1
        · rw [if_neg q2, if_neg q1, if_pos rfl] at ha
          by_cases q4 : u = 0
          · rw [if_pos q4] at ha
            by_cases q5 : v = 0
            · left
              rw [if_pos q5] at ha
              exact ⟨(Option.some.inj ha).symm, Or.inr (Or.inr ⟨q4, q5⟩)⟩
            · right
              rw [if_neg q5] at ha
              refine ⟨(Option.some.inj ha).symm, fun w => ?_⟩
              rcases w with w | w | w
              · exact q1 w
              · exact q2 w.1
              · exact q5 w.2
          · right
            rw [if_neg q4] at ha
            refine ⟨(Option.some.inj ha).symm, fun w => ?_⟩
            rcases w with w | w | w
            · exact q1 w
            · exact q2 w.1
            · exact q4 w.1
    · rw [if_neg c] at ha
      have c9 := t_lt (Int32.not_le.mp c)
      obtain ⟨_, ha⟩ := gq_e ha
      have ii := inc_i (k := i) (by omega) (by omega)
      have iN1 := nat_of (n := i + 1) (Int32.le_iff_toInt_le.mpr (by rw [z_0]; omega))
      have ei1 : (i + 1).toNatClampNeg = i.toNatClampNeg + 1 := by omega
      have e1 : usI le (i.toNatClampNeg + 1) = if le i.toNatClampNeg ≤ 0 then usI le i.toNatClampNeg else usI le i.toNatClampNeg + 1 := rfl
      have e2 : smI le (i.toNatClampNeg + 1) = if le i.toNatClampNeg ≤ 0 then smI le i.toNatClampNeg else smI le i.toNatClampNeg + ((32768 : Int32) >>> (le i.toNatClampNeg &&& 31)) := rfl
      by_cases q : le i.toNatClampNeg ≤ 0
      · rw [if_pos q] at ha e1 e2
        refine hf (i + 1, u, s) ⟨by show 0 ≤ (i + 1).toInt; omega, by show (i + 1).toInt ≤ dc.toInt; omega, ?_, ?_⟩ z ha
        · show u = usI le (i + 1).toNatClampNeg
          rw [ei1, e1, eu]
        · show s = smI le (i + 1).toNatClampNeg
          rw [ei1, e2, es]
      · rw [if_neg q] at ha e1 e2
        obtain ⟨_, ha⟩ := gq_e ha
        refine hf (i + 1, u + 1, s + ((32768 : Int32) >>> (le i.toNatClampNeg &&& 31))) ⟨by show 0 ≤ (i + 1).toInt; omega, by show (i + 1).toInt ≤ dc.toInt; omega, ?_, ?_⟩ z ha
        · show u + 1 = usI le (i + 1).toNatClampNeg
          rw [ei1, e1, eu]
        · show s + _ = smI le (i + 1).toNatClampNeg
          rw [ei1, e2, es]
  · exact ⟨p0_0, by show (0 : Int) ≤ dc.toInt; omega, rfl, rfl⟩
theorem p4_0 : 0 ≤ (4 : Int32).toInt := by decide
theorem n4_0 : ¬ (4 : Int32) = 0 := by decide
set_option maxRecDepth 20000 in
set_option maxHeartbeats 2000000 in
theorem tabR {n dc p v p1 r1 p9 r9 : Int32} {cb i9 leC cdC le cd le1 cd1 le9 cd9 : Nat → Int32} (hB : RB n cb i9) (hP : RP n p 0) (d0 : 0 ≤ dc.toInt) (hd : dc.toInt ≤ 16) (ha : f_CodeNames_readTable p 0 leC dc n cb cdC v = some (p1, r1, le1, cd1)) (hb : f_Mo_readCodes dc n p 0 le i9 cd v = some (p9, r9, le9, cd9)) : RS n p 0 p1 r1 p9 r9 ∧ (r1 = 0 → 1 ≤ v.toInt → NRC n dc cb i9 le1 cd1 le9 cd9) := by
  have dN := nat_of (n := dc) (Int32.le_iff_toInt_le.mpr (by rw [z_0]; exact d0))
  unfold f_CodeNames_readTable at ha
  unfold f_Mo_readCodes at hb
  refine lp_twoN (fun (s : Int32 × Int32 × Int32 × (Nat → Int32)) (t : Int32 × Int32 × Int32 × Int32 × Int32 × (Nat → Int32)) => s.1 = t.1 ∧ 0 ≤ s.1.toInt ∧ s.1.toInt ≤ dc.toInt ∧ RS n p 0 s.2.1 s.2.2.1 t.2.2.2.1 t.2.2.2.2.1 ∧ t.2.1 = smI t.2.2.2.2.2 s.1.toNatClampNeg ∧ t.2.2.1 = usI t.2.2.2.2.2 s.1.toNatClampNeg ∧ ∀ j : Nat, (j : Int) < s.1.toInt → s.2.2.2 j = t.2.2.2.2.2 j ∧ 0 ≤ (s.2.2.2 j).toInt ∧ (s.2.2.2 j).toInt ≤ 15)
    (fun (a : Int32 × Int32 × (Nat → Int32) × (Nat → Int32)) (d : Int32 × Int32 × (Nat → Int32) × (Nat → Int32)) => RS n p 0 a.1 a.2.1 d.1 d.2.1 ∧ (a.2.1 = 0 → 1 ≤ v.toInt → NRC n dc cb i9 a.2.2.1 a.2.2.2 d.2.2.1 d.2.2.2)) ?_ _ _ _ _ ?_ _ _ ha hb
  · intro N M hfg s t hI a d ha hb
    obtain ⟨i, pl, rr, lC⟩ := s
    obtain ⟨i8, sm, us, p8, r8, lM⟩ := t
    obtain ⟨e, i0, i1, hS, esm, eus, hA⟩ := hI
    dsimp only at e i0 i1 hS esm eus hA
    subst e
    have hS9 := hS
    obtain ⟨e1, e2, hP1, _, _⟩ := hS
    subst e1 e2
    have iN := nat_of (n := i) (Int32.le_iff_toInt_le.mpr (by rw [z_0]; exact i0))
    by_cases c : dc ≤ i
    · have c9 := t_le c
      have ei : i.toNatClampNeg = dc.toNatClampNeg := by omega
      obtain ⟨g, eg⟩ : ∃ g, g = lp (f_Mo_readCodes_L7 dc n i9 (fun (v3_7 : Int32) (v2_8 : Int32) (mo_at_9 : Int32) (mo_refused_10 : Int32) (mo_lengths_11 : (Nat → Int32)) =>
      jn (fun (s_18 : Int32) =>
          jn (fun (mo_refused_19 : Int32) =>
              bd (f_Mo_findCodes dc mo_lengths_11 cd) fun mo_codes_20 =>
              some (mo_at_9, mo_refused_19, mo_lengths_11, mo_codes_20)) fun j129 =>
          if mo_refused_10 = 0 then
            if s_18 = 0 then
              bd (f_Mo_refuse mo_refused_10 (4 : Int32)) fun mo_refused_21 =>
              j129 mo_refused_21
            else
              j129 mo_refused_10
          else
            j129 mo_refused_10) fun j110 =>
      jn (fun (_ : Unit) =>
          j110 (1 : Int32)) fun j105 =>
      if v3_7 = (32768 : Int32) then
        j105 ()
      else
        jn (fun (_ : Unit) =>
            jn (fun (_ : Unit) =>
                j110 (0 : Int32)) fun j109 =>
            if v2_8 = 0 then
              if v = 0 then
                j105 ()
              else
                j109 ()
            else
              j109 ()) fun j97 =>
        if v2_8 = (1 : Int32) then
          if v3_7 = (16384 : Int32) then
            j105 ()
          else
            j97 ()
        else
          j97 ())) M := ⟨_, rfl⟩
      rw [← eg] at hb
      unfold f_Mo_readCodes_L7 at hb
      dsimp only at hb
      rw [if_pos c] at hb
      obtain ⟨j110, e110, hb⟩ := jn_e hb
      obtain ⟨j105, e105, hb⟩ := jn_e hb
      have ha2 : lp (f_CodeNames_readTable_L2 dc n cb (fun (rd_place_5 : Int32) (rd_refusal_6 : Int32) (na_lengths_7 : (Nat → Int32)) =>
      bd (f_CodeNames_areAllowed dc na_lengths_7 v) fun r_16 =>
      jn (fun (rd_refusal_17 : Int32) =>
          bd (f_CodeNames_assignCodes dc na_lengths_7 cdC) fun na_codes_18 =>
          some (rd_place_5, rd_refusal_17, na_lengths_7, na_codes_18)) fun j53 =>
      if r_16 = 0 then
        bd (f_BitReader_refuse rd_refusal_6 (4 : Int32)) fun rd_refusal_19 =>
        j53 rd_refusal_19
      else
        j53 rd_refusal_6)) (N + 1) (i, p8, r8, lC) = some a := ha
      obtain ⟨l1, ha, hl1⟩ := rest_C (N + 1) i c9 i0 ha2
      obtain ⟨z, hz, ha⟩ := bd_e ha
      have al := allow_e d0 hd hz
      have eqs : ∀ j : Nat, j < dc.toNatClampNeg → l1 j = lM j := fun j hj => by rw [hl1 j (by omega)]; exact (hA j (by omega)).1
      obtain ⟨s1, s2⟩ := sm_px dc.toNatClampNeg eqs
      rw [s1, s2, ← ei, ← esm, ← eus] at al
      have hb : (AL sm us v ∧ j110 1 = some d) ∨ (¬ AL sm us v ∧ j110 0 = some d) := by
        rw [e105] at hb
        dsimp only [jn] at hb
        unfold AL
        by_cases q1 : sm = 32768
        · rw [if_pos q1] at hb
          exact Or.inl ⟨Or.inl q1, hb⟩
        · rw [if_neg q1] at hb
          by_cases q2 : us = 1
          · rw [if_pos q2] at hb
            by_cases q3 : sm = 16384
            · rw [if_pos q3] at hb
              exact Or.inl ⟨Or.inr (Or.inl ⟨q2, q3⟩), hb⟩
            · rw [if_neg q3, if_neg (by rw [q2]; exact one_nz)] at hb
              refine Or.inr ⟨fun w => ?_, hb⟩
              rcases w with w | w | w
              · exact q1 w
              · exact q3 w.2
              · rw [q2] at w; exact one_nz w.1
          · rw [if_neg q2] at hb
            by_cases q4 : us = 0
            · rw [if_pos q4] at hb
              by_cases q5 : v = 0
              · rw [if_pos q5] at hb
                exact Or.inl ⟨Or.inr (Or.inr ⟨q4, q5⟩), hb⟩
              · rw [if_neg q5] at hb
                refine Or.inr ⟨fun w => ?_, hb⟩
                rcases w with w | w | w
                · exact q1 w
                · exact q2 w.1
                · exact q5 w.2
            · rw [if_neg q4] at hb
              refine Or.inr ⟨fun w => ?_, hb⟩
              rcases w with w | w | w
              · exact q1 w
              · exact q2 w.1
              · exact q4 w.1
      dsimp only [jn] at ha
      -- the end: codes
      have fin : ∀ (q : Int32), RS n p 0 p8 q p8 q → (q = 0 → 1 ≤ v.toInt → sm = 32768 ∨ (us = 1 ∧ sm = 16384)) → (bd (f_CodeNames_assignCodes dc l1 cdC) fun na_codes_18 => some (p8, q, l1, na_codes_18)) = some a → (bd (f_Mo_findCodes dc lM cd) fun mo_codes_20 => some (p8, q, lM, mo_codes_20)) = some d → RS n p 0 a.1 a.2.1 d.1 d.2.1 ∧ (a.2.1 = 0 → 1 ≤ v.toInt → NRC n dc cb i9 a.2.2.1 a.2.2.2 d.2.2.1 d.2.2.2) := by
        intro q hSq hq ha hb
        obtain ⟨cA, hcA, ha⟩ := bd_e ha
        obtain ⟨cB, hcB, hb⟩ := bd_e hb
        have ha := Option.some.inj ha
        have hb := Option.some.inj hb
        subst ha hb
        refine ⟨hSq, fun z1 z2 => ?_⟩
        have hl2 : ∀ j : Nat, (j : Int) < dc.toInt → l1 j = lM j ∧ 0 ≤ (l1 j).toInt ∧ (l1 j).toInt ≤ 15 := fun j hj => by
          have w := hA j (by omega)
          rw [hl1 j hj]
          exact w
        have sme := sm_e (le := l1) dc.toNatClampNeg (by omega) (fun j hj => (hl2 j (by omega)).2)
        have kr := kraft l1 dc.toNatClampNeg 15 (Nat.le_refl _)
        rw [Nat.sub_self, Nat.pow_zero, Nat.mul_one] at kr
        rw [s1, ← ei, ← esm, ei] at sme
        have smt : sm.toInt = (kS l1 15 dc.toNatClampNeg : Int) := by
          rw [sme.1]
          exact Int32.toInt_ofNat_of_lt (by omega)
        have al2 := hq z1 z2
        have used : ∃ j : Nat, (j : Int) < dc.toInt ∧ 1 ≤ (l1 j).toInt := by
          by_cases w : ∃ j : Nat, (j : Int) < dc.toInt ∧ 1 ≤ (l1 j).toInt
          · exact w
          · exfalso
            have z0 : ∀ m : Nat, m ≤ dc.toNatClampNeg → smI l1 m = 0 := by
              intro m
              induction m with
              | zero => intro _; rfl
              | succ m ih =>
                intro hm
                unfold smI
                rw [if_pos (Int32.not_lt.mp (fun x => w ⟨m, by omega, by have := t_lt x; rw [z_0] at this; omega⟩))]
                exact ih (by omega)
            have z9 := z0 dc.toNatClampNeg (Nat.le_refl _)
            rw [s1, ← ei, ← esm] at z9
            rcases al2 with x | x
            · rw [z9] at x; exact absurd x (by decide)
            · rw [z9] at x; exact absurd x.2 (by decide)
        refine nrc hB d0 hd hl2 (codes2 hd (fun j hj => (hl2 j hj).1) hcA hcB |> fun h j hj h1 => h j hj h1 (by rw [← (hl2 j hj).1]; exact (hl2 j hj).2.2)) hcA ?_ used
        rcases al2 with x | ⟨x1, x2⟩
        · left
          rw [x] at smt
          have z9 : (32768 : Int32).toInt = 32768 := rfl
          show nxL l1 dc.toNatClampNeg 15 = 32768
          omega
        · right
          intro j hj
          show (l1 j).toInt ≤ 1
          by_cases w : l1 j ≤ 0
          · have := t_le w
            rw [z_0] at this
            omega
          · have u1 : usI l1 dc.toNatClampNeg = 1 := by rw [s2, ← ei, ← eus]; exact x1
            have k1 := us_1 dc.toNatClampNeg (by omega) u1 j (by omega) w
            rw [s1, ← ei, ← esm, x2] at k1
            have hj9 := hl2 j hj
            have lN := nat_of (n := l1 j) (Int32.le_iff_toInt_le.mpr (by rw [z_0]; exact hj9.2.1))
            have e : l1 j = Int32.ofNat (l1 j).toNatClampNeg := (ofn lN).symm
            have key : ∀ k : Nat, k ≤ 15 → (16384 : Int32) = (32768 : Int32) >>> (Int32.ofNat k &&& 31) → k ≤ 1 := by decide
            rw [e] at k1
            have := key _ (by omega) k1
            omega
      have w0 : ∀ z2 : 1 ≤ v.toInt, AL sm us v → sm = 32768 ∨ (us = 1 ∧ sm = 16384) := by
        intro z2 w
        rcases w with w | w | w
        · exact Or.inl w
        · exact Or.inr w
        · rw [w.2, z_0] at z2; omega
      rcases al with ⟨ez, hal⟩ | ⟨ez, hal⟩
      · rw [if_neg (by rw [ez]; exact one_nz)] at ha
        have hb : j110 1 = some d := by
          rcases hb with w | w
          · exact w.2
          · exact absurd hal w.1
        rw [e110] at hb
        dsimp only [jn] at hb
        have hb : (bd (f_Mo_findCodes dc lM cd) fun mo_codes_20 => some (p8, r8, lM, mo_codes_20)) = some d := by
          by_cases q : r8 = 0
          · rw [if_pos q, if_neg one_nz] at hb; exact hb
          · rw [if_neg q] at hb; exact hb
        exact fin r8 hS9 (fun _ z2 => w0 z2 hal) ha hb
      · rw [if_pos ez] at ha
        have hb : j110 0 = some d := by
          rcases hb with w | w
          · exact absurd w.1 hal
          · exact w.2
        rw [e110] at hb
        dsimp only [jn] at hb
        obtain ⟨x, hx, ha⟩ := bd_e ha
        by_cases q : r8 = 0
        · rw [if_pos q, if_pos rfl] at hb
          obtain ⟨y, hy, hb⟩ := bd_e hb
          have w1 := ref_0 q hx
          have w2 := refM_0 q hy
          subst w1 w2
          exact fin 4 ⟨rfl, rfl, ⟨hP1.1, hP1.2.1, p4_0⟩, fun z => absurd rfl z, fun z => absurd z n4_0⟩ (fun z => absurd z n4_0) ha hb
        · rw [if_neg q] at hb
          have w1 := ref_k q hx
          subst w1
          exact fin r8 hS9 (fun z => absurd z q) ha hb
    · have c9 := t_lt (Int32.not_le.mp c)
      obtain ⟨f, ef⟩ : ∃ f, f = lp (f_CodeNames_readTable_L2 dc n cb (fun (rd_place_5 : Int32) (rd_refusal_6 : Int32) (na_lengths_7 : (Nat → Int32)) =>
      bd (f_CodeNames_areAllowed dc na_lengths_7 v) fun r_16 =>
      jn (fun (rd_refusal_17 : Int32) =>
          bd (f_CodeNames_assignCodes dc na_lengths_7 cdC) fun na_codes_18 =>
          some (rd_place_5, rd_refusal_17, na_lengths_7, na_codes_18)) fun j53 =>
      if r_16 = 0 then
        bd (f_BitReader_refuse rd_refusal_6 (4 : Int32)) fun rd_refusal_19 =>
        j53 rd_refusal_19
      else
        j53 rd_refusal_6)) N := ⟨_, rfl⟩
      obtain ⟨g, eg⟩ : ∃ g, g = lp (f_Mo_readCodes_L7 dc n i9 (fun (v3_7 : Int32) (v2_8 : Int32) (mo_at_9 : Int32) (mo_refused_10 : Int32) (mo_lengths_11 : (Nat → Int32)) =>
      jn (fun (s_18 : Int32) =>
          jn (fun (mo_refused_19 : Int32) =>
              bd (f_Mo_findCodes dc mo_lengths_11 cd) fun mo_codes_20 =>
              some (mo_at_9, mo_refused_19, mo_lengths_11, mo_codes_20)) fun j129 =>
          if mo_refused_10 = 0 then
            if s_18 = 0 then
              bd (f_Mo_refuse mo_refused_10 (4 : Int32)) fun mo_refused_21 =>
              j129 mo_refused_21
            else
              j129 mo_refused_10
          else
            j129 mo_refused_10) fun j110 =>
      jn (fun (_ : Unit) =>
          j110 (1 : Int32)) fun j105 =>
      if v3_7 = (32768 : Int32) then
        j105 ()
      else
        jn (fun (_ : Unit) =>
            jn (fun (_ : Unit) =>
                j110 (0 : Int32)) fun j109 =>
            if v2_8 = 0 then
              if v = 0 then
                j105 ()
              else
                j109 ()
            else
              j109 ()) fun j97 =>
        if v2_8 = (1 : Int32) then
          if v3_7 = (16384 : Int32) then
            j105 ()
          else
            j97 ()
        else
          j97 ())) M := ⟨_, rfl⟩
      rw [← ef] at ha
      rw [← eg] at hb
      unfold f_CodeNames_readTable_L2 at ha
      unfold f_Mo_readCodes_L7 at hb
      dsimp only [jn, nl] at ha hb
      have z16 : (16 : Int32).toInt = 16 := rfl
      rw [if_neg (fun z => by have := t_le z; omega), if_neg c] at ha
      rw [if_neg c] at hb
      obtain ⟨x, hx, ha⟩ := bd_e ha
      obtain ⟨y, hy, hb⟩ := bd_e hb
      obtain ⟨x1, x2, x3⟩ := x
      obtain ⟨y1, y2, y3⟩ := y
      obtain ⟨hS, e1⟩ := low2 hB hP1 hx hy
      have rng := low_rng ⟨hB.1, hB.2.1⟩ hP1 (by decide) hy (by decide)
      have p16 : (pw 4).toInt = 16 := rfl
      rw [p16] at rng
      have hSt := rs_t hS9 hS
      obtain ⟨e2, e3, hP2, _, _⟩ := hS
      subst e1 e2 e3
      dsimp only at ha hb
      obtain ⟨_, ha⟩ := gq_e ha
      obtain ⟨_, hb⟩ := gq_e hb
      obtain ⟨_, hb⟩ := gq_e hb
      rw [upd_c rfl] at hb
      have ii := inc_i (k := i) (by omega) (by omega)
      have iN1 := nat_of (n := i + 1) (Int32.le_iff_toInt_le.mpr (by rw [z_0]; omega))
      have ei1 : (i + 1).toNatClampNeg = i.toNatClampNeg + 1 := by omega
      obtain ⟨s1, s2⟩ := sm_px (f := upd lM i.toNatClampNeg y1) (g := lM) i.toNatClampNeg (fun j hj => upd_n (by omega))
      have e1 : usI (upd lM i.toNatClampNeg y1) (i.toNatClampNeg + 1) = if upd lM i.toNatClampNeg y1 i.toNatClampNeg ≤ 0 then usI (upd lM i.toNatClampNeg y1) i.toNatClampNeg else usI (upd lM i.toNatClampNeg y1) i.toNatClampNeg + 1 := rfl
      have e2 : smI (upd lM i.toNatClampNeg y1) (i.toNatClampNeg + 1) = if upd lM i.toNatClampNeg y1 i.toNatClampNeg ≤ 0 then smI (upd lM i.toNatClampNeg y1) i.toNatClampNeg else smI (upd lM i.toNatClampNeg y1) i.toNatClampNeg + ((32768 : Int32) >>> (upd lM i.toNatClampNeg y1 i.toNatClampNeg &&& 31)) := rfl
      rw [upd_c rfl, s2] at e1
      rw [upd_c rfl, s1] at e2
      have go : ∀ sm2 us2 : Int32, sm2 = smI (upd lM i.toNatClampNeg y1) (i.toNatClampNeg + 1) → us2 = usI (upd lM i.toNatClampNeg y1) (i.toNatClampNeg + 1) → g (i + 1, sm2, us2, y2, y3, upd lM i.toNatClampNeg y1) = some d → RS n p 0 a.1 a.2.1 d.1 d.2.1 ∧ (a.2.1 = 0 → 1 ≤ v.toInt → NRC n dc cb i9 a.2.2.1 a.2.2.2 d.2.2.1 d.2.2.2) := by
        intro sm2 us2 h1 h2 hb
        rw [ef] at ha
        rw [eg] at hb
        refine hfg (i + 1, y2, y3, upd lC i.toNatClampNeg y1) (i + 1, sm2, us2, y2, y3, upd lM i.toNatClampNeg y1) ⟨rfl, by show 0 ≤ (i + 1).toInt; omega, by show (i + 1).toInt ≤ dc.toInt; omega, hSt, ?_, ?_, fun j hj => ?_⟩ a d ha hb
        · show sm2 = smI (upd lM i.toNatClampNeg y1) (i + 1).toNatClampNeg
          rw [ei1]; exact h1
        · show us2 = usI (upd lM i.toNatClampNeg y1) (i + 1).toNatClampNeg
          rw [ei1]; exact h2
        · have hj : (j : Int) < (i + 1).toInt := hj
          show upd lC i.toNatClampNeg y1 j = upd lM i.toNatClampNeg y1 j ∧ 0 ≤ (upd lC i.toNatClampNeg y1 j).toInt ∧ (upd lC i.toNatClampNeg y1 j).toInt ≤ 15
          by_cases q : j = i.toNatClampNeg
          · rw [upd_c q, upd_c q]; exact ⟨rfl, rng.1, by omega⟩
          · rw [upd_n q, upd_n q]; exact hA j (by omega)
      by_cases q : y1 ≤ 0
      · rw [if_pos q] at hb e1 e2
        obtain ⟨_, hb⟩ := gq_e hb
        rw [if_pos q] at hb
        exact go sm us (by rw [e2, esm]) (by rw [e1, eus]) hb
      · rw [if_neg q] at hb e1 e2
        obtain ⟨_, hb⟩ := gq_e hb
        rw [if_neg q] at hb
        obtain ⟨_, hb⟩ := gq_e hb
        exact go _ _ (by rw [e2, esm]) (by rw [e1, eus]) hb
  · exact ⟨rfl, p0_0, by show (0 : Int) ≤ dc.toInt; omega, rs_0 hP, rfl, rfl, fun j hj => by have hj : (j : Int) < 0 := hj; omega⟩
theorem tab_k {n p r dc v p1 r1 : Int32} {cb leC cdC le1 cd1 : Nat → Int32} (hr : ¬ r = 0) (ha : f_CodeNames_readTable p r leC dc n cb cdC v = some (p1, r1, le1, cd1)) : p = p1 ∧ r = r1 := by
  unfold f_CodeNames_readTable at ha
  refine lp_one (fun (t : Int32 × Int32 × Int32 × (Nat → Int32)) => p = t.2.1 ∧ r = t.2.2.1) (fun (a : Int32 × Int32 × (Nat → Int32) × (Nat → Int32)) => p = a.1 ∧ r = a.2.1) ?_ FU _ ⟨rfl, rfl⟩ _ ha
  intro f hf t hI a ha
  obtain ⟨i, q, u, l⟩ := t
  obtain ⟨e1, e2⟩ := hI
  dsimp only at e1 e2
  subst e1 e2
  unfold f_CodeNames_readTable_L2 at ha
  dsimp only [jn, nl] at ha
  by_cases c : (16 : Int32) ≤ i
  · rw [if_pos c] at ha
    obtain ⟨z, hz, ha⟩ := bd_e ha
    have fin : ∀ w : Int32, w = r → (bd (f_CodeNames_assignCodes dc l cdC) fun na_codes_18 => some (p, w, l, na_codes_18)) = some a → p = a.1 ∧ r = a.2.1 := by
      intro w hw ha
      obtain ⟨x, hx, ha⟩ := bd_e ha
      rw [← Option.some.inj ha]
      exact ⟨rfl, hw.symm⟩
    by_cases q : z = 0
    · rw [if_pos q] at ha
      obtain ⟨w, hw, ha⟩ := bd_e ha
      exact fin w (ref_k hr hw).symm ha
    · rw [if_neg q] at ha
      exact fin r rfl ha
  · rw [if_neg c] at ha
    by_cases q : dc ≤ i
    · rw [if_pos q] at ha
      obtain ⟨_, ha⟩ := gq_e ha
      exact hf _ ⟨rfl, rfl⟩ a ha
    · rw [if_neg q] at ha
      obtain ⟨x, hx, ha⟩ := bd_e ha
      obtain ⟨x1, x2, x3⟩ := x
      obtain ⟨e1, e2⟩ := bits_k hr hx
      dsimp only at e1 e2 ha
      subst e1 e2
      obtain ⟨_, ha⟩ := gq_e ha
      exact hf _ ⟨rfl, rfl⟩ a ha
