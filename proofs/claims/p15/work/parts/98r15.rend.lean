/-! DRAFT: the end of a reading, in step -/
theorem p9_0 : 0 ≤ (9 : Int32).toInt := by decide
theorem n9_0 : ¬ (9 : Int32) = 0 := by decide
/-- a refused reader's end -/
theorem end_k {n p r : Int32} {cb : Nat → Int32} {o : Int32 × Int32} (hr : ¬ r = 0) (ha : f_BitReader_readEnd p r n cb = some o) : o = (p, r) := by
  unfold f_BitReader_readEnd at ha
  refine lp_one (fun (t : Int32 × Int32 × Int32) => p = t.2.1 ∧ r = t.2.2) (fun (o : Int32 × Int32) => o = (p, r)) ?_ FU _ ⟨rfl, rfl⟩ o ha
  intro f hf t hI a ha
  obtain ⟨i, q, u⟩ := t
  obtain ⟨e1, e2⟩ := hI
  dsimp only at e1 e2
  subst e1 e2
  unfold f_BitReader_readEnd_L2 at ha
  dsimp only [jn, nl] at ha
  have fin : ∀ a, (if n ≤ p / (8 : Int32) then some (p, r) else bd (f_BitReader_refuse r (9 : Int32)) fun rd_refusal_12 => some (p, rd_refusal_12)) = some a → a = (p, r) := by
    intro a ha
    by_cases c : n ≤ p / (8 : Int32)
    · rw [if_pos c] at ha
      exact (Option.some.inj ha).symm
    · rw [if_neg c] at ha
      obtain ⟨z, hz, ha⟩ := bd_e ha
      have := ref_k hr hz
      subst this
      exact (Option.some.inj ha).symm
  by_cases c1 : (8 : Int32) ≤ i
  · rw [if_pos c1] at ha
    exact fin a ha
  · rw [if_neg c1] at ha
    by_cases c2 : p - p / (8 : Int32) * (8 : Int32) = 0
    · rw [if_pos c2] at ha
      exact fin a ha
    · rw [if_neg c2] at ha
      obtain ⟨x, hx, ha⟩ := bd_e ha
      have := next_k hr hx
      subst this
      dsimp only at ha
      rw [if_neg (by decide)] at ha
      exact hf (i + 1, p, r) ⟨rfl, rfl⟩ a ha
theorem end2 {ρ : Type} {n p r p1 r1 : Int32} {cb i9 : Nat → Int32} {K : Int32 → Int32 → ρ} {d : ρ} {G : (Int32 × Int32 → Option ρ) → Int32 × Int32 → Option ρ}
    (hG : ∀ self q u, G self (q, u) = if u = 0 then if (q - q / (8 : Int32) * (8 : Int32)) ≤ 0 then (if u = 0 then if ((8 : Int32) * n) ≤ q then some (K q u) else bd (f_Mo_refuse u (9 : Int32)) fun v => some (K q v) else some (K q u)) else bd (f_Mo_next n q u i9) fun x => if x.1 = (1 : Int32) then bd (f_Mo_refuse x.2.2 (9 : Int32)) fun v => self (x.2.1, v) else self (x.2.1, x.2.2) else (if u = 0 then if ((8 : Int32) * n) ≤ q then some (K q u) else bd (f_Mo_refuse u (9 : Int32)) fun v => some (K q v) else some (K q u)))
    (hB : RB n cb i9) (hP : RP n p r) (ha : f_BitReader_readEnd p r n cb = some (p1, r1)) (hb : lp G FU (p, r) = some d) : d = K p1 r1 ∧ RP n p1 r1 ∧ (r1 = 0 → r = 0) := by
  obtain ⟨n0, n1, hX⟩ := hB
  have hB : RB n cb i9 := ⟨n0, n1, hX⟩
  have m8 : ((8 : Int32) * n).toInt = 8 * n.toInt := i_mul z_8 rfl (by omega) (by omega)
  have stopM : ∀ (M : Nat) (q u : Int32) (d : ρ), ¬ u = 0 → lp G M (q, u) = some d → d = K q u := by
    intro M q u d hu hb
    cases M with
    | zero => exact absurd hb (by simp [lp])
    | succ M =>
      obtain ⟨g, eg, hb⟩ := lp_x hb
      rw [hG, if_neg hu, if_neg hu] at hb
      exact (Option.some.inj hb).symm
  by_cases cr : r = 0
  · subst cr
    unfold f_BitReader_readEnd at ha
    have key := lp_twoN (fun (s : Int32 × Int32 × Int32) (t : Int32 × Int32) => 0 ≤ s.1.toInt ∧ s.2.1 = t.1 ∧ s.2.2 = 0 ∧ t.2 = 0 ∧ RP n s.2.1 0 ∧ (s.2.1.toInt % 8 = 0 ∨ s.1.toInt < s.2.1.toInt % 8)) (fun (a : Int32 × Int32) (d : ρ) => d = K a.1 a.2 ∧ RP n a.1 a.2) (by
      intro N M hfg s t hI a d ha hb
      obtain ⟨i, q, u⟩ := s
      obtain ⟨q9, u9⟩ := t
      dsimp only at hI
      obtain ⟨i0, e1, e2, e3, hP, hi⟩ := hI
      subst e1 e2 e3
      have q0 := hP.1
      have q8 := hP.2.1
      have d8 := div8 q0
      have r8 := rem8 q0
      rw [hG, if_pos rfl] at hb
      obtain ⟨g, eg⟩ : ∃ g, g = lp (f_BitReader_readEnd_L2 n cb (fun (rd_place_4 : Int32) (rd_refusal_5 : Int32) =>
        if n ≤ (rd_place_4 / (8 : Int32)) then
          some (rd_place_4, rd_refusal_5)
        else
          bd (f_BitReader_refuse rd_refusal_5 (9 : Int32)) fun rd_refusal_12 =>
          some (rd_place_4, rd_refusal_12))) N := ⟨_, rfl⟩
      rw [← eg] at ha
      unfold f_BitReader_readEnd_L2 at ha
      dsimp only [jn, nl] at ha
      by_cases c2 : q - q / (8 : Int32) * (8 : Int32) = 0
      · have r0 := zero_t.mp c2
        rw [r8] at r0
        rw [if_pos (by rw [c2]; exact Int32.le_refl _), if_pos rfl] at hb
        have ha : (if n ≤ q / (8 : Int32) then some (q, (0 : Int32)) else bd (f_BitReader_refuse (0 : Int32) (9 : Int32)) fun rd_refusal_12 => some (q, rd_refusal_12)) = some a := by
          by_cases c1 : (8 : Int32) ≤ i
          · rw [if_pos c1] at ha; exact ha
          · rw [if_neg c1, if_pos c2] at ha; exact ha
        by_cases c3 : n ≤ q / (8 : Int32)
        · have c39 := t_le c3
          rw [if_pos c3] at ha
          rw [if_pos (Int32.le_iff_toInt_le.mpr (by omega))] at hb
          rw [← Option.some.inj ha, ← Option.some.inj hb]
          exact ⟨rfl, hP⟩
        · have c39 := t_lt (Int32.not_le.mp c3)
          rw [if_neg c3] at ha
          rw [if_neg (fun z => by have := t_le z; omega)] at hb
          obtain ⟨z1, hz1, ha⟩ := bd_e ha
          obtain ⟨z2, hz2, hb⟩ := bd_e hb
          have y1 := ref_0 rfl hz1
          have y2 := refM_0 rfl hz2
          subst y1 y2
          rw [← Option.some.inj ha, ← Option.some.inj hb]
          exact ⟨rfl, ⟨q0, q8, p9_0⟩⟩
      · have r0 : ¬ q.toInt % 8 = 0 := fun z => c2 (zero_t.mpr (by rw [r8]; exact z))
        have hi : i.toInt < q.toInt % 8 := by
          rcases hi with z | z
          · exact absurd z r0
          · exact z
        rw [if_neg (fun z => by have := t_le z; rw [z_8] at this; omega), if_neg c2] at ha
        rw [if_neg (fun z => by have := t_le z; rw [r8, z_0] at this; omega)] at hb
        obtain ⟨x, hx, ha⟩ := bd_e ha
        obtain ⟨y, hy, hb⟩ := bd_e hb
        obtain ⟨x1, x2, x3⟩ := x
        obtain ⟨y1, y2, y3⟩ := y
        have hpl : x3 = 0 → x2 = q + 1 := by
          intro z
          unfold f_BitReader_nextBit at hx
          rw [if_pos rfl] at hx
          by_cases cz : q / (8 : Int32) < n
          · rw [if_pos cz] at hx
            obtain ⟨_, hx⟩ := gq_e hx
            exact (some3 hx).2.1
          · rw [if_neg cz] at hx
            rw [(some3 hx).2.2] at z
            exact absurd z one_nz
        obtain ⟨hS, e1, e2, e3⟩ := next_S hB hP hx hy
        obtain ⟨e4, e5, hP1, _, _⟩ := hS
        subst e1 e4 e5
        dsimp only at ha hb
        have stopC : ∀ (v : Int32) (a : Int32 × Int32), ¬ v = 0 → g (i + 1, y2, v) = some a → a = (y2, v) := by
          intro v a hv ha
          rw [eg] at ha
          have hk : ∀ (N : Nat) (j : Int32) (o : Int32 × Int32), lp (f_BitReader_readEnd_L2 n cb (fun (rd_place_4 : Int32) (rd_refusal_5 : Int32) =>
            if n ≤ (rd_place_4 / (8 : Int32)) then
              some (rd_place_4, rd_refusal_5)
            else
              bd (f_BitReader_refuse rd_refusal_5 (9 : Int32)) fun rd_refusal_12 =>
              some (rd_place_4, rd_refusal_12))) N (j, y2, v) = some o → o = (y2, v) := by
            intro N j o ho
            refine lp_one (fun (t : Int32 × Int32 × Int32) => y2 = t.2.1 ∧ v = t.2.2) (fun (o : Int32 × Int32) => o = (y2, v)) ?_ N _ ⟨rfl, rfl⟩ o ho
            intro f hf t hI a ha
            obtain ⟨i, q, u⟩ := t
            obtain ⟨e1, e2⟩ := hI
            dsimp only at e1 e2
            subst e1 e2
            unfold f_BitReader_readEnd_L2 at ha
            dsimp only [jn, nl] at ha
            have fin : ∀ a, (if n ≤ y2 / (8 : Int32) then some (y2, v) else bd (f_BitReader_refuse v (9 : Int32)) fun rd_refusal_12 => some (y2, rd_refusal_12)) = some a → a = (y2, v) := by
              intro a ha
              by_cases c : n ≤ y2 / (8 : Int32)
              · rw [if_pos c] at ha
                exact (Option.some.inj ha).symm
              · rw [if_neg c] at ha
                obtain ⟨z, hz, ha⟩ := bd_e ha
                have := ref_k hv hz
                subst this
                exact (Option.some.inj ha).symm
            by_cases c1 : (8 : Int32) ≤ i
            · rw [if_pos c1] at ha
              exact fin a ha
            · rw [if_neg c1] at ha
              by_cases c2 : y2 - y2 / (8 : Int32) * (8 : Int32) = 0
              · rw [if_pos c2] at ha
                exact fin a ha
              · rw [if_neg c2] at ha
                obtain ⟨x, hx, ha⟩ := bd_e ha
                have := next_k hv hx
                subst this
                dsimp only at ha
                rw [if_neg (by decide)] at ha
                exact hf (i + 1, y2, v) ⟨rfl, rfl⟩ a ha
          exact hk N _ _ ha
        by_cases b1 : y1 = 1
        · rw [if_pos b1] at ha hb
          have y30 : y3 = 0 := by
            by_cases z : y3 = 0
            · exact z
            · have := e3 z
              rw [b1] at this
              exact absurd this (by decide)
          obtain ⟨z1, hz1, ha⟩ := bd_e ha
          obtain ⟨z2, hz2, hb⟩ := bd_e hb
          have w1 := ref_0 y30 hz1
          have w2 := refM_0 y30 hz2
          subst w1 w2
          rw [stopC 9 a n9_0 ha, stopM M y2 9 d n9_0 hb]
          exact ⟨rfl, ⟨hP1.1, hP1.2.1, p9_0⟩⟩
        · rw [if_neg b1] at ha hb
          by_cases c3 : y3 = 0
          · have e9 := hpl c3
            subst c3
            have qi := inc_i (k := q) (by omega) (by omega)
            have ii := inc_i (k := i) (by omega) (by omega)
            rw [eg] at ha
            refine hfg (i + 1, y2, 0) (y2, 0) ⟨by show 0 ≤ (i + 1).toInt; omega, rfl, rfl, rfl, hP1, ?_⟩ a d ha hb
            show y2.toInt % 8 = 0 ∨ (i + 1).toInt < y2.toInt % 8
            rw [e9, qi]
            omega
          · rw [stopC y3 a c3 ha, stopM M y2 y3 d c3 hb]
            exact ⟨rfl, hP1⟩) FU FU (0, p, 0) (p, 0) ⟨p0_0, rfl, rfl, rfl, hP, (by
        show p.toInt % 8 = 0 ∨ (0 : Int) < p.toInt % 8
        omega)⟩ _ _ ha hb
    exact ⟨key.1, key.2, fun _ => rfl⟩
  · have e := end_k cr ha
    obtain ⟨e1, e2⟩ := Prod.mk.inj e
    rw [e1, e2]
    exact ⟨stopM FU p r d cr hb, hP, fun z => z⟩
theorem low1_next {n p r b p1 r1 : Int32} {i9 : Nat → Int32} (h : f_Mo_next n p r i9 = some (b, p1, r1)) : f_Mo_nextLow n p r i9 1 = some (b, p1, r1) := by
  have f : f_Mo_nextLow n p r i9 1 = f_Mo_nextLow_L4 1 n i9 (lp (f_Mo_nextLow_L4 1 n i9) 99999) (0, 0, p, r) := rfl
  have s : ∀ v q u : Int32, lp (f_Mo_nextLow_L4 1 n i9) 99999 (0 + 1, v, q, u) = some (v, q, u) := by
    intro v q u
    have f : lp (f_Mo_nextLow_L4 1 n i9) 99999 (0 + 1, v, q, u) = f_Mo_nextLow_L4 1 n i9 (lp (f_Mo_nextLow_L4 1 n i9) 99998) (0 + 1, v, q, u) := rfl
    rw [f]
    generalize lp (f_Mo_nextLow_L4 1 n i9) 99998 = g
    unfold f_Mo_nextLow_L4
    dsimp only
    rw [if_pos (by decide)]
  rw [f]
  generalize lp (f_Mo_nextLow_L4 1 n i9) 99999 = g at s ⊢
  unfold f_Mo_nextLow_L4
  dsimp only
  rw [if_neg (by decide), h]
  show g (0 + 1, 2 * 0 + b, p1, r1) = some (b, p1, r1)
  rw [s]
  have : (2 : Int32) * 0 + b = b := by
    have z : (2 : Int32) * 0 = 0 := by decide
    rw [z, Int32.zero_add]
  rw [this]
theorem empty_e {W W1 : Nat → Int32} {c : Int32} (h : f_Layout_empty W = some (c, W1)) : c = 0 := by
  unfold f_Layout_empty at h
  refine lp_one (fun (_ : Int32 × (Nat → Int32)) => True) (fun (o : Int32 × (Nat → Int32)) => o.1 = 0) ?_ FU _ trivial _ h
  intro f hf t _ a ha
  obtain ⟨i, g⟩ := t
  unfold f_Layout_empty_L7 at ha
  dsimp only at ha
  by_cases c : (4 : Int32) ≤ i
  · rw [if_pos c] at ha
    rw [← Option.some.inj ha]
  · rw [if_neg c] at ha
    obtain ⟨_, ha⟩ := gq_e ha
    exact hf _ trivial a ha
