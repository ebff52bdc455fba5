/-! DRAFT: KIND 0: the lengths and the codes, in step -/
def E32 (f g : Nat → Int32) : Prop := ∀ j : Nat, j < 32 → f j = g j
theorem e32_u {f g : Nat → Int32} (h : E32 f g) (i : Nat) (v : Int32) : E32 (upd f i v) (upd g i v) := by
  intro j hj
  unfold upd
  by_cases c : j = i
  · rw [if_pos c, if_pos c]
  · rw [if_neg c, if_neg c]; exact h j hj
theorem vi {i : Int32} {n : Nat} (h : vp_in i n) : i.toNatClampNeg < n ∧ ((i.toNatClampNeg : Nat) : Int) = i.toInt := by
  have a := gq_lt h
  have b := nat_of (n := i) (Int32.le_iff_toInt_le.mpr (by rw [z_0]; exact a.2))
  exact ⟨by omega, b⟩
theorem nb0 : vp_nar .boolean (0 : Int32) = 0 := by decide
theorem nb1 : vp_nar .boolean (1 : Int32) = 1 := by decide
theorem upd_c {f : Nat → Int32} {i j : Nat} {v : Int32} (h : j = i) : upd f i v j = v := by
  unfold upd; rw [if_pos h]
theorem upd_n {f : Nat → Int32} {i j : Nat} {v : Int32} (h : ¬ j = i) : upd f i v j = f j := by
  unfold upd; rw [if_neg h]
/-- both begin with rows of 0, false, -1 -/
theorem len_L4 {ρ : Type} {k : (Nat → Int32) → (Nat → Int32) → (Nat → Int32) → Option ρ} {wt us ov : Nat → Int32} {d : ρ} {G : (Int32 × (Nat → Int32) × (Nat → Int32) × (Nat → Int32) → Option ρ) → Int32 × (Nat → Int32) × (Nat → Int32) × (Nat → Int32) → Option ρ}
    (hG : ∀ self i w u v, G self (i, w, u, v) = if (32 : Int32) ≤ i then k w u v else gq i 32 <| gq i 32 <| gq i 32 <| self (i + 1, upd w i.toNatClampNeg 0, upd u i.toNatClampNeg (vp_nar .boolean 0), upd v i.toNatClampNeg (-1)))
    (hb : lp G FU (0, wt, us, ov) = some d) : ∃ w u v, k w u v = some d ∧ ∀ j : Nat, j < 32 → w j = 0 ∧ u j = 0 ∧ v j = -1 := by
  refine lp_one (fun (t : Int32 × (Nat → Int32) × (Nat → Int32) × (Nat → Int32)) => 0 ≤ t.1.toInt ∧ ∀ j : Nat, (j : Int) < t.1.toInt → j < 32 → t.2.1 j = 0 ∧ t.2.2.1 j = 0 ∧ t.2.2.2 j = -1) (fun d => ∃ w u v, k w u v = some d ∧ ∀ j : Nat, j < 32 → w j = 0 ∧ u j = 0 ∧ v j = -1) ?_ FU _ ?_ d hb
  · intro f hf t hI a hb
    obtain ⟨i, w, u, v⟩ := t
    dsimp only at hI
    obtain ⟨i0, hJ⟩ := hI
    rw [hG] at hb
    have z32 : (32 : Int32).toInt = 32 := rfl
    by_cases c : (32 : Int32) ≤ i
    · rw [if_pos c] at hb
      have c9 := t_le c
      exact ⟨w, u, v, hb, fun j hj => hJ j (by omega) hj⟩
    · rw [if_neg c] at hb
      have c9 := t_lt (Int32.not_le.mp c)
      obtain ⟨_, hb⟩ := gq_e hb
      obtain ⟨_, hb⟩ := gq_e hb
      obtain ⟨_, hb⟩ := gq_e hb
      have iN := nat_of (n := i) (Int32.le_iff_toInt_le.mpr (by rw [z_0]; exact i0))
      have ii := inc_i (k := i) (by omega) (by omega)
      refine hf _ ⟨by show 0 ≤ (i + 1).toInt; omega, fun j hj h32 => ?_⟩ a hb
      have hj : (j : Int) < (i + 1).toInt := hj
      dsimp only
      by_cases e : j = i.toNatClampNeg
      · rw [upd_c e, upd_c e, upd_c e, nb0]; exact ⟨rfl, rfl, rfl⟩
      · rw [upd_n e, upd_n e, upd_n e]; exact hJ j (by omega) h32
  · exact ⟨p0_0, fun j hj => by have hj : (j : Int) < 0 := hj; omega⟩
theorem wei_L2 {k : (Nat → Int32) → (Nat → Int32) → Option ((Nat → Int32) × (Nat → Int32))} {wt jt : Nat → Int32} {d : (Nat → Int32) × (Nat → Int32)} (hb : lp (f_CodeNames_weigh_L2 k) FU (0, wt, jt) = some d) : ∃ w v, k w v = some d ∧ ∀ j : Nat, j < 32 → w j = 0 ∧ v j = -1 := by
  refine lp_one (fun (t : Int32 × (Nat → Int32) × (Nat → Int32)) => 0 ≤ t.1.toInt ∧ ∀ j : Nat, (j : Int) < t.1.toInt → j < 32 → t.2.1 j = 0 ∧ t.2.2 j = -1) (fun d => ∃ w v, k w v = some d ∧ ∀ j : Nat, j < 32 → w j = 0 ∧ v j = -1) ?_ FU _ ?_ d hb
  · intro f hf t hI a hb
    obtain ⟨i, w, v⟩ := t
    dsimp only at hI
    obtain ⟨i0, hJ⟩ := hI
    unfold f_CodeNames_weigh_L2 at hb
    dsimp only at hb
    have z32 : (32 : Int32).toInt = 32 := rfl
    by_cases c : (32 : Int32) ≤ i
    · rw [if_pos c] at hb
      have c9 := t_le c
      exact ⟨w, v, hb, fun j hj => hJ j (by omega) hj⟩
    · rw [if_neg c] at hb
      have c9 := t_lt (Int32.not_le.mp c)
      obtain ⟨_, hb⟩ := gq_e hb
      obtain ⟨_, hb⟩ := gq_e hb
      have iN := nat_of (n := i) (Int32.le_iff_toInt_le.mpr (by rw [z_0]; exact i0))
      have ii := inc_i (k := i) (by omega) (by omega)
      refine hf _ ⟨by show 0 ≤ (i + 1).toInt; omega, fun j hj h32 => ?_⟩ a hb
      have hj : (j : Int) < (i + 1).toInt := hj
      dsimp only
      by_cases e : j = i.toNatClampNeg
      · rw [upd_c e, upd_c e]; exact ⟨rfl, rfl⟩
      · rw [upd_n e, upd_n e]; exact hJ j (by omega) h32
  · exact ⟨p0_0, fun j hj => by have hj : (j : Int) < 0 := hj; omega⟩
/-- how many of the first i instances have the symbol s -/
def cnI (sO : Nat → Int32) (s : Nat) : Nat → Int32
  | 0 => 0
  | i + 1 => if (sO i).toNatClampNeg = s then cnI sO s i + 1 else cnI sO s i
theorem cnt_C {n : Int32} {jt sO w : Nat → Int32} {a : (Nat → Int32) × (Nat → Int32)} (n0 : 0 ≤ n.toInt) (hz : ∀ j : Nat, j < 32 → w j = 0) (ha : lp (f_CodeNames_weigh_L33 n jt sO) FU (0, w) = some a) : a.2 = jt ∧ ∀ j : Nat, j < 32 → a.1 j = cnI sO j n.toNatClampNeg := by
  have nN := nat_of (n := n) (Int32.le_iff_toInt_le.mpr (by rw [z_0]; exact n0))
  refine lp_one (fun (s : Int32 × (Nat → Int32)) => 0 ≤ s.1.toInt ∧ s.1.toInt ≤ n.toInt ∧ ∀ j : Nat, j < 32 → s.2 j = cnI sO j s.1.toNatClampNeg) (fun (a : (Nat → Int32) × (Nat → Int32)) => a.2 = jt ∧ ∀ j : Nat, j < 32 → a.1 j = cnI sO j n.toNatClampNeg) ?_ FU _ ?_ a ha
  · intro f hf s hI a ha
    obtain ⟨i, w⟩ := s
    dsimp only at hI
    obtain ⟨i0, i1, hJ⟩ := hI
    unfold f_CodeNames_weigh_L33 at ha
    simp only [nl] at ha
    by_cases c : n ≤ i
    · rw [if_pos c] at ha
      have c9 := t_le c
      have e : i = n := Int32.toInt_inj.mp (by omega)
      rw [← Option.some.inj ha, ← e]
      exact ⟨rfl, hJ⟩
    · rw [if_neg c] at ha
      have c9 := t_lt (Int32.not_le.mp c)
      obtain ⟨g40, ha⟩ := gq_e ha
      obtain ⟨g32, ha⟩ := gq_e ha
      obtain ⟨_, ha⟩ := gq_e ha
      have v40 := vi g40
      have v32 := vi g32
      have lt := gq_lt g40
      have ii := inc_i (k := i) (by omega) (by omega)
      have iN := nat_of (n := i + 1) (Int32.le_iff_toInt_le.mpr (by rw [z_0]; omega))
      have e1 : (i + 1).toNatClampNeg = i.toNatClampNeg + 1 := by omega
      refine hf _ ⟨by show 0 ≤ (i + 1).toInt; omega, by show (i + 1).toInt ≤ n.toInt; omega, fun j hj => ?_⟩ a ha
      show upd w (sO i.toNatClampNeg).toNatClampNeg _ j = cnI sO j (i + 1).toNatClampNeg
      rw [e1]
      unfold cnI
      by_cases q : (sO i.toNatClampNeg).toNatClampNeg = j
      · rw [if_pos q, upd_c q.symm, q, hJ j hj]
      · rw [if_neg q, upd_n (fun z => q z.symm), hJ j hj]
  · refine ⟨p0_0, by show (0 : Int) ≤ n.toInt; omega, fun j hj => ?_⟩
    show w j = cnI sO j 0
    exact hz j hj
theorem cnt_M {n : Int32} {sO w : Nat → Int32} {k : (Nat → Int32) → Option ((Nat → Int32) × (Nat → Int32) × (Nat → Int32) × (Nat → Int32))} {a : (Nat → Int32) × (Nat → Int32) × (Nat → Int32) × (Nat → Int32)} (n0 : 0 ≤ n.toInt) (hz : ∀ j : Nat, j < 32 → w j = 0) (ha : lp (f_Mo_findLengths_L39 n sO k) FU (0, w) = some a) : ∃ w8, k w8 = some a ∧ ∀ j : Nat, j < 32 → w8 j = cnI sO j n.toNatClampNeg := by
  have nN := nat_of (n := n) (Int32.le_iff_toInt_le.mpr (by rw [z_0]; exact n0))
  refine lp_one (fun (s : Int32 × (Nat → Int32)) => 0 ≤ s.1.toInt ∧ s.1.toInt ≤ n.toInt ∧ ∀ j : Nat, j < 32 → s.2 j = cnI sO j s.1.toNatClampNeg) (fun (a : (Nat → Int32) × (Nat → Int32) × (Nat → Int32) × (Nat → Int32)) => ∃ w8, k w8 = some a ∧ ∀ j : Nat, j < 32 → w8 j = cnI sO j n.toNatClampNeg) ?_ FU _ ?_ a ha
  · intro f hf s hI a ha
    obtain ⟨i, w⟩ := s
    dsimp only at hI
    obtain ⟨i0, i1, hJ⟩ := hI
    unfold f_Mo_findLengths_L39 at ha
    simp only [nl] at ha
    by_cases c : n ≤ i
    · rw [if_pos c] at ha
      have c9 := t_le c
      have e : i = n := Int32.toInt_inj.mp (by omega)
      refine ⟨w, ha, ?_⟩
      rw [← e]
      exact hJ
    · rw [if_neg c] at ha
      have c9 := t_lt (Int32.not_le.mp c)
      obtain ⟨g40, ha⟩ := gq_e ha
      obtain ⟨g32, ha⟩ := gq_e ha
      obtain ⟨_, ha⟩ := gq_e ha
      have v40 := vi g40
      have v32 := vi g32
      have lt := gq_lt g40
      have ii := inc_i (k := i) (by omega) (by omega)
      have iN := nat_of (n := i + 1) (Int32.le_iff_toInt_le.mpr (by rw [z_0]; omega))
      have e1 : (i + 1).toNatClampNeg = i.toNatClampNeg + 1 := by omega
      refine hf _ ⟨by show 0 ≤ (i + 1).toInt; omega, by show (i + 1).toInt ≤ n.toInt; omega, fun j hj => ?_⟩ a ha
      show upd w (sO i.toNatClampNeg).toNatClampNeg _ j = cnI sO j (i + 1).toNatClampNeg
      rw [e1]
      unfold cnI
      by_cases q : (sO i.toNatClampNeg).toNatClampNeg = j
      · rw [if_pos q, upd_c q.symm, q, hJ j hj]
      · rw [if_neg q, upd_n (fun z => q z.symm), hJ j hj]
  · refine ⟨p0_0, by show (0 : Int) ≤ n.toInt; omega, fun j hj => ?_⟩
    show w j = cnI sO j 0
    exact hz j hj
theorem cn_0 {dc : Int32} {sO : Nat → Int32} : ∀ m : Nat, (∀ j : Nat, j < m → 0 ≤ (sO j).toInt ∧ (sO j).toInt < dc.toInt) → ∀ s : Nat, dc.toInt ≤ (s : Int) → cnI sO s m = 0 := by
  intro m
  induction m with
  | zero => intro _ s _; rfl
  | succ m ih =>
    intro h s hs
    unfold cnI
    have a := h m (by omega)
    have b := nat_of (n := sO m) (Int32.le_iff_toInt_le.mpr (by rw [z_0]; exact a.1))
    rw [if_neg (by omega)]
    exact ih (fun j hj => h j (by omega)) s hs
theorem cn_px {sO sO9 : Nat → Int32} (s : Nat) : ∀ m : Nat, (∀ j : Nat, j < m → sO j = sO9 j) → cnI sO s m = cnI sO9 s m := by
  intro m
  induction m with
  | zero => intro _; rfl
  | succ m ih =>
    intro h
    unfold cnI
    rw [h m (by omega), ih (fun j hj => h j (by omega))]
/-- how many symbols are used -/
theorem use2 {dc : Int32} {w w9 : Nat → Int32} {k : Int32 → Option ((Nat → Int32) × (Nat → Int32) × (Nat → Int32) × (Nat → Int32))} {k9 : Int32 → Option ((Nat → Int32) × (Nat → Int32) × (Nat → Int32) × (Nat → Int32))} {a : (Nat → Int32) × (Nat → Int32) × (Nat → Int32) × (Nat → Int32)} {d : (Nat → Int32) × (Nat → Int32) × (Nat → Int32) × (Nat → Int32)} (Q : ((Nat → Int32) × (Nat → Int32) × (Nat → Int32) × (Nat → Int32)) → ((Nat → Int32) × (Nat → Int32) × (Nat → Int32) × (Nat → Int32)) → Prop) (hd : dc.toInt ≤ 16) (hE : E32 w w9)
    (hk : ∀ u : Int32, 0 ≤ u.toInt → u.toInt ≤ 16 → ∀ a d, k u = some a → k9 u = some d → Q a d)
    (ha : lp (f_CodeNames_suit_L9 dc w k) FU (0, 0) = some a) (hb : lp (f_Mo_findLengths_L70 dc w9 k9) FU (0, 0) = some d) : Q a d := by
  refine lp_two (fun (s t : Int32 × Int32) => s = t ∧ 0 ≤ s.1.toInt ∧ s.1.toInt ≤ 16 ∧ 0 ≤ s.2.toInt ∧ s.2.toInt ≤ s.1.toInt) Q ?_ _ _ _ _ ?_ a d ha hb
  · intro f g hfg s t hI a d ha hb
    obtain ⟨i, u⟩ := s
    obtain ⟨e, i0, i1, u0, u1⟩ := hI
    subst e
    dsimp only at i0 i1 u0 u1
    unfold f_CodeNames_suit_L9 at ha
    unfold f_Mo_findLengths_L70 at hb
    simp only [jn, nl] at ha hb
    by_cases c : dc ≤ i
    · rw [if_pos c] at ha hb
      exact hk u u0 (by omega) a d ha hb
    · rw [if_neg c] at ha hb
      have c9 := t_lt (Int32.not_le.mp c)
      obtain ⟨g32, ha⟩ := gq_e ha
      obtain ⟨_, hb⟩ := gq_e hb
      have v32 := vi g32
      rw [hE _ v32.1] at ha
      have ii := inc_i (k := i) (by omega) (by omega)
      have ui := inc_i (k := u) (by omega) (by omega)
      by_cases cw : w9 i.toNatClampNeg ≤ 0
      · rw [if_pos cw] at ha hb
        rw [Int32.add_zero] at ha
        exact hfg _ _ ⟨rfl, by show 0 ≤ (i + 1).toInt; omega, by show (i + 1).toInt ≤ 16; omega, u0, by show u.toInt ≤ (i + 1).toInt; omega⟩ a d ha hb
      · rw [if_neg cw] at ha hb
        exact hfg _ _ ⟨rfl, by show 0 ≤ (i + 1).toInt; omega, by show (i + 1).toInt ≤ 16; omega, by show 0 ≤ (u + 1).toInt; omega, by show (u + 1).toInt ≤ (i + 1).toInt; omega⟩ a d ha hb
  · exact ⟨rfl, p0_0, i0_l (by decide), p0_0, i0_l (by decide)⟩
/-- joined in the class: used in the reference -/
def UJ (us jt : Nat → Int32) : Prop := ∀ j : Nat, j < 32 → (us j = 0 ↔ jt j = -1)
set_option maxRecDepth 20000 in
theorem least2 {p r m : Int32} {w w9 jt jt1 us : Nat → Int32} (hE : E32 w w9) (hU : UJ us jt) (ha : f_CodeNames_joinLeast w jt p = some (r, jt1)) (hb : f_Mo_leastNode us w9 p = some m) (m0 : 0 ≤ m.toInt) : r = w9 m.toNatClampNeg ∧ jt1 = upd jt m.toNatClampNeg p ∧ m.toInt < p.toInt := by
  unfold f_CodeNames_joinLeast at ha
  unfold f_Mo_leastNode at hb
  have key := lp_two (fun (s t : Int32 × Int32) => s = t ∧ 0 ≤ s.1.toInt ∧ (s.2 = -1 ∨ s.2.toInt < s.1.toInt) ∧ (s.2 = -1 ∨ s.2.toInt < p.toInt)) (fun (a : Int32 × (Nat → Int32)) (d : Int32) => (d = -1 ∨ d.toInt < p.toInt) ∧ (0 ≤ d.toInt → a = (w9 d.toNatClampNeg, upd jt d.toNatClampNeg p))) (by
    intro f g hfg s t hI a d ha hb
    obtain ⟨i, l⟩ := s
    obtain ⟨e, i0, l1, l2⟩ := hI
    subst e
    dsimp only at i0 l1 l2
    unfold f_CodeNames_joinLeast_L4 at ha
    unfold f_Mo_leastNode_L4 at hb
    simp only [jn, nl] at ha hb
    by_cases c : p ≤ i
    · rw [if_pos c] at ha hb
      have hb := Option.some.inj hb
      subst hb
      refine ⟨l2, fun q => ?_⟩
      rw [if_neg (fun z => by rw [z] at q; exact absurd q (by decide))] at ha
      obtain ⟨g32, ha⟩ := gq_e ha
      obtain ⟨_, ha⟩ := gq_e ha
      rw [hE _ (vi g32).1] at ha
      exact (Option.some.inj ha).symm
    · rw [if_neg c] at ha hb
      have c9 := t_lt (Int32.not_le.mp c)
      obtain ⟨g32, ha⟩ := gq_e ha
      obtain ⟨_, hb⟩ := gq_e hb
      have v32 := vi g32
      have lt := gq_lt g32
      rw [hE _ v32.1] at ha
      have ii := inc_i (k := i) (by omega) (by omega)
      have uj := hU _ v32.1
      have stay : f (i + 1, l) = some a → g (i + 1, l) = some d → (d = -1 ∨ d.toInt < p.toInt) ∧ (0 ≤ d.toInt → a = (w9 d.toNatClampNeg, upd jt d.toNatClampNeg p)) := by
        intro ha hb
        refine hfg _ _ ⟨rfl, by show 0 ≤ (i + 1).toInt; omega, ?_, l2⟩ a d ha hb
        rcases l1 with q | q
        · exact Or.inl q
        · exact Or.inr (by show l.toInt < (i + 1).toInt; omega)
      have take : f (i + 1, i) = some a → g (i + 1, i) = some d → (d = -1 ∨ d.toInt < p.toInt) ∧ (0 ≤ d.toInt → a = (w9 d.toNatClampNeg, upd jt d.toNatClampNeg p)) := by
        intro ha hb
        exact hfg _ _ ⟨rfl, by show 0 ≤ (i + 1).toInt; omega, Or.inr (by show i.toInt < (i + 1).toInt; omega), Or.inr c9⟩ a d ha hb
      by_cases cw : w9 i.toNatClampNeg ≤ 0
      · rw [if_pos cw] at ha
        by_cases cu : us i.toNatClampNeg = 0
        · rw [if_pos cu] at hb
          obtain ⟨_, hb⟩ := gq_e hb
          rw [if_pos cw] at hb
          exact stay ha hb
        · rw [if_neg cu] at hb
          exact stay ha hb
      · rw [if_neg cw] at ha
        obtain ⟨_, ha⟩ := gq_e ha
        by_cases cu : us i.toNatClampNeg = 0
        · rw [if_pos cu] at hb
          rw [if_pos (uj.mp cu)] at ha
          obtain ⟨_, hb⟩ := gq_e hb
          rw [if_neg cw] at hb
          by_cases cl : l = -1
          · rw [if_pos cl] at ha hb
            exact take ha hb
          · rw [if_neg cl] at ha hb
            obtain ⟨_, ha⟩ := gq_e ha
            obtain ⟨g2, ha⟩ := gq_e ha
            obtain ⟨_, hb⟩ := gq_e hb
            obtain ⟨_, hb⟩ := gq_e hb
            rw [hE _ (vi g2).1] at ha
            by_cases cc : w9 l.toNatClampNeg ≤ w9 i.toNatClampNeg
            · rw [if_pos cc] at ha hb
              exact stay ha hb
            · rw [if_neg cc] at ha hb
              exact take ha hb
        · rw [if_neg cu] at hb
          rw [if_neg (fun z => cu (uj.mpr z))] at ha
          exact stay ha hb) FU FU _ _ ⟨rfl, p0_0, Or.inl rfl, Or.inl rfl⟩ _ _ ha hb
  obtain ⟨k1, k2⟩ := key
  obtain ⟨e1, e2⟩ := Prod.mk.inj (k2 m0)
  refine ⟨e1, e2, ?_⟩
  rcases k1 with q | q
  · rw [q] at m0; exact absurd m0 (by decide)
  · exact q
/-- joined to a later one, of 16 .. 30 -/
def JR (jt : Nat → Int32) : Prop := ∀ j : Nat, j < 32 → jt j = -1 ∨ ((j : Int) < (jt j).toInt ∧ 16 ≤ (jt j).toInt ∧ (jt j).toInt ≤ 30)
theorem jr_upd {jt : Nat → Int32} {m v : Int32} (hR : JR jt) (m0 : 0 ≤ m.toInt) (m1 : m.toInt < v.toInt) (v0 : 16 ≤ v.toInt) (v1 : v.toInt ≤ 30) : JR (upd jt m.toNatClampNeg v) := by
  intro j hj
  have mn := nat_of (n := m) (Int32.le_iff_toInt_le.mpr (by rw [z_0]; exact m0))
  by_cases q : j = m.toNatClampNeg
  · rw [upd_c q]; right; omega
  · rw [upd_n q]; exact hR j hj
set_option maxRecDepth 20000 in
theorem join2 {u : Int32} {w w9 jt us ov w8 : Nat → Int32} {k : (Nat → Int32) → (Nat → Int32) → Option ((Nat → Int32) × (Nat → Int32) × (Nat → Int32) × (Nat → Int32))} {k9 : (Nat → Int32) → (Nat → Int32) → (Nat → Int32) → Option ((Nat → Int32) × (Nat → Int32) × (Nat → Int32) × (Nat → Int32))} {a d : (Nat → Int32) × (Nat → Int32) × (Nat → Int32) × (Nat → Int32)} (Q : ((Nat → Int32) × (Nat → Int32) × (Nat → Int32) × (Nat → Int32)) → ((Nat → Int32) × (Nat → Int32) × (Nat → Int32) × (Nat → Int32)) → Prop) (u0 : 0 ≤ u.toInt) (u1 : u.toInt ≤ 16) (hE : E32 w w9) (hJ : E32 jt ov) (hU : UJ us jt) (hR : JR jt) (h1 : ∀ j : Nat, j < 32 → jt j = -1)
    (hk : ∀ w w9 jt us ov, E32 w w9 → E32 jt ov → JR jt → (u = 1 → ∀ j : Nat, j < 32 → jt j = -1) → (∀ j : Nat, j < 16 → w9 j = w8 j) → ∀ a d, k w jt = some a → k9 w9 us ov = some d → Q a d) (h8 : ∀ j : Nat, j < 16 → w9 j = w8 j)
    (ha : lp (f_CodeNames_suit_L45 u k) FU (0, w, jt) = some a) (hb : lp (f_Mo_findLengths_L106 k9) FU (u, 16, w9, us, ov) = some d) : Q a d := by
  refine lp_two (fun (s : Int32 × (Nat → Int32) × (Nat → Int32)) (t : Int32 × Int32 × (Nat → Int32) × (Nat → Int32) × (Nat → Int32)) => 0 ≤ s.1.toInt ∧ s.1.toInt ≤ 15 ∧ t.1.toInt = u.toInt - s.1.toInt ∧ t.2.1.toInt = 16 + s.1.toInt ∧ E32 s.2.1 t.2.2.1 ∧ E32 s.2.2 t.2.2.2.2 ∧ UJ t.2.2.2.1 s.2.2 ∧ JR s.2.2 ∧ (u = 1 → ∀ j : Nat, j < 32 → s.2.2 j = -1) ∧ (∀ j : Nat, j < 16 → t.2.2.1 j = w8 j)) Q ?_ _ _ _ _ ?_ a d ha hb
  · intro f g hfg s t hI a d ha hb
    obtain ⟨i, w, jt⟩ := s
    obtain ⟨lf, nd, w9, us, ov⟩ := t
    dsimp only at hI
    obtain ⟨i0, i1, el, en, hE, hJ, hU, hR, hO, h8⟩ := hI
    unfold f_CodeNames_suit_L45 at ha
    unfold f_Mo_findLengths_L106 at hb
    simp only [nl] at ha hb
    have su : (u - 1).toInt = u.toInt - 1 := by rw [yb (by rw [z_1]; omega) (by rw [z_1]; omega), z_1]
    by_cases c : u - 1 ≤ i
    · have c9 := t_le c
      rw [if_pos c] at ha
      rw [if_pos (Int32.le_iff_toInt_le.mpr (by rw [z_1]; omega))] at hb
      exact hk w w9 jt us ov hE hJ hR hO h8 a d ha hb
    · have c9 := t_lt (Int32.not_le.mp c)
      rw [if_neg c] at ha
      rw [if_neg (fun z => by have := t_le z; rw [z_1] at this; omega)] at hb
      have z16 : (16 : Int32).toInt = 16 := rfl
      have e16 : (16 + i).toInt = 16 + i.toInt := by rw [ya (by rw [z16]; omega) (by rw [z16]; omega), z16]
      have en9 : 16 + i = nd := Int32.toInt_inj.mp (by omega)
      rw [en9] at ha
      clear e16 en9 z16
      obtain ⟨x, hx, ha⟩ := bd_e ha
      obtain ⟨m1, hm1, hb⟩ := bd_e hb
      obtain ⟨r1, jt1⟩ := x
      obtain ⟨g1, hb⟩ := gq_e hb
      have v1 := vi g1
      have l1 := gq_lt g1
      obtain ⟨f1, f2, f3⟩ := least2 hE hU hx hm1 l1.2
      subst f1 f2
      dsimp only at ha
      obtain ⟨x, hx, ha⟩ := bd_e ha
      obtain ⟨m2, hm2, hb⟩ := bd_e hb
      obtain ⟨r2, jt2⟩ := x
      obtain ⟨g2, hb⟩ := gq_e hb
      have v2 := vi g2
      have l2 := gq_lt g2
      have ne1 : ¬ nd = -1 := fun z => by
        rw [z] at en
        have zm : (-1 : Int32).toInt = -1 := rfl
        omega
      have hU1 : UJ (upd us m1.toNatClampNeg (vp_nar .boolean (1 : Int32))) (upd jt m1.toNatClampNeg nd) := by
        intro j hj
        by_cases q : j = m1.toNatClampNeg
        · rw [upd_c q, upd_c q, nb1]
          exact ⟨fun z => absurd z (by decide), fun z => absurd z ne1⟩
        · rw [upd_n q, upd_n q]; exact hU j hj
      obtain ⟨f4, f5, f6⟩ := least2 hE hU1 hx hm2 l2.2
      subst f4 f5
      dsimp only at ha
      obtain ⟨_, hb⟩ := gq_e hb
      obtain ⟨_, hb⟩ := gq_e hb
      obtain ⟨_, hb⟩ := gq_e hb
      obtain ⟨_, hb⟩ := gq_e hb
      obtain ⟨_, hb⟩ := gq_e hb
      obtain ⟨_, ha⟩ := gq_e ha
      have ii := inc_i (k := i) (by omega) (by omega)
      have ni := inc_i (k := nd) (by omega) (by omega)
      have ndn := nat_of (n := nd) (Int32.le_iff_toInt_le.mpr (by rw [z_0]; omega))
      have j1 := jr_upd hR l1.2 f3 (by omega) (by omega)
      have j2 := jr_upd j1 l2.2 f6 (by omega) (by omega)
      have ld := dec_i (k := lf) (by omega)
      generalize lf + (-1) = lf1 at hb ld
      generalize i + 1 = i1 at ha ii
      generalize nd + 1 = nd1 at hb ni
      refine hfg (i1, upd w nd.toNatClampNeg (w9 m1.toNatClampNeg + w9 m2.toNatClampNeg), upd (upd jt m1.toNatClampNeg nd) m2.toNatClampNeg nd) (lf1, nd1, upd w9 nd.toNatClampNeg (w9 m1.toNatClampNeg + w9 m2.toNatClampNeg), upd (upd us m1.toNatClampNeg (vp_nar .boolean (1 : Int32))) m2.toNatClampNeg (vp_nar .boolean (1 : Int32)), upd (upd ov m1.toNatClampNeg nd) m2.toNatClampNeg nd) ⟨by show 0 ≤ i1.toInt; omega, by show i1.toInt ≤ 15; omega, by show lf1.toInt = u.toInt - i1.toInt; omega, by show nd1.toInt = 16 + i1.toInt; omega, e32_u hE _ _, e32_u (e32_u hJ _ _) _ _, ?_, j2, ?_, ?_⟩ a d ha hb
      · intro j hj
        show upd (upd us m1.toNatClampNeg (vp_nar .boolean 1)) m2.toNatClampNeg (vp_nar .boolean 1) j = 0 ↔ upd (upd jt m1.toNatClampNeg nd) m2.toNatClampNeg nd j = -1
        by_cases q : j = m2.toNatClampNeg
        · rw [upd_c q, upd_c q, nb1]
          exact ⟨fun z => absurd z (by decide), fun z => absurd z ne1⟩
        · rw [upd_n q, upd_n q]; exact hU1 j hj
      · intro q
        rw [su] at c9
        rw [q, z_1] at c9
        omega
      · intro j hj
        show upd w9 nd.toNatClampNeg _ j = w8 j
        rw [upd_n (by omega)]
        exact h8 j hj
  · exact ⟨p0_0, i0_l (by decide), by show u.toInt = u.toInt - 0; omega, rfl, hE, hJ, hU, hR, fun _ => h1, h8⟩
set_option maxRecDepth 20000 in
/-- how often a symbol was joined -/
theorem chain2 {i r : Int32} {jt ov : Nat → Int32} {k : Int32 → Option ((Nat → Int32) × (Nat → Int32) × (Nat → Int32) × (Nat → Int32))} {d : (Nat → Int32) × (Nat → Int32) × (Nat → Int32) × (Nat → Int32)} (hJ : E32 jt ov) (hR : JR jt) (ha : f_CodeNames_joinsOf jt i = some r) (hb : lp (f_Mo_findLengths_L206 ov k) FU (ov i.toNatClampNeg, 0) = some d) : k r = some d ∧ 0 ≤ r.toInt ∧ r.toInt ≤ 15 := by
  unfold f_CodeNames_joinsOf at ha
  obtain ⟨g32, ha⟩ := gq_e ha
  simp only [nl] at ha
  have v32 := vi g32
  have z15 : (15 : Int32).toInt = 15 := rfl
  refine lp_two (fun (s t : Int32 × Int32) => s = t ∧ 0 ≤ s.2.toInt ∧ s.2.toInt ≤ 15 ∧ (s.1 = -1 ∨ (16 + s.2.toInt ≤ s.1.toInt ∧ s.1.toInt ≤ 30))) (fun (r : Int32) d => k r = some d ∧ 0 ≤ r.toInt ∧ r.toInt ≤ 15) ?_ _ _ _ _ ?_ r d ha hb
  · intro f g hfg s t hI a d ha hb
    obtain ⟨v, c⟩ := s
    obtain ⟨e, c0, c1, hv⟩ := hI
    subst e
    dsimp only at c0 c1 hv
    unfold f_CodeNames_joinsOf_L9 at ha
    unfold f_Mo_findLengths_L206 at hb
    simp only [nl] at ha hb
    by_cases q : v = -1
    · rw [if_pos q] at hb
      have ha : some c = some a := by
        by_cases q2 : (15 : Int32) ≤ c
        · rw [if_pos q2] at ha; exact ha
        · rw [if_neg q2, if_pos q] at ha; exact ha
      have ha := Option.some.inj ha
      subst ha
      exact ⟨hb, c0, c1⟩
    · rw [if_neg q] at hb
      have hv : 16 + c.toInt ≤ v.toInt ∧ v.toInt ≤ 30 := by
        rcases hv with z | z
        · exact absurd z q
        · exact z
      rw [if_neg (fun z => by have := t_le z; omega), if_neg q] at ha
      obtain ⟨g2, ha⟩ := gq_e ha
      obtain ⟨_, hb⟩ := gq_e hb
      have v2 := vi g2
      rw [hJ _ v2.1] at ha
      have ci := inc_i (k := c) (by omega) (by omega)
      refine hfg _ _ ⟨rfl, by show 0 ≤ (c + 1).toInt; omega, by show (c + 1).toInt ≤ 15; omega, ?_⟩ a d ha hb
      show ov v.toNatClampNeg = -1 ∨ (16 + (c + 1).toInt ≤ (ov v.toNatClampNeg).toInt ∧ (ov v.toNatClampNeg).toInt ≤ 30)
      rw [← hJ _ v2.1]
      rcases hR _ v2.1 with z | z
      · exact Or.inl z
      · exact Or.inr (by omega)
  · refine ⟨by rw [hJ _ v32.1], p0_0, i0_l (by decide), ?_⟩
    show jt i.toNatClampNeg = -1 ∨ (16 + (0 : Int32).toInt ≤ (jt i.toNatClampNeg).toInt ∧ (jt i.toNatClampNeg).toInt ≤ 30)
    rcases hR _ v32.1 with z | z
    · exact Or.inl z
    · exact Or.inr (by rw [z_0]; omega)
set_option maxRecDepth 20000 in
theorem len2 {u dc : Int32} {w w9 jt us ov le le9 : Nat → Int32} {k : (Nat → Int32) → Option ((Nat → Int32) × (Nat → Int32) × (Nat → Int32) × (Nat → Int32))} {a d : (Nat → Int32) × (Nat → Int32) × (Nat → Int32) × (Nat → Int32)} (hd : dc.toInt ≤ 16) (hE : ∀ j : Nat, j < 16 → w j = w9 j) (hz : ∀ j : Nat, dc.toInt ≤ (j : Int) → j < 16 → w9 j = 0) (hJ : E32 jt ov) (hR : JR jt) (h1 : u = 1 → ∀ j : Nat, j < 32 → jt j = -1)
    (ha : lp (f_CodeNames_suit_L94 u w jt k) FU (0, le) = some a) (hb : lp (f_Mo_findLengths_L189 w9 us ov dc u) FU (0, le9) = some d) : ∃ le1, k le1 = some a ∧ ∀ j : Nat, j < 16 → le1 j = d.2.2.2 j ∧ 0 ≤ (le1 j).toInt ∧ (le1 j).toInt ≤ 15 := by
  have z16 : (16 : Int32).toInt = 16 := rfl
  refine lp_two (fun (s t : Int32 × (Nat → Int32)) => s.1 = t.1 ∧ 0 ≤ s.1.toInt ∧ ∀ j : Nat, (j : Int) < s.1.toInt → j < 16 → s.2 j = t.2 j ∧ 0 ≤ (s.2 j).toInt ∧ (s.2 j).toInt ≤ 15) (fun a (d : (Nat → Int32) × (Nat → Int32) × (Nat → Int32) × (Nat → Int32)) => ∃ le1, k le1 = some a ∧ ∀ j : Nat, j < 16 → le1 j = d.2.2.2 j ∧ 0 ≤ (le1 j).toInt ∧ (le1 j).toInt ≤ 15) ?_ _ _ _ _ ?_ a d ha hb
  · intro f g hfg s t hI a d ha hb
    obtain ⟨i, le⟩ := s
    obtain ⟨i9, le9⟩ := t
    dsimp only at hI
    obtain ⟨e, i0, hL⟩ := hI
    subst e
    unfold f_CodeNames_suit_L94 at ha
    unfold f_Mo_findLengths_L189 at hb
    simp only [jn, nl] at ha hb
    by_cases c : (16 : Int32) ≤ i
    · rw [if_pos c] at ha hb
      have c9 := t_le c
      rw [← Option.some.inj hb]
      exact ⟨le, ha, fun j hj => hL j (by omega) hj⟩
    · rw [if_neg c] at ha hb
      have c9 := t_lt (Int32.not_le.mp c)
      have iN := nat_of (n := i) (Int32.le_iff_toInt_le.mpr (by rw [z_0]; exact i0))
      have ii := inc_i (k := i) (by omega) (by omega)
      obtain ⟨g32, hb⟩ := gq_e hb
      have nxt : ∀ v : Int32, 0 ≤ v.toInt → v.toInt ≤ 15 → (gq i 16 <| f (i + 1, upd le i.toNatClampNeg v)) = some a → (gq i 16 <| g (i + 1, upd le9 i.toNatClampNeg v)) = some d → ∃ le1, k le1 = some a ∧ ∀ j : Nat, j < 16 → le1 j = d.2.2.2 j ∧ 0 ≤ (le1 j).toInt ∧ (le1 j).toInt ≤ 15 := by
        intro v v0 v1 ha hb
        obtain ⟨_, ha⟩ := gq_e ha
        obtain ⟨_, hb⟩ := gq_e hb
        refine hfg (i + 1, upd le i.toNatClampNeg v) (i + 1, upd le9 i.toNatClampNeg v) ⟨rfl, by show 0 ≤ (i + 1).toInt; omega, fun j hj h16 => ?_⟩ a d ha hb
        have hj : (j : Int) < (i + 1).toInt := hj
        dsimp only
        by_cases q : j = i.toNatClampNeg
        · rw [upd_c q, upd_c q]; exact ⟨rfl, v0, v1⟩
        · rw [upd_n q, upd_n q]; exact hL j (by omega) h16
      by_cases cu : u = 1
      · rw [if_pos cu] at ha
        have hv : ov i.toNatClampNeg = -1 := by rw [← hJ _ (by omega)]; exact h1 cu _ (by omega)
        rw [hv] at hb
        obtain ⟨gx, egx, hb⟩ := lpx0 hb
        unfold f_Mo_findLengths_L206 at hb
        simp only [jn, nl] at hb
        rw [if_pos trivial] at hb
        obtain ⟨_, ha⟩ := gq_e ha
        rw [hE _ (by omega)] at ha
        by_cases cd : dc ≤ i
        · rw [if_pos cd] at hb
          have cd9 := t_le cd
          rw [hz _ (by omega) (by omega), if_pos (Int32.le_refl _)] at ha
          exact nxt 0 (by decide) (by decide) ha hb
        · rw [if_neg cd] at hb
          obtain ⟨_, hb⟩ := gq_e hb
          by_cases cw : w9 i.toNatClampNeg ≤ 0
          · rw [if_pos cw] at ha hb
            exact nxt 0 (by decide) (by decide) ha hb
          · rw [if_neg cw] at ha hb
            rw [if_pos cu] at hb
            exact nxt 1 (by decide) (by decide) ha hb
      · rw [if_neg cu] at ha
        obtain ⟨r, hr, ha⟩ := bd_e ha
        obtain ⟨hb, r0, r1⟩ := chain2 hJ hR hr hb
        have hb : (gq i 16 <| g (i + 1, upd le9 i.toNatClampNeg r)) = some d := by
          by_cases cd : dc ≤ i
          · rw [if_pos cd] at hb; exact hb
          · rw [if_neg cd] at hb
            obtain ⟨_, hb⟩ := gq_e hb
            by_cases cw : w9 i.toNatClampNeg ≤ 0
            · rw [if_pos cw] at hb; exact hb
            · rw [if_neg cw, if_neg cu] at hb; exact hb
        exact nxt r r0 r1 ha hb
  · exact ⟨rfl, p0_0, fun j hj => by have hj : (j : Int) < 0 := hj; omega⟩
theorem suit2 {n dc : Int32} {wtC jtC sO leC cdC wt us ov sO9 le a1 a2 a3 a4 b1 b2 b3 b4 : Nat → Int32} (n0 : 0 ≤ n.toInt) (hd : dc.toInt ≤ 16) (hc : ∀ s : Nat, cnI sO s n.toNatClampNeg = cnI sO9 s n.toNatClampNeg) (hSO : SO n dc sO9)
    (ha : f_CodeNames_suit n wtC jtC sO dc leC cdC = some (a1, a2, a3, a4)) (hb : f_Mo_findLengths dc n wt us ov sO9 le = some (b1, b2, b3, b4)) : (∀ j : Nat, j < 16 → a3 j = b4 j ∧ 0 ≤ (a3 j).toInt ∧ (a3 j).toInt ≤ 15) ∧ f_CodeNames_assignCodes dc a3 cdC = some a4 := by
  have nN := nat_of (n := n) (Int32.le_iff_toInt_le.mpr (by rw [z_0]; exact n0))
  unfold f_CodeNames_suit at ha
  unfold f_Mo_findLengths at hb
  obtain ⟨x, hx, ha⟩ := bd_e ha
  obtain ⟨w1, j1⟩ := x
  unfold f_CodeNames_weigh at hx
  obtain ⟨w2, j2, hx, hz2⟩ := wei_L2 hx
  obtain ⟨e1, hc1⟩ := cnt_C n0 (fun j hj => (hz2 j hj).1) hx
  dsimp only at e1 hc1
  subst e1
  obtain ⟨w3, u3, v3, hb, hz3⟩ := len_L4 (fun _ _ _ _ _ => rfl) hb
  obtain ⟨w4, hb, hc4⟩ := cnt_M n0 (fun j hj => (hz3 j hj).1) hb
  have hE : E32 w1 w4 := fun j hj => by rw [hc1 j hj, hc4 j hj, hc j]
  have z4 : ∀ j : Nat, dc.toInt ≤ (j : Int) → j < 16 → w4 j = 0 := fun j hj h16 => by
    rw [hc4 j (by omega)]
    exact cn_0 _ (fun q hq => hSO q (by omega)) j hj
  refine use2 (fun (a d : (Nat → Int32) × (Nat → Int32) × (Nat → Int32) × (Nat → Int32)) => (∀ j : Nat, j < 16 → a.2.2.1 j = d.2.2.2 j ∧ 0 ≤ (a.2.2.1 j).toInt ∧ (a.2.2.1 j).toInt ≤ 15) ∧ f_CodeNames_assignCodes dc a.2.2.1 cdC = some a.2.2.2) hd hE ?_ ha hb
  intro u u0 u1 a d ha hb
  refine join2 (w8 := w4) (fun (a d : (Nat → Int32) × (Nat → Int32) × (Nat → Int32) × (Nat → Int32)) => (∀ j : Nat, j < 16 → a.2.2.1 j = d.2.2.2 j ∧ 0 ≤ (a.2.2.1 j).toInt ∧ (a.2.2.1 j).toInt ≤ 15) ∧ f_CodeNames_assignCodes dc a.2.2.1 cdC = some a.2.2.2) u0 u1 hE (fun j hj => by rw [(hz2 j hj).2, (hz3 j hj).2.2]) (fun j hj => by rw [(hz2 j hj).2, (hz3 j hj).2.1]; exact ⟨fun _ => rfl, fun _ => rfl⟩) (fun j hj => Or.inl (hz2 j hj).2) (fun j hj => (hz2 j hj).2) ?_ (fun _ _ => rfl) ha hb
  intro w w9 jt us ov hE hJ hR hO h8 a d ha hb
  obtain ⟨le1, ha, hl⟩ := len2 hd (fun j hj => hE j (by omega)) (fun j hj h16 => by rw [h8 j h16]; exact z4 j hj h16) hJ hR hO ha hb
  obtain ⟨x, hx, ha⟩ := bd_e ha
  have ha := Option.some.inj ha
  subst ha
  exact ⟨hl, hx⟩
theorem g_ni (n i : Int32) : n - (i + 1) + 1 = n - i := by grind
theorem g_nh (n h : Int32) : n - 1 - h + 1 = n - h := by grind
theorem g_2x (x p : Int32) : x * (2 * p) = 2 * x * p := by grind
theorem g_2p (x p : Int32) : 2 * (x * p) = x * (2 * p) := by grind
set_option maxRecDepth 20000 in
/-- doubling -/
theorem dbl {n c x0 : Int32} {k : Int32 → Option (Nat → Int32)} {d : Nat → Int32} (n1 : n.toInt ≤ 15) {h : Int32} (h0 : 1 ≤ h.toInt) (h1 : h.toInt ≤ n.toInt) (hb : lp (f_Mo_findCodes_L55 n 0 k) FU (h, c) = some d) (ex : x0 = c * pw (n - h)) : k x0 = some d := by
  refine lp_one (fun (t : Int32 × Int32) => 1 ≤ t.1.toInt ∧ t.1.toInt ≤ n.toInt ∧ x0 = t.2 * pw (n - t.1)) (fun d => k x0 = some d) ?_ FU _ ?_ d hb
  · intro f hf t hI a hb
    obtain ⟨i, x⟩ := t
    dsimp only at hI
    obtain ⟨i0, i1, hx⟩ := hI
    unfold f_Mo_findCodes_L55 at hb
    simp only [nl] at hb
    by_cases c : n ≤ i
    · rw [if_pos c] at hb
      have c9 := t_le c
      have e : i = n := Int32.toInt_inj.mp (by omega)
      have e0 : n - n = 0 := Int32.sub_self n
      have p0 : pw 0 = 1 := rfl
      rw [e, e0, p0, Int32.mul_one] at hx
      rw [hx]
      exact hb
    · rw [if_neg c, if_pos trivial] at hb
      have c9 := t_lt (Int32.not_le.mp c)
      have ii := inc_i (k := i) (by omega) (by omega)
      have sb : (n - (i + 1)).toInt = n.toInt - (i + 1).toInt := yb (by omega) (by omega)
      have ps := (pw_s (n - (i + 1)) (Int32.le_iff_toInt_le.mpr (by rw [z_0]; omega)) (Int32.le_iff_toInt_le.mpr (by show (n - (i + 1)).toInt ≤ 13; omega))).1
      rw [g_ni] at ps
      refine hf _ ⟨by show 1 ≤ (i + 1).toInt; omega, by show (i + 1).toInt ≤ n.toInt; omega, ?_⟩ a hb
      show x0 = (2 : Int32) * x * pw (n - (i + 1))
      rw [hx, ps]
      exact g_2x _ _
  · exact ⟨h0, h1, ex⟩
set_option maxRecDepth 20000 in
set_option maxHeartbeats 1000000 in
theorem codes2 {dc : Int32} {le le9 cd cd9 a d : Nat → Int32} (hd : dc.toInt ≤ 16) (hle : ∀ j : Nat, (j : Int) < dc.toInt → le j = le9 j) (ha : f_CodeNames_assignCodes dc le cd = some a) (hb : f_Mo_findCodes dc le9 cd9 = some d) : ∀ j : Nat, (j : Int) < dc.toInt → 1 ≤ (le9 j).toInt → (le9 j).toInt ≤ 15 → a j = d j := by
  have z15 : (15 : Int32).toInt = 15 := rfl
  have z16 : (16 : Int32).toInt = 16 := rfl
  unfold f_CodeNames_assignCodes at ha
  unfold f_Mo_findCodes at hb
  refine lp_two (fun (s : Int32 × Int32 × (Nat → Int32)) (t : Int32 × Int32 × Int32 × Int32 × (Nat → Int32)) => s.1 = t.1 ∧ 1 ≤ s.1.toInt ∧ s.1.toInt ≤ 16 ∧ ((t.2.1 = 1 ∧ s.2.1 = 0) ∨ (t.2.1 = 0 ∧ 1 ≤ t.2.2.1.toInt ∧ t.2.2.1.toInt < s.1.toInt ∧ s.2.1 = (t.2.2.2.1 + 1) * pw (s.1 - 1 - t.2.2.1))) ∧ ∀ j : Nat, (j : Int) < dc.toInt → 1 ≤ (le9 j).toInt → (le9 j).toInt < s.1.toInt → s.2.2 j = t.2.2.2.2 j) (fun a d => ∀ j : Nat, (j : Int) < dc.toInt → 1 ≤ (le9 j).toInt → (le9 j).toInt ≤ 15 → a j = d j) ?_ _ _ _ _ ?_ a d ha hb
  · intro f g hfg s t hI a d ha hb
    obtain ⟨n, nx, cd⟩ := s
    obtain ⟨n9, fi, had, co, cd9⟩ := t
    dsimp only at hI
    obtain ⟨e, n0, n1, hC, hA⟩ := hI
    subst e
    unfold f_CodeNames_assignCodes_L4 at ha
    unfold f_Mo_findCodes_L9 at hb
    simp only [nl] at ha hb
    by_cases c : (15 : Int32) < n
    · have c9 := t_lt c
      rw [if_pos c] at ha
      rw [if_pos (Int32.le_iff_toInt_le.mpr (by omega))] at hb
      rw [← Option.some.inj ha, ← Option.some.inj hb]
      exact fun j hj h1 h2 => hA j hj h1 (by omega)
    · have c9 := t_le (Int32.not_lt.mp c)
      rw [if_neg c] at ha
      rw [if_neg (fun z => by have := t_le z; omega)] at hb
      have ni := inc_i (k := n) (by omega) (by omega)
      have sh : nx <<< ((1 : Int32) &&& 31) = 2 * nx := by
        have := sh1 (v := nx) (b := 0) (Or.inl rfl)
        rw [Int32.add_zero] at this
        rw [← this]
        exact (Int32.or_zero).symm
      rw [sh] at ha
      refine lp_two (fun (s : Int32 × Int32 × (Nat → Int32)) (t : Int32 × Int32 × Int32 × Int32 × (Nat → Int32)) => s.1 = t.1 ∧ 0 ≤ s.1.toInt ∧ ((t.2.1 = 1 ∧ s.2.1 = 0) ∨ (t.2.1 = 0 ∧ 1 ≤ t.2.2.1.toInt ∧ t.2.2.1.toInt ≤ n.toInt ∧ s.2.1 = (t.2.2.2.1 + 1) * pw (n - t.2.2.1))) ∧ ∀ j : Nat, (j : Int) < dc.toInt → 1 ≤ (le9 j).toInt → ((le9 j).toInt < n.toInt ∨ ((le9 j).toInt = n.toInt ∧ (j : Int) < s.1.toInt)) → s.2.2 j = t.2.2.2.2 j) (fun a d => ∀ j : Nat, (j : Int) < dc.toInt → 1 ≤ (le9 j).toInt → (le9 j).toInt ≤ 15 → a j = d j) ?_ _ _ _ _ ?_ a d ha hb
      · intro f1 g1 hfg1 s t hI a d ha hb
        obtain ⟨i, nx, cd⟩ := s
        obtain ⟨i9, fi, had, co, cd9⟩ := t
        dsimp only at hI
        obtain ⟨e, i0, hC, hA⟩ := hI
        subst e
        unfold f_CodeNames_assignCodes_L16 at ha
        unfold f_Mo_findCodes_L19 at hb
        simp only [jn, nl] at ha hb
        by_cases c2 : dc ≤ i
        · rw [if_pos c2] at ha hb
          have c29 := t_le c2
          refine hfg (n + 1, nx, cd) (n + 1, fi, had, co, cd9) ⟨rfl, by show 1 ≤ (n + 1).toInt; omega, by show (n + 1).toInt ≤ 16; omega, ?_, ?_⟩ a d ha hb
          · rcases hC with z | ⟨z1, z2, z3, z4⟩
            · exact Or.inl z
            · right
              refine ⟨z1, z2, by show had.toInt < (n + 1).toInt; omega, ?_⟩
              show nx = (co + 1) * pw (n + 1 - 1 - had)
              rw [Int32.add_sub_cancel]
              exact z4
          · intro j hj h1 h2
            have h2 : (le9 j).toInt < (n + 1).toInt := h2
            exact hA j hj h1 (by omega)
        · rw [if_neg c2] at ha hb
          have c29 := t_lt (Int32.not_le.mp c2)
          have iN := nat_of (n := i) (Int32.le_iff_toInt_le.mpr (by rw [z_0]; exact i0))
          have ii := inc_i (k := i) (by omega) (by omega)
          obtain ⟨_, ha⟩ := gq_e ha
          obtain ⟨_, hb⟩ := gq_e hb
          rw [hle _ (by omega)] at ha
          by_cases cl : le9 i.toNatClampNeg = n
          · rw [if_pos cl] at ha hb
            obtain ⟨_, ha⟩ := gq_e ha
            have go : ∀ x : Int32, x = nx → (gq i 16 <| g1 (i + 1, 0, n, x, upd cd9 i.toNatClampNeg x)) = some d → ∀ j : Nat, (j : Int) < dc.toInt → 1 ≤ (le9 j).toInt → (le9 j).toInt ≤ 15 → a j = d j := by
              intro x ex hb
              subst ex
              obtain ⟨_, hb⟩ := gq_e hb
              refine hfg1 (i + 1, x + 1, upd cd i.toNatClampNeg x) (i + 1, 0, n, x, upd cd9 i.toNatClampNeg x) ⟨rfl, by show 0 ≤ (i + 1).toInt; omega, Or.inr ⟨rfl, n0, Int.le_refl _, ?_⟩, ?_⟩ a d ha hb
              · show x + 1 = (x + 1) * pw (n - n)
                have p0 : pw 0 = 1 := rfl
                rw [Int32.sub_self, p0, Int32.mul_one]
              · intro j hj h1 h2
                have h2 : (le9 j).toInt < n.toInt ∨ ((le9 j).toInt = n.toInt ∧ (j : Int) < (i + 1).toInt) := h2
                dsimp only
                by_cases q : j = i.toNatClampNeg
                · rw [upd_c q, upd_c q]
                · rw [upd_n q, upd_n q]; exact hA j hj h1 (by omega)
            rcases hC with ⟨z1, z2⟩ | ⟨z1, z2, z3, z4⟩
            · subst z1
              rw [if_neg (by decide)] at hb
              obtain ⟨gx, egx, hb⟩ := lpx0 hb
              unfold f_Mo_findCodes_L55 at hb
              simp only [nl] at hb
              have hb : (gq i 16 <| g1 (i + 1, 0, n, 0, upd cd9 i.toNatClampNeg 0)) = some d := by
                by_cases q : n ≤ had
                · rw [if_pos q] at hb; exact hb
                · rw [if_neg q, if_neg (by decide)] at hb; exact hb
              exact go 0 z2.symm hb
            · subst z1
              rw [if_pos rfl] at hb
              exact go nx rfl (dbl (by omega) z2 z3 hb z4)
          · rw [if_neg cl] at ha hb
            refine hfg1 (i + 1, nx, cd) (i + 1, fi, had, co, cd9) ⟨rfl, by show 0 ≤ (i + 1).toInt; omega, hC, ?_⟩ a d ha hb
            intro j hj h1 h2
            have h2 : (le9 j).toInt < n.toInt ∨ ((le9 j).toInt = n.toInt ∧ (j : Int) < (i + 1).toInt) := h2
            dsimp only
            by_cases q : j = i.toNatClampNeg
            · have ne : ¬ (le9 j).toInt = n.toInt := fun z => cl (by rw [← q]; exact Int32.toInt_inj.mp z)
              exact hA j hj h1 (by omega)
            · exact hA j hj h1 (by omega)
      · refine ⟨rfl, p0_0, ?_, ?_⟩
        · rcases hC with ⟨z1, z2⟩ | ⟨z1, z2, z3, z4⟩
          · left
            refine ⟨z1, ?_⟩
            show (2 : Int32) * nx = 0
            rw [z2]
            decide
          · right
            refine ⟨z1, z2, by show had.toInt ≤ n.toInt; omega, ?_⟩
            show (2 : Int32) * nx = (co + 1) * pw (n - had)
            have sb : (n - 1 - had).toInt = n.toInt - 1 - had.toInt := by
              have s1 : (n - 1).toInt = n.toInt - 1 := by rw [yb (by rw [z_1]; omega) (by rw [z_1]; omega), z_1]
              rw [yb (by rw [s1]; omega) (by rw [s1]; omega), s1]
            have ps := (pw_s (n - 1 - had) (Int32.le_iff_toInt_le.mpr (by rw [z_0]; omega)) (Int32.le_iff_toInt_le.mpr (by show (n - 1 - had).toInt ≤ 13; omega))).1
            rw [g_nh] at ps
            rw [z4, ps]
            exact g_2p _ _
        · intro j hj h1 h2
          have h2 : (le9 j).toInt < n.toInt ∨ ((le9 j).toInt = n.toInt ∧ (j : Int) < (0 : Int)) := h2
          exact hA j hj h1 (by omega)
  · exact ⟨rfl, by show (1 : Int) ≤ 1; omega, by show (1 : Int) ≤ 16; omega, Or.inl ⟨rfl, rfl⟩, fun j hj h1 h2 => by have h2 : (le9 j).toInt < (1 : Int) := h2; omega⟩
theorem suit_CD {n dc : Int32} {wtC jtC sO leC cdC wt us ov sO9 le cd a1 a2 a3 a4 b1 b2 b3 b4 b5 : Nat → Int32} (n0 : 0 ≤ n.toInt) (hd : dc.toInt ≤ 16) (hc : ∀ s : Nat, cnI sO s n.toNatClampNeg = cnI sO9 s n.toNatClampNeg) (hSO : SO n dc sO9)
    (ha : f_CodeNames_suit n wtC jtC sO dc leC cdC = some (a1, a2, a3, a4)) (hb : f_Mo_findLengths dc n wt us ov sO9 le = some (b1, b2, b3, b4)) (hb2 : f_Mo_findCodes dc b4 cd = some b5) : CD dc a3 a4 b4 b5 := by
  obtain ⟨h1, h2⟩ := suit2 n0 hd hc hSO ha hb
  have h3 := codes2 hd (fun j hj => (h1 j (by omega)).1) h2 hb2
  intro j hj
  obtain ⟨e, r0, r1⟩ := h1 j (by omega)
  rw [e] at r0 r1
  refine ⟨e, r0, r1, ?_⟩
  by_cases q : b4 j = 0
  · exact Or.inl q
  · right
    refine h3 j hj ?_ r1
    have : ¬ (b4 j).toInt = 0 := fun z => q (zero_t.mpr z)
    omega
