theorem tc_clear {w d : Nat → Int32} {n : Nat} {o : Int32 × Int32 × (Nat → Int32) × Int32 × Int32 × (Nat → Int32)} (h : f_Top_clear w n d = some o) : o.1 = 0 := by
  unfold f_Top_clear at h
  obtain ⟨a, _, h⟩ := bd_e h
  obtain ⟨b, _, h⟩ := bd_e h
  have h := Option.some.inj h
  rw [← h]
theorem lp_all {σ ρ : Type} {F : (σ → Option ρ) → σ → Option ρ} (Q : ρ → Prop) (hF : ∀ (self : σ → Option ρ), (∀ s o, self s = some o → Q o) → ∀ s o, F self s = some o → Q o) : ∀ (n : Nat) (s : σ) (o : ρ), lp F n s = some o → Q o := by
  intro n
  induction n with
  | zero => intro s o h; exact absurd h (by simp [lp])
  | succ n ih => intro s o h; exact hF (lp F n) ih s o h
theorem mc_clear {w d : Nat → Int32} {o : Int32 × Int32 × Int32 × Int32 × Int32 × Int32 × (Nat → Int32) × (Nat → Int32)} (h : f_Mo_clear w d = some o) : o.2.1 = 0 := by
  unfold f_Mo_clear at h
  refine lp_all (fun o : Int32 × Int32 × Int32 × Int32 × Int32 × Int32 × (Nat → Int32) × (Nat → Int32) => o.2.1 = 0) ?_ _ _ _ h
  intro self hs s o h
  obtain ⟨v, a⟩ := s
  unfold f_Mo_clear_L32 at h
  dsimp only at h
  by_cases c : (4 : Int32) ≤ v
  · rw [if_pos c] at h
    refine lp_all (fun o : Int32 × Int32 × Int32 × Int32 × Int32 × Int32 × (Nat → Int32) × (Nat → Int32) => o.2.1 = 0) ?_ _ _ _ h
    intro self hs s o h
    obtain ⟨v, b⟩ := s
    unfold f_Mo_clear_L52 at h
    dsimp only at h
    by_cases c : (576 : Int32) ≤ v
    · rw [if_pos c] at h
      have h := Option.some.inj h
      rw [← h]
    · rw [if_neg c] at h
      obtain ⟨_, h⟩ := gq_e h
      exact hs _ _ h
  · rw [if_neg c] at h
    obtain ⟨_, h⟩ := gq_e h
    exact hs _ _ h
theorem sc_add {c : Int32} : c + 1 - 1 = c := by
  have := Int32.add_sub_cancel c 1
  exact this
/-- symbol of the class: which answer, and what changes -/
theorem sy_T (out : Nat → Int64) (c : Int32) (w h : Nat → Int32) (s : Nat → Int64) (p1 p2 : Int32) (hc : 0 ≤ c ∧ c ≤ 16) :
    ((p1 < 1 ∨ 8 < p1 ∨ p2 < 1 ∨ 8 < p2) ∧ f_Law_symbol out c w h s p1 p2 = some (1, out, c, w, h, s)) ∨
    (¬ (p1 < 1 ∨ 8 < p1 ∨ p2 < 1 ∨ 8 < p2) ∧ c = 16 ∧ f_Law_symbol out c w h s p1 p2 = some (2, out, c, w, h, s)) ∨
    (¬ (p1 < 1 ∨ 8 < p1 ∨ p2 < 1 ∨ 8 < p2) ∧ c < 16 ∧ f_Law_symbol out c w h s p1 p2 = some (0, vp_updL out ((0 : Int32)).toNatClampNeg c.toInt64, c + 1, upd w c.toNatClampNeg p1, upd h c.toNatClampNeg p2, vp_updL s c.toNatClampNeg 0)) := by
  by_cases a1 : p1 < 1
  · exact Or.inl ⟨Or.inl a1, by simp [f_Law_symbol, f_Top_symbol, f_Top_isWithin, bd, jn, a1]⟩
  by_cases a2 : 8 < p1
  · exact Or.inl ⟨Or.inr (Or.inl a2), by simp [f_Law_symbol, f_Top_symbol, f_Top_isWithin, bd, jn, a1, a2]⟩
  by_cases a3 : p2 < 1
  · exact Or.inl ⟨Or.inr (Or.inr (Or.inl a3)), by simp [f_Law_symbol, f_Top_symbol, f_Top_isWithin, bd, jn, a1, a2, a3]⟩
  by_cases a4 : 8 < p2
  · exact Or.inl ⟨Or.inr (Or.inr (Or.inr a4)), by simp [f_Law_symbol, f_Top_symbol, f_Top_isWithin, bd, jn, a1, a2, a3, a4]⟩
  have nb : ¬ (p1 < 1 ∨ 8 < p1 ∨ p2 < 1 ∨ 8 < p2) := by
    rintro (q | q | q | q)
    · exact a1 q
    · exact a2 q
    · exact a3 q
    · exact a4 q
  by_cases a5 : c < 16
  · refine Or.inr (Or.inr ⟨nb, a5, ?_⟩)
    have g := in_gq (n := 16) (N := 16) rfl hc.1 a5
    have g0 := in_gq (i := 0) (n := 1) (N := 1) rfl (by decide) (by decide)
    have e : c + 1 - 1 = c := sc_add
    simp only [f_Law_symbol, f_Top_symbol, f_Top_isWithin, f_Dictionary_add, bd, jn, nl, gq, if_neg a1, if_neg a2, if_neg a3, if_neg a4, if_pos a5, if_neg g, if_neg g0, Option.bind_some, e]
    rfl
  · have e : c = 16 := by
      have q := Int32.not_lt.mp a5
      exact Int32.le_antisymm hc.2 q
    exact Or.inr (Or.inl ⟨nb, e, by simp [f_Law_symbol, f_Top_symbol, f_Top_isWithin, bd, jn, a1, a2, a3, a4, a5]⟩)
/-- symbol of the reference -/
theorem sy_M (c : Int32) (w h : Nat → Int32) (s : Nat → Int64) (p1 p2 : Int32) (hc : 0 ≤ c ∧ c ≤ 16) :
    ((p1 < 1 ∨ 8 < p1 ∨ p2 < 1 ∨ 8 < p2) ∧ f_Mo_symbol c w h s p1 p2 = some (0, 1, c, w, h, s)) ∨
    (¬ (p1 < 1 ∨ 8 < p1 ∨ p2 < 1 ∨ 8 < p2) ∧ c = 16 ∧ f_Mo_symbol c w h s p1 p2 = some (0, 2, c, w, h, s)) ∨
    (¬ (p1 < 1 ∨ 8 < p1 ∨ p2 < 1 ∨ 8 < p2) ∧ c < 16 ∧ f_Mo_symbol c w h s p1 p2 = some (c, 0, c + 1, upd w c.toNatClampNeg p1, upd h c.toNatClampNeg p2, vp_updL s c.toNatClampNeg 0)) := by
  by_cases a1 : p1 < 1
  · exact Or.inl ⟨Or.inl a1, by simp [f_Mo_symbol, f_Mo_isIn, bd, jn, a1]⟩
  by_cases a2 : 8 < p1
  · exact Or.inl ⟨Or.inr (Or.inl a2), by simp [f_Mo_symbol, f_Mo_isIn, bd, jn, a1, a2]⟩
  by_cases a3 : p2 < 1
  · exact Or.inl ⟨Or.inr (Or.inr (Or.inl a3)), by simp [f_Mo_symbol, f_Mo_isIn, bd, jn, a1, a2, a3]⟩
  by_cases a4 : 8 < p2
  · exact Or.inl ⟨Or.inr (Or.inr (Or.inr a4)), by simp [f_Mo_symbol, f_Mo_isIn, bd, jn, a1, a2, a3, a4]⟩
  have nb : ¬ (p1 < 1 ∨ 8 < p1 ∨ p2 < 1 ∨ 8 < p2) := by
    rintro (q | q | q | q)
    · exact a1 q
    · exact a2 q
    · exact a3 q
    · exact a4 q
  by_cases a5 : c = 16
  · exact Or.inr (Or.inl ⟨nb, a5, by simp [f_Mo_symbol, f_Mo_isIn, bd, jn, a1, a2, a3, a4, a5]⟩)
  · have a6 : c < 16 := by
      rcases Int32.lt_or_eq_of_le hc.2 with q | q
      · exact q
      · exact absurd q a5
    refine Or.inr (Or.inr ⟨nb, a6, ?_⟩)
    have g := in_gq (n := 16) (N := 16) rfl hc.1 a6
    have e : c + 1 - 1 = c := sc_add
    have z : (0 : Int32) ≤ 0 := by decide
    simp only [f_Mo_symbol, f_Mo_isIn, bd, jn, nl, gq, if_neg a1, if_neg a2, if_neg a3, if_neg a4, if_neg a5, if_neg g, if_pos z, Option.bind_some, e]
    rfl
